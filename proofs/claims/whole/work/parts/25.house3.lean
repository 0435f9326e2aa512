/-! ===== set, rule, visitors, tape and waiting numbers ===== -/
theorem k65.gu {τ : gS} {c i : Nat} {v : Int32} (h : 65 ≠ c) : k65 τ (gu τ c i v) := ⟨by rw [gu_ne _ _ _ h], by rw [gu_ne _ _ _ h], by rw [gu_ne _ _ _ h]⟩
theorem if10 {α : Type} {a b : α} : (if (1 : Int32) = 0 then a else b) = b := if_neg (by decide)
theorem if00 {α : Type} {a b : α} : (if (0 : Int32) = 0 then a else b) = a := if_pos rfl
def iOf (w v : Int32) : Int32 := if w = 1 then wi v 0 7 else if w = 2 then wi v 0 99 else if w = 3 then wi v 0 1 else 0
theorem wi01 (x a b : Int32) : wi x a b = 0 ∨ wi x a b = 1 := by
  unfold wi; split
  · exact Or.inl rfl
  · exact Or.inr rfl
theorem x10_isOf {Z : List gH} {w v : Int32} {σ : gS} : F_X10_isOf Z w v σ = some (iOf w v, σ) := by
  unfold F_X10_isOf iOf
  split
  · rw [x10_isRoom]; exact mZwi
  · split
    · rw [x10_in]; exact mZwi
    · split
      · rw [x10_in, mCall_some]
        rcases wi01 v 0 1 with e | e <;> rw [e] <;> rfl
      · rfl
/-- one of the scalars that may change by themselves -/
theorem HP.sc {Z : List gH} {σ τ : gS} {h a N V T M B : Nat} (hp : HP Z σ τ h a N V T M B) (hh : h + 8 < 90) {i : Nat} {v : Int32} (hi : i = 10 ∨ i = 14 ∨ i = 17) {V2 M2 B2 : Nat} (hV : V2 ≤ 6) (hM : M2 ≤ 20000) (hB : B2 ≤ 30000000) (e10 : (if i = 10 then v else σ h 10) = Int32.ofNat V2) (e17 : (if i = 17 then v else σ h 17) = Int32.ofNat M2) (e14 : (if i = 14 then v else σ h 14) = Int32.ofNat B2) : HP Z (gu σ h i v) (gu τ a (mp 0 i) v) h a N V2 T M2 B2 := by
  obtain ⟨p1, p2, p3, p4, p5, p6, p7⟩ := hp
  have hd : dom 12 0 i := by unfold dom; omega
  have g : ∀ q, gu σ h i v h q = if i = q then v else σ h q := fun q => by
    rw [gu_at]
    by_cases e : q = i
    · rw [if_pos ⟨rfl, e⟩, if_pos e.symm]
    · rw [if_neg (fun z => e z.2), if_neg (fun z => e z.symm)]
  refine ⟨⟨p1.1, hV, p1.2.2.1, hM, hB⟩, ⟨by rw [g, if_neg (by omega)]; exact p2.1, by rw [g]; exact e10, by rw [g, if_neg (by omega)]; exact p2.2.2.1, by rw [g]; exact e17, by rw [g]; exact e14, by rw [g, if_neg (by omega)]; exact p2.2.2.2.2.2⟩, p3.upd p1.1 (j := 0) hd v, fun q hq => ?_, fun q hq => ?_, fun q hq => ?_, p7.fr (fun c hc => gu_ne _ _ _ (by omega)) (gu_ne _ _ _ (by omega)) (fun q hq => gu_off _ _ (Or.inr (by have := mp_lt hd; omega)))⟩
  · rw [gu_ne _ _ _ (by omega), gu_ne _ _ _ (by omega), gu_ne _ _ _ (by omega), gu_ne _ _ _ (by omega)]; exact p4 q hq
  · rw [gu_ne _ _ _ (by omega)]; exact p5 q hq
  · rw [gu_ne _ _ _ (by omega)]; exact p6 q hq
theorem okj {j : Nat} {v : Int32} {m : Nat} (hj : (j = 1 ∧ m = 5) ∨ (j = 2 ∧ m = 7) ∨ (j = 3 ∧ m = 99) ∨ (j = 4 ∧ m = 1) ∨ (j = 5 ∧ m = 99) ∨ (j = 6 ∧ m = 2)) (i : Nat) (hv : le v m) : okv j i v := by
  unfold okv
  rcases hj with ⟨rfl, rfl⟩ | ⟨rfl, rfl⟩ | ⟨rfl, rfl⟩ | ⟨rfl, rfl⟩ | ⟨rfl, rfl⟩ | ⟨rfl, rfl⟩
  · exact Or.inr (Or.inl ⟨rfl, hv⟩)
  · exact Or.inr (Or.inr (Or.inl ⟨rfl, hv⟩))
  · exact Or.inr (Or.inr (Or.inr (Or.inl ⟨rfl, hv⟩)))
  · exact Or.inr (Or.inr (Or.inr (Or.inr (Or.inl ⟨rfl, hv⟩))))
  · exact Or.inr (Or.inr (Or.inr (Or.inr (Or.inr (Or.inl ⟨rfl, hv⟩)))))
  · exact Or.inr (Or.inr (Or.inr (Or.inr (Or.inr (Or.inr (Or.inl ⟨rfl, hv⟩))))))
section
variable {Z : List gH}
theorem set_aux (hZ : Lay Z) {σ τ : gS} (hr : RR Z σ τ) {N V T M B : Nat} (hp : HP Z σ τ 4 66 N V T M B) (hm : M ≤ 9999 ∧ B ≤ 1188 * M) {w m k : Nat} (hw : (w = 1 ∧ m = 7) ∨ (w = 2 ∧ m = 99) ∨ (w = 3 ∧ m = 1)) (hk : k < N) (z : Int32) : ∃ r σ2 τ2, F_X9_replaced Z (5 + w) (Int32.ofNat k) z (Int32.ofNat m) σ = some (r, σ2) ∧ (if wi z 0 (Int32.ofNat m) = 0 then some (-1000000001, τ) else F_X10_swaps Z (82 + 4 * Int32.ofNat k + Int32.ofNat w) z τ) = some (r, τ2) ∧ RR Z σ2 τ2 ∧ (∀ c, 65 ≤ c → c < 90 → σ2 c = σ c) ∧ ∀ c, c < 65 ∨ 90 ≤ c → τ2 c = τ c := by
  have hN := hp.1.1
  have hzl : zl Z (5 + w) = 12 := by
    rcases hw with ⟨rfl, -⟩ | ⟨rfl, -⟩ | ⟨rfl, -⟩
    · exact zl_at (hZ.at (i := 6) rfl)
    · exact zl_at (hZ.at (i := 7) rfl)
    · exact zl_at (hZ.at (i := 8) rfl)
  rcases rng z m (by omega) with ⟨v, hv, rfl⟩ | ho
  · have e : wi (Int32.ofNat v) 0 (Int32.ofNat m) = 1 := wi_in hv (by omega)
    rw [x9_replaced hzl (by decide) (by omega) hv (by omega), e, if_neg (by decide), ix4, x10_swaps (by omega)]
    have em : mp (w + 1) k = 82 + 4 * k + w := by rcases hw with ⟨rfl, -⟩ | ⟨rfl, -⟩ | ⟨rfl, -⟩ <;> rfl
    have h1 := hr.put hp hm (j := w + 1) (i := k) (by unfold dom; omega) (okj (m := m) (by omega) k (le_k hv))
    rw [em, show 4 + (w + 1) = 5 + w by omega] at h1
    have h2 := hp.2.2.1 (w + 1) k (by unfold dom; omega)
    rw [em, show 4 + (w + 1) = 5 + w by omega] at h2
    exact ⟨_, _, _, rfl, by rw [h2], h1, fun c q1 q2 => gu_ne _ _ _ (by omega), frM⟩
  · rw [x9_replaced_out ho, wi_out ho]
    exact same hr rfl rfl
theorem sim_set (hZ : Lay Z) (x y z : Int32) : Sim Z (F_X9_set Z x y z) (F_X10_set Z x y z) := by
  intro σ τ hr
  obtain ⟨⟨N, V, T, M, B, hp, hm, hi⟩, -⟩ := id hr
  have hN := hp.1.1
  have e9 : σ 4 9 = Int32.ofNat N := hp.2.1.1
  have t9 : τ 66 1 = Int32.ofNat N := (hp.2.2.1 0 9 (by unfold dom; omega)).symm.trans e9
  unfold F_X9_set F_X10_set
  rw [x9_isThing, x10_isThing, mCall_some, mCall_some, e9, t9]
  rcases rngN x N (by omega) with ⟨k, hk, rfl⟩ | ho
  · rw [wi_inN hk (by omega), if10, if10, x10_isOf, mCall_some]
    have fin : ∀ (w m : Nat) (hw : (w = 1 ∧ m = 7) ∨ (w = 2 ∧ m = 99) ∨ (w = 3 ∧ m = 1)), ∃ r σ2 τ2, mCall (F_X9_replaced Z (5 + w) (Int32.ofNat k) z (Int32.ofNat m) σ) (fun r s => some (r, s)) = some (r, σ2) ∧ (if wi z 0 (Int32.ofNat m) = 0 then some (-1000000001, τ) else mCall (F_X10_swaps Z (82 + 4 * Int32.ofNat k + Int32.ofNat w) z τ) (fun r s => some (r, s))) = some (r, τ2) ∧ RR Z σ2 τ2 ∧ (∀ c, 65 ≤ c → c < 90 → σ2 c = σ c) ∧ ∀ c, c < 65 ∨ 90 ≤ c → τ2 c = τ c := by
      intro w m hw
      obtain ⟨r, σ2, τ2, h1, h2, h3⟩ := set_aux hZ hr hp hm hw hk z
      refine ⟨r, σ2, τ2, by rw [h1]; rfl, ?_, h3⟩
      rw [← h2]
      split
      · rfl
      · cases hF : F_X10_swaps Z (82 + 4 * Int32.ofNat k + Int32.ofNat w) z τ with
        | none => rfl
        | some q => rfl
    by_cases h1 : y = 1
    · subst h1
      exact fin 1 7 (by omega)
    · by_cases h2 : y = 2
      · subst h2
        exact fin 2 99 (by omega)
      · by_cases h3 : y = 3
        · subst h3
          exact fin 3 1 (by omega)
        · rw [if_neg h1, if_neg h2, if_neg h3]
          have e : iOf y z = 0 := by unfold iOf; rw [if_neg h1, if_neg h2, if_neg h3]
          rw [e]
          exact same hr rfl rfl
  · rw [wi_out ho]; exact same hr rfl rfl
end
section
variable {Z : List gH}
theorem sim_rule (x y : Int32) : Sim Z (F_X9_rule Z x y) (F_X10_rule Z x y) := by
  intro σ τ hr
  obtain ⟨⟨N, V, T, M, B, hp, hm, hi⟩, -⟩ := id hr
  unfold F_X9_rule F_X10_rule
  rw [x10_in, mCall_some]
  by_cases h0 : x = 0
  · subst h0
    have e : wi 0 0 1 = 1 := rfl
    rw [if_pos rfl, e, if10, if_pos rfl, x9_within, x10_in, mCall_some, mCall_some]
    rcases rng y 100 (by decide) with ⟨v, hv, rfl⟩ | ho
    · have e2 : wi (Int32.ofNat v) 0 100 = 1 := wi_in (b := 100) hv (by decide)
      have e3 : F_X10_swaps Z (3 + 0) (Int32.ofNat v) τ = some (τ 66 3, gu τ 66 3 (Int32.ofNat v)) := x10_swaps (q := 3) (by decide)
      rw [e2, if10, if10, e3]
      refine ⟨_, _, _, rfl, ?_, hr.put hp hm (j := 0) (i := 12) (by unfold dom; omega) (by unfold okv; omega), frC (j := 0) (by omega), frM⟩
      rw [mCall_some, show τ 66 3 = σ 4 12 from (hp.2.2.1 0 12 (by unfold dom; omega)).symm]; rfl
    · have e2 : wi y 0 100 = 0 := wi_out ho
      rw [e2, if00, if00]
      unfold F_X9_rule_J32
      rw [if_neg (by decide)]
      exact same hr rfl rfl
  · rw [if_neg h0]
    unfold F_X9_rule_J32
    by_cases h1 : x = 1
    · subst h1
      have e : wi 1 0 1 = 1 := rfl
      rw [if_pos rfl, e, if10, if10, x9_within, x10_in, mCall_some, mCall_some]
      rcases rng y 9 (by decide) with ⟨v, hv, rfl⟩ | ho
      · have e2 : wi (Int32.ofNat v) 0 9 = 1 := wi_in (b := 9) hv (by decide)
        have e3 : F_X10_swaps Z (3 + 1) (Int32.ofNat v) τ = some (τ 66 4, gu τ 66 4 (Int32.ofNat v)) := x10_swaps (q := 4) (by decide)
        rw [e2, if10, if10, e3]
        refine ⟨_, _, _, rfl, ?_, hr.put hp hm (j := 0) (i := 13) (by unfold dom; omega) (by unfold okv; exact Or.inl ⟨rfl, Or.inr (Or.inr (Or.inr (Or.inr ⟨rfl, le_k hv⟩)))⟩), frC (j := 0) (by omega), frM⟩
        rw [mCall_some, show τ 66 4 = σ 4 13 from (hp.2.2.1 0 13 (by unfold dom; omega)).symm]; rfl
      · have e2 : wi y 0 9 = 0 := wi_out ho
        rw [e2, if00, if00]
        exact same hr rfl rfl
    · rw [if_neg h1]
      have e : wi x 0 1 = 0 := by
        rcases rng x 1 (by decide) with ⟨k, hk, rfl⟩ | ho
        · exfalso
          rcases (show k = 0 ∨ k = 1 by omega) with rfl | rfl
          · exact h0 rfl
          · exact h1 rfl
        · exact wi_out ho
      rw [e, if00]
      exact same hr rfl rfl
theorem sim_likes (hZ : Lay Z) (x y : Int32) : Sim Z (F_X9_likes Z x y) (F_X10_likes Z x y) := by
  intro σ τ hr
  obtain ⟨⟨N, V, T, M, B, hp, hm, hi⟩, -⟩ := id hr
  have hV := hp.1.2.1
  have e9 : σ 4 10 = Int32.ofNat V := hp.2.1.2.1
  have t9 : τ 66 5 = Int32.ofNat V := (hp.2.2.1 0 10 (by unfold dom; omega)).symm.trans e9
  unfold F_X9_likes F_X10_likes
  rw [x9_isVisitor, x10_in, mCall_some, mCall_some, e9, t9]
  rcases rngN x V (by omega) with ⟨k, hk, rfl⟩ | ho
  · rw [wi_inN hk (by omega), if10, if10, x10_in, mCall_some]
    rcases rng y 255 (by decide) with ⟨v, hv, rfl⟩ | ho
    · have e2 : wi (Int32.ofNat v) 0 255 = 1 := wi_in (b := 255) hv (by decide)
      have e3 : F_X9_replaced Z 11 (Int32.ofNat k) (Int32.ofNat v) 255 σ = some (σ 11 k, gu σ 11 k (Int32.ofNat v)) := x9_replaced (m := 255) (zl_at (hZ.at (i := 11) rfl)) (by decide) (by omega) hv (by decide)
      have e4 : (130 : Int32) + Int32.ofNat k = Int32.ofNat (130 + k) := addk 130 k
      rw [e3, e2, if10, e4, x10_swaps (by omega)]
      refine ⟨_, _, _, rfl, ?_, hr.put hp hm (j := 7) (i := k) (by unfold dom; omega) (by unfold okv; omega), frC (j := 7) (by omega), frM⟩
      rw [mCall_some, show τ 66 (130 + k) = σ 11 k from (hp.2.2.1 7 k (by unfold dom; omega)).symm]; rfl
    · have e2 : wi y 0 255 = 0 := wi_out ho
      have e3 : F_X9_replaced Z 11 (Int32.ofNat k) y 255 σ = some (-1000000001, σ) := x9_replaced_out ho
      rw [e2, e3, if00]; exact same hr rfl rfl
  · rw [wi_out ho, if00, if00]; exact same hr rfl rfl
theorem sim_visitor (x : Int32) : Sim Z (F_X9_visitor Z x) (F_X10_visitor Z x) := by
  intro σ τ hr
  obtain ⟨⟨N, V, T, M, B, hp, hm, hi⟩, -⟩ := id hr
  have hV := hp.1.2.1
  have e9 : σ 4 10 = Int32.ofNat V := hp.2.1.2.1
  have t9 : τ 66 5 = Int32.ofNat V := (hp.2.2.1 0 10 (by unfold dom; omega)).symm.trans e9
  unfold F_X9_visitor F_X10_visitor
  rw [x9_within, x10_in, mCall_some, mCall_some]
  rcases rng x 255 (by decide) with ⟨v, hv, rfl⟩ | ho
  · have e2 : wi (Int32.ofNat v) 0 255 = 1 := wi_in (b := 255) hv (by decide)
    rw [e2, if10, if10, e9, t9]
    by_cases h6 : V < 6
    · have c1 : Int32.ofNat V < 6 := (ltk (b := 6) (by omega) (by decide)).mpr h6
      have c2 : ¬ Int32.ofNat V = 6 := fun q => by have := (eqk (b := 6) (by omega) (by decide)).mp q; omega
      have e4 : (130 : Int32) + Int32.ofNat V = Int32.ofNat (130 + V) := addk 130 V
      rw [if_pos c1, if_neg c2, mInk h6 (by decide), nnk (by omega), mLet_eq, mLet_eq, e4, mInk (by omega) (by decide), nnk (by omega), mLet_eq, mLet_eq]
      have f1 : gu σ 11 V (Int32.ofNat v) 4 10 = Int32.ofNat V := by rw [gu_off _ _ (Or.inl (by decide))]; exact e9
      have f2 : gu τ 66 (130 + V) (Int32.ofNat v) 66 5 = Int32.ofNat V := by rw [gu_off _ _ (Or.inr (by omega))]; exact t9
      have e5 : Int32.ofNat V + 1 = Int32.ofNat (V + 1) := addk V 1
      rw [f1, f2, gu_self, gu_self, e5]
      have hr1 := hr.put hp hm (j := 7) (i := V) (by unfold dom; omega) (v := Int32.ofNat v) (by unfold okv; omega)
      have hp1 := hp.upd (by omega) (j := 7) (i := V) (by unfold dom; omega) (v := Int32.ofNat v) (by unfold okv; omega)
      have hp2 := hp1.sc (by omega) (i := 10) (v := Int32.ofNat (V + 1)) (Or.inl rfl) (V2 := V + 1) (by omega) hp.1.2.2.2.1 hp.1.2.2.2.2 (if_pos rfl) ((if_neg (by decide)).trans hp1.2.1.2.2.2.1) ((if_neg (by decide)).trans hp1.2.1.2.2.2.2.1)
      refine ⟨_, _, _, rfl, rfl, hr1.now hp1 (fun c _ hc => gu_ne _ _ _ (by omega)) (fun c _ hc => gu_ne _ _ _ hc) (k65.gu (by decide)) hp2 hm (Nat.le_refl T), fun c q1 q2 => ?_, fun c q => ?_⟩
      · rw [gu_ne _ _ _ (by omega), gu_ne _ _ _ (by omega)]
      · rw [gu_ne _ _ _ (by omega), gu_ne _ _ _ (by omega)]
    · have c1 : ¬ Int32.ofNat V < 6 := fun q => h6 ((ltk (b := 6) (by omega) (by decide)).mp q)
      have c2 : Int32.ofNat V = 6 := by rw [show V = 6 by omega]; rfl
      rw [if_neg c1, if_pos c2]; exact same hr rfl rfl
  · have e2 : wi x 0 255 = 0 := wi_out ho
    rw [e2, if00, if00]; exact same hr rfl rfl
end
