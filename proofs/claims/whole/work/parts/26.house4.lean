/-! ===== one more thing; the tape's length; waiting numbers ===== -/
theorem RR.other {Z : List gH} {σ τ σ2 τ2 : gS} (h : RR Z σ τ) (h1 : ∀ c, (4 ≤ c ∧ c ≤ 21) ∨ 90 ≤ c → σ2 c = σ c) (h2 : σ2 0 12 = σ 0 12) (h3 : τ2 66 = τ 66) (h4 : τ2 67 = τ 67) (h5 : τ2 65 3 = τ 65 3) (a : SHR σ2 τ2) (b : SLR σ2 τ2) (c : TPR σ2 τ2) (d : WTR σ2 τ2) (e : KCR τ2) : RR Z σ2 τ2 := by
  obtain ⟨⟨N, V, T, M, B, hp, hm, hi⟩, -⟩ := h
  exact ⟨⟨N, V, T, M, B, hp.fr (fun j hj => h1 _ (by omega)) (fun c hc => h1 c (by omega)) h3, hm, hi.fr (Nat.le_refl T) h2 (fun c q1 q2 => h1 c (by omega)) (fun c hc => h1 c (by omega)) h5 h4⟩, a, b, c, d, e⟩
theorem HP.grow {Z : List gH} {σ τ : gS} {h a N V T M B : Nat} (hp : HP Z σ τ h a N V T M B) (hh : h + 8 < 90) (hN : N < 12) (he : ∀ j, 1 ≤ j → j ≤ 4 → σ (h + j) N = τ a (mp j N)) (hl : le (σ (h + 1) N) 5 ∧ le (σ (h + 2) N) 7 ∧ le (σ (h + 3) N) 99 ∧ le (σ (h + 4) N) 1) : HP Z (gu σ h 9 (Int32.ofNat (N + 1))) (gu τ a 1 (Int32.ofNat (N + 1))) h a (N + 1) V T M B := by
  obtain ⟨p1, p2, p3, p4, p5, p6, p7⟩ := hp
  have hc : HC (N + 1) σ τ h a := by
    intro j i hd
    by_cases e : 1 ≤ j ∧ j ≤ 4 ∧ i = N
    · obtain ⟨e1, e2, rfl⟩ := e
      exact he j e1 e2
    · refine p3 j i ?_
      unfold dom at hd ⊢
      omega
  have hd : dom 12 0 9 := by unfold dom; omega
  refine ⟨⟨by omega, p1.2⟩, ⟨by rw [gu_self], by rw [gu_off _ _ (Or.inr (by decide))]; exact p2.2.1, by rw [gu_off _ _ (Or.inr (by decide))]; exact p2.2.2.1, by rw [gu_off _ _ (Or.inr (by decide))]; exact p2.2.2.2.1, by rw [gu_off _ _ (Or.inr (by decide))]; exact p2.2.2.2.2.1, by rw [gu_off _ _ (Or.inr (by decide))]; exact p2.2.2.2.2.2⟩, HC.upd (by omega) hc (j := 0) (i := 9) hd _, fun q hq => ?_, fun q hq => ?_, fun q hq => ?_, p7.fr (fun c hc => gu_ne _ _ _ (by omega)) (gu_ne _ _ _ (by omega)) (fun q hq => gu_off _ _ (Or.inr (by omega)))⟩
  · rw [gu_ne _ _ _ (by omega), gu_ne _ _ _ (by omega), gu_ne _ _ _ (by omega), gu_ne _ _ _ (by omega)]
    by_cases e : q = N
    · rw [e]; exact hl
    · exact p4 q (by omega)
  · rw [gu_ne _ _ _ (by omega)]; exact p5 q hq
  · rw [gu_ne _ _ _ (by omega)]; exact p6 q hq
section
variable {Z : List gH}
/-- one more thing on both sides -/
theorem add_thing {σ τ : gS} (hr : RR Z σ τ) {N V T M B : Nat} (hp : HP Z σ τ 4 66 N V T M B) (hm : M ≤ 9999 ∧ B ≤ 1188 * M) (hN : N < 12) {a b c d : Nat} (ha : a ≤ 5) (hb : b ≤ 7) (hc : c ≤ 99) (hd : d ≤ 1) : ∃ σ2 τ2, F_X0_addThing Z 4 (Int32.ofNat a) (Int32.ofNat b) (Int32.ofNat c) (Int32.ofNat d) σ = some (Int32.ofNat N, σ2) ∧ F_X10_comes Z (Int32.ofNat a) (Int32.ofNat b) (Int32.ofNat c) (Int32.ofNat d) τ = some (Int32.ofNat N, τ2) ∧ RR Z σ2 τ2 ∧ HP Z σ2 τ2 4 66 (N + 1) V T M B ∧ σ2 4 18 = σ 4 18 ∧ (∀ c, 65 ≤ c → c < 90 → σ2 c = σ c) ∧ ∀ c, c < 65 ∨ 90 ≤ c → τ2 c = τ c := by
  have e9 : σ 4 9 = Int32.ofNat N := hp.2.1.1
  have t9 : τ 66 1 = Int32.ofNat N := (hp.2.2.1 0 9 (by unfold dom; omega)).symm.trans e9
  have e5 : Int32.ofNat N + 1 = Int32.ofNat (N + 1) := addk N 1
  have e6 : Int32.ofNat (N + 1) - 1 = Int32.ofNat N := subk (b := 1) (by omega)
  have hp1 := hp.upd (by omega) (j := 1) (i := N) (by unfold dom; omega) (okj (m := 5) (by omega) N (le_k ha))
  have hp2 := hp1.upd (by omega) (j := 2) (i := N) (by unfold dom; omega) (okj (m := 7) (by omega) N (le_k hb))
  have hp3 := hp2.upd (by omega) (j := 3) (i := N) (by unfold dom; omega) (okj (m := 99) (by omega) N (le_k hc))
  have hp4 := hp3.upd (by omega) (j := 4) (i := N) (by unfold dom; omega) (okj (m := 1) (by omega) N (le_k hd))
  have hr1 := hr.put hp hm (j := 1) (i := N) (by unfold dom; omega) (okj (m := 5) (by omega) N (le_k ha))
  have hr2 := hr1.put hp1 hm (j := 2) (i := N) (by unfold dom; omega) (okj (m := 7) (by omega) N (le_k hb))
  have hr3 := hr2.put hp2 hm (j := 3) (i := N) (by unfold dom; omega) (okj (m := 99) (by omega) N (le_k hc))
  have hr4 := hr3.put hp3 hm (j := 4) (i := N) (by unfold dom; omega) (okj (m := 1) (by omega) N (le_k hd))
  generalize hs4 : gu (gu (gu (gu σ (4 + 1) N (Int32.ofNat a)) (4 + 2) N (Int32.ofNat b)) (4 + 3) N (Int32.ofNat c)) (4 + 4) N (Int32.ofNat d) = s4 at hp4 hr4
  generalize ht4 : gu (gu (gu (gu τ 66 (mp 1 N) (Int32.ofNat a)) 66 (mp 2 N) (Int32.ofNat b)) 66 (mp 3 N) (Int32.ofNat c)) 66 (mp 4 N) (Int32.ofNat d) = t4 at hp4 hr4
  have v1 : s4 5 N = Int32.ofNat a := by rw [← hs4, gu_off _ _ (Or.inl (by decide)), gu_off _ _ (Or.inl (by decide)), gu_off _ _ (Or.inl (by decide))]; exact gu_self _ _ _ _
  have v2 : s4 6 N = Int32.ofNat b := by rw [← hs4, gu_off _ _ (Or.inl (by decide)), gu_off _ _ (Or.inl (by decide))]; exact gu_self _ _ _ _
  have v3 : s4 7 N = Int32.ofNat c := by rw [← hs4, gu_off _ _ (Or.inl (by decide))]; exact gu_self _ _ _ _
  have v4 : s4 8 N = Int32.ofNat d := by rw [← hs4]; exact gu_self _ _ _ _
  have m1 : mp 1 N = 82 + 4 * N := rfl
  have m2 : mp 2 N = 82 + 4 * N + 1 := rfl
  have m3 : mp 3 N = 82 + 4 * N + 2 := rfl
  have m4 : mp 4 N = 82 + 4 * N + 3 := rfl
  have w1 : t4 66 (mp 1 N) = Int32.ofNat a := by rw [← ht4, gu_off _ _ (Or.inr (by omega)), gu_off _ _ (Or.inr (by omega)), gu_off _ _ (Or.inr (by omega)), gu_self]
  have w2 : t4 66 (mp 2 N) = Int32.ofNat b := by rw [← ht4, gu_off _ _ (Or.inr (by omega)), gu_off _ _ (Or.inr (by omega)), gu_self]
  have w3 : t4 66 (mp 3 N) = Int32.ofNat c := by rw [← ht4, gu_off _ _ (Or.inr (by omega)), gu_self]
  have w4 : t4 66 (mp 4 N) = Int32.ofNat d := by rw [← ht4, gu_self]
  have hp5 := hp4.grow (by omega) hN (fun j h1 h2 => by
    rcases (show j = 1 ∨ j = 2 ∨ j = 3 ∨ j = 4 by omega) with rfl | rfl | rfl | rfl
    · exact v1.trans w1.symm
    · exact v2.trans w2.symm
    · exact v3.trans w3.symm
    · exact v4.trans w4.symm) ⟨by rw [v1]; exact le_k ha, by rw [v2]; exact le_k hb, by rw [v3]; exact le_k hc, by rw [v4]; exact le_k hd⟩
  have hr5 : RR Z (gu s4 4 9 (Int32.ofNat (N + 1))) (gu t4 66 1 (Int32.ofNat (N + 1))) := hr4.now hp4 (fun c _ hc => gu_ne _ _ _ (by omega)) (fun c _ hc => gu_ne _ _ _ hc) (k65.gu (by decide)) hp5 hm (Nat.le_refl T)
  have c1 : ∀ (s : gS) (c k : Nat) (v : Int32), c ≠ 4 → gu s c k v 4 9 = s 4 9 := fun s c k v h => gu_off _ _ (Or.inl (Ne.symm h))
  refine ⟨gu s4 4 9 (Int32.ofNat (N + 1)), gu t4 66 1 (Int32.ofNat (N + 1)), ?_, ?_, hr5, hp5, ?_, fun c q1 q2 => ?_, fun c q => ?_⟩
  · unfold F_X0_addThing
    simp only [mLet_eq]
    rw [c1 _ (4 + 4) _ _ (by decide), c1 _ (4 + 3) _ _ (by decide), c1 _ (4 + 2) _ _ (by decide), c1 _ (4 + 1) _ _ (by decide), e9]
    simp only [mInk hN (show 12 < 2 ^ 31 by decide), nnk (show N < 2 ^ 31 by omega)]
    rw [hs4, e5, gu_self, e6]
  · unfold F_X10_comes
    rw [mLet_eq, mLet_eq, t9, e5]
    have q0 := x10_put (Z := Z) (k := N) (w := 0) (v := Int32.ofNat a) (σ := gu τ 66 1 (Int32.ofNat (N + 1))) hN (by decide)
    have q1 := x10_put (Z := Z) (k := N) (w := 1) (v := Int32.ofNat b) (σ := gu (gu τ 66 1 (Int32.ofNat (N + 1))) 66 (82 + 4 * N + 0) (Int32.ofNat a)) hN (by decide)
    have q2 := x10_put (Z := Z) (k := N) (w := 2) (v := Int32.ofNat c) (σ := gu (gu (gu τ 66 1 (Int32.ofNat (N + 1))) 66 (82 + 4 * N + 0) (Int32.ofNat a)) 66 (82 + 4 * N + 1) (Int32.ofNat b)) hN (by decide)
    have q3 := x10_put (Z := Z) (k := N) (w := 3) (v := Int32.ofNat d) (σ := gu (gu (gu (gu τ 66 1 (Int32.ofNat (N + 1))) 66 (82 + 4 * N + 0) (Int32.ofNat a)) 66 (82 + 4 * N + 1) (Int32.ofNat b)) 66 (82 + 4 * N + 2) (Int32.ofNat c)) hN (by decide)
    rw [show (0 : Int32) = Int32.ofNat 0 from rfl, q0, mCall_some, show (1 : Int32) = Int32.ofNat 1 from rfl, q1, mCall_some, show (2 : Int32) = Int32.ofNat 2 from rfl, q2, mCall_some, show (3 : Int32) = Int32.ofNat 3 from rfl, q3, mCall_some, ← ht4, m1, m2, m3, m4]
    rw [gu_comm _ (c := 66) (k := 82 + 4 * N + 3) (c2 := 66) (k2 := 1) (Or.inr (Or.inl (by omega))), gu_comm _ (c := 66) (k := 82 + 4 * N + 2) (c2 := 66) (k2 := 1) (Or.inr (Or.inl (by omega))), gu_comm _ (c := 66) (k := 82 + 4 * N + 1) (c2 := 66) (k2 := 1) (Or.inr (Or.inl (by omega))), gu_comm _ (c := 66) (k := 82 + 4 * N) (c2 := 66) (k2 := 1) (Or.inr (Or.inl (by omega)))]
    rfl
  · rw [gu_off _ _ (Or.inr (by decide)), ← hs4, gu_off _ _ (Or.inl (by decide)), gu_off _ _ (Or.inl (by decide)), gu_off _ _ (Or.inl (by decide)), gu_off _ _ (Or.inl (by decide))]
  · rw [gu_ne _ _ _ (by omega), ← hs4, gu_ne _ _ _ (by omega), gu_ne _ _ _ (by omega), gu_ne _ _ _ (by omega), gu_ne _ _ _ (by omega)]
  · rw [gu_ne _ _ _ (by omega), ← ht4, gu_ne _ _ _ (by omega), gu_ne _ _ _ (by omega), gu_ne _ _ _ (by omega), gu_ne _ _ _ (by omega)]
theorem sim_thing (x y z u : Int32) : Sim Z (F_X9_thing Z x y z u) (F_X10_thing Z x y z u) := by
  intro σ τ hr
  obtain ⟨⟨N, V, T, M, B, hp, hm, hi⟩, -⟩ := id hr
  have hN := hp.1.1
  have e9 : σ 4 9 = Int32.ofNat N := hp.2.1.1
  have t9 : τ 66 1 = Int32.ofNat N := (hp.2.2.1 0 9 (by unfold dom; omega)).symm.trans e9
  unfold F_X9_thing F_X10_thing
  rw [x9_isKind, x10_in, mCall_some, mCall_some]
  rcases rng x 5 (by decide) with ⟨a, ha, rfl⟩ | ho
  · have e : wi (Int32.ofNat a) 0 5 = 1 := wi_in (b := 5) ha (by decide)
    rw [e, if10, if10, x9_isRoom, x10_isOf, mCall_some, mCall_some, show iOf 1 y = wi y 0 7 from rfl]
    rcases rng y 7 (by decide) with ⟨b, hb, rfl⟩ | ho
    · have e : wi (Int32.ofNat b) 0 7 = 1 := wi_in (b := 7) hb (by decide)
      rw [e, if10, if10, x9_within, x10_isOf, mCall_some, mCall_some, show iOf 2 z = wi z 0 99 from rfl]
      rcases rng z 99 (by decide) with ⟨c, hc, rfl⟩ | ho
      · have e : wi (Int32.ofNat c) 0 99 = 1 := wi_in (b := 99) hc (by decide)
        rw [e, if10, if10, x9_within, x10_isOf, mCall_some, mCall_some, show iOf 3 u = wi u 0 1 from rfl]
        rcases rng u 1 (by decide) with ⟨d, hd, rfl⟩ | ho
        · have e : wi (Int32.ofNat d) 0 1 = 1 := wi_in (b := 1) hd (by decide)
          rw [e, if10, if10, e9, t9]
          by_cases h12 : N < 12
          · have c1 : Int32.ofNat N < 12 := (ltk (b := 12) (by omega) (by decide)).mpr h12
            have c2 : ¬ Int32.ofNat N = 12 := fun q => by have := (eqk (b := 12) (by omega) (by decide)).mp q; omega
            rw [if_pos c1, if_neg c2]
            obtain ⟨σ2, τ2, h1, h2, h3, -, -, h5, h6⟩ := add_thing hr hp hm h12 ha hb hc hd
            rw [h1, h2]
            exact ⟨_, σ2, τ2, rfl, rfl, h3, h5, h6⟩
          · have c1 : ¬ Int32.ofNat N < 12 := fun q => h12 ((ltk (b := 12) (by omega) (by decide)).mp q)
            have c2 : Int32.ofNat N = 12 := by rw [show N = 12 by omega]; rfl
            rw [if_neg c1, if_pos c2]; exact same hr rfl rfl
        · have e : wi u 0 1 = 0 := wi_out ho
          rw [e, if00, if00]; exact same hr rfl rfl
      · have e : wi z 0 99 = 0 := wi_out ho
        rw [e, if00, if00]; exact same hr rfl rfl
    · have e : wi y 0 7 = 0 := wi_out ho
      rw [e, if00, if00]; exact same hr rfl rfl
  · have e : wi x 0 5 = 0 := wi_out ho
    rw [e, if00, if00]; exact same hr rfl rfl
end
