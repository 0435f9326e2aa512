section
variable {Z : List gH}
theorem fillz_L {c n : Nat} {v : Int32} (hz : zl Z c = n) (hn : n < 5000) (σ : gS) : ∀ (f i : Nat) (s : gS), (∀ x, x ≠ c → s x = σ x) → (∀ k, k < i → s c k = v) → i ≤ n → n - i < f → ∃ s2, F_JA_fill_L5 Z c v f (Int32.ofNat i) (Int32.ofNat n) s = some (0, s2) ∧ (∀ x, x ≠ c → s2 x = σ x) ∧ ∀ k, k < n → s2 c k = v := by
  intro f
  induction f with
  | zero => intro i s h1 h2 h3 h4; omega
  | succ f ih =>
    intro i s h1 h2 h3 h4
    have ei : Int32.ofNat i + 1 = Int32.ofNat (i + 1) := addk i 1
    rw [F_JA_fill_L5]
    by_cases hd : n ≤ i
    · rw [if_pos ((lek (by omega) (by omega)).mpr hd)]
      exact ⟨s, rfl, h1, fun k hk => h2 k (by omega)⟩
    · rw [if_neg (fun q => hd ((lek (by omega) (by omega)).mp q)), hz, mInk (k := i) (by omega) (by omega), nnk (k := i) (by omega), mLet_eq, ei]
      refine ih (i + 1) _ (fun x hx => by rw [gu_ne _ _ _ hx]; exact h1 x hx) (fun k hk => ?_) (by omega) (by omega)
      by_cases e : k = i
      · subst e; rw [gu_self]
      · rw [gu_off _ _ (Or.inr e)]; exact h2 k (by omega)
theorem fillz_eq {c n : Nat} {v : Int32} (hz : zl Z c = n) (hn : n < 5000) (σ : gS) : ∃ s2, F_JA_fill Z c v σ = some (0, s2) ∧ (∀ x, x ≠ c → s2 x = σ x) ∧ ∀ k, k < n → s2 c k = v := by
  have m5 : mFuel = 5000 := rfl
  have h := fillz_L (v := v) hz hn σ mFuel 0 σ (fun _ _ => rfl) (fun k hk => by omega) (by omega) (by omega)
  unfold F_JA_fill
  rw [mLet_eq, hz]
  exact h
theorem SHR.one {σ τ σ2 τ2 : gS} (h : SHR σ τ) {q : Nat} (h1 : ∀ c, 39 ≤ c → c ≤ 46 → c ≠ 39 + 2 * q → c ≠ 40 + 2 * q → σ2 c = σ c) (h2 : ∀ p, p < 4 → p ≠ q → τ2 81 p = τ 81 p ∧ τ2 82 p = τ 82 p) (h3 : ∀ p k, p < 4 → p ≠ q → k < 24 → τ2 83 (24 * p + k) = τ 83 (24 * p + k)) (hn : σ2 (39 + 2 * q) 1 = τ2 81 q ∧ (σ2 (39 + 2 * q) 1 = -1 ∨ σ2 (39 + 2 * q) 1 = 0 ∨ σ2 (39 + 2 * q) 1 = 1) ∧ le (σ2 (39 + 2 * q) 2) 24 ∧ σ2 (39 + 2 * q) 2 = τ2 82 q ∧ ∀ k, k < 24 → σ2 (40 + 2 * q) k = τ2 83 (24 * q + k)) : SHR σ2 τ2 := by
  intro p hp
  by_cases e : p = q
  · subst e; exact hn
  · obtain ⟨a1, a2, a3, a4, a5⟩ := h p hp
    rw [h1 (39 + 2 * p) (by omega) (by omega) (by omega) (by omega), h1 (40 + 2 * p) (by omega) (by omega) (by omega) (by omega), (h2 p hp e).1, (h2 p hp e).2]
    exact ⟨a1, a2, a3, a4, fun k hk => by rw [h3 p k hp e hk]; exact a5 k hk⟩
theorem sh_fin {σ τ σ2 τ2 : gS} (hr : RR Z σ τ) (h1 : ∀ c, c < 39 ∨ 46 < c → σ2 c = σ c) (h2 : ∀ c, c < 81 ∨ (83 < c ∧ c ≠ 88) → τ2 c = τ c) (a : SHR σ2 τ2) {r : Int32} {A C : Option (Int32 × gS)} (x : A = some (r, σ2)) (y : C = some (r, τ2)) : ∃ r σ2 τ2, A = some (r, σ2) ∧ C = some (r, τ2) ∧ RR Z σ2 τ2 ∧ (∀ c, 65 ≤ c → c < 90 → σ2 c = σ c) ∧ ∀ c, c < 65 ∨ 90 ≤ c → τ2 c = τ c := by
  obtain ⟨-, -, b, c, d, e⟩ := id hr
  have e65 := h2 65 (by omega)
  exact ⟨r, σ2, τ2, x, y, hr.other (fun c hc => h1 c (by omega)) (by rw [h1 0 (by omega)]) (h2 66 (by omega)) (h2 67 (by omega)) (by rw [e65]) a (b.fr (fun c p q => h1 c (by omega)) (fun c p q => h2 c (by omega))) (c.fr (h1 34 (by omega)) (h1 35 (by omega)) (by rw [e65]) (h2 73 (by omega))) (d.fr (by rw [h1 0 (by omega)]) (h1 64 (by omega)) (by rw [e65]) (h2 89 (by omega))) (e.fr (h2 74 (by omega)) (h2 75 (by omega))), fun c p q => h1 c (by omega), fun c p => h2 c (by omega)⟩
theorem tri {y : Int32} (h : ¬ wi y (-1) 1 = 0) : y = -1 ∨ y = 0 ∨ y = 1 := by
  have h1 : ¬ (y < -1 ∨ 1 < y) := fun q => h (wi_out q)
  have a : ¬ y < -1 := fun q => h1 (Or.inl q)
  have b : ¬ 1 < y := fun q => h1 (Or.inr q)
  rw [Int32.lt_iff_toInt_lt] at a b
  have e1 : (-1 : Int32).toInt = -1 := rfl
  have e2 : (1 : Int32).toInt = 1 := rfl
  rw [e1] at a
  rw [e2] at b
  rcases (show y.toInt = -1 ∨ y.toInt = 0 ∨ y.toInt = 1 by omega) with q | q | q
  · exact Or.inl (Int32.toInt_inj.mp q)
  · exact Or.inr (Or.inl (Int32.toInt_inj.mp q))
  · exact Or.inr (Or.inr (Int32.toInt_inj.mp q))
theorem miss_eq {σ τ : gS} (h : SHR σ τ) {q : Nat} (hq : q ≤ 3) : (σ (39 + 2 * q) 1 = -1 ∧ F_X5_isMissing Z (39 + 2 * q) σ = some (1, σ) ∧ ¬ 0 ≤ τ 81 q ∧ τ 81 q < 0) ∨ ((σ (39 + 2 * q) 1 = 0 ∨ σ (39 + 2 * q) 1 = 1) ∧ F_X5_isMissing Z (39 + 2 * q) σ = some (0, σ) ∧ 0 ≤ τ 81 q ∧ ¬ τ 81 q < 0) := by
  obtain ⟨a1, a2, -⟩ := h q (by omega)
  unfold F_X5_isMissing
  rw [← a1]
  rcases a2 with e | e | e
  · left; rw [e]; exact ⟨rfl, rfl, by decide, by decide⟩
  · right; rw [e]; exact ⟨Or.inl rfl, rfl, by decide, by decide⟩
  · right; rw [e]; exact ⟨Or.inr rfl, rfl, by decide, by decide⟩
theorem renew_eq (hZ : Lay Z) {q : Nat} (hq : q ≤ 3) (y z : Int32) (σ : gS) : ∃ s, F_X5_renew Z (39 + 2 * q) y z σ = some (0, s) ∧ (∀ c, c ≠ 39 + 2 * q → c ≠ 40 + 2 * q → s c = σ c) ∧ s (39 + 2 * q) 1 = y ∧ s (39 + 2 * q) 2 = z ∧ ∀ k, k < 24 → s (40 + 2 * q) k = 0 := by
  have hz : zl Z (39 + 2 * q + 1) = 24 := zl_at (sb_places hZ (by unfold SB; omega))
  obtain ⟨s, a1, a2, a3⟩ := fillz_eq (v := 0) hz (by decide) σ
  unfold F_X5_renew
  rw [a1, mCall_some, mLet_eq, mLet_eq]
  refine ⟨_, rfl, fun c h1 h2 => ?_, ?_, ?_, fun k hk => ?_⟩
  · rw [gu_ne _ _ _ h1, gu_ne _ _ _ h1]; exact a2 c (by omega)
  · rw [gu_off _ _ (Or.inr (by decide)), gu_self]
  · rw [gu_self]
  · rw [gu_ne _ _ _ (by omega), gu_ne _ _ _ (by omega)]
    have := a3 k hk
    rwa [show 39 + 2 * q + 1 = 40 + 2 * q by omega] at this
theorem sheet_L {q : Nat} (hq : q ≤ 3) (τ : gS) : ∀ (n i : Nat) (t : gS), (∀ c, c ≠ 83 → t c = τ c) → (∀ k, k < i → t 83 (24 * q + k) = 0) → (∀ p k, p ≠ q → k < 24 → t 83 (24 * p + k) = τ 83 (24 * p + k)) → i ≤ 24 → 24 - i < n → ∃ t2, F_X10_sheet_L66 Z (Int32.ofNat q) n (Int32.ofNat i) t = some (τ 82 q, t2) ∧ (∀ c, c ≠ 83 → t2 c = τ c) ∧ (∀ k, k < 24 → t2 83 (24 * q + k) = 0) ∧ ∀ p k, p ≠ q → k < 24 → t2 83 (24 * p + k) = τ 83 (24 * p + k) := by
  intro n
  induction n with
  | zero => intro i t h1 h2 h3 h4 h5; omega
  | succ n ih =>
    intro i t h1 h2 h3 h4 h5
    have ei : Int32.ofNat i + 1 = Int32.ofNat (i + 1) := addk i 1
    have ii : (24 : Int32) * Int32.ofNat q + Int32.ofNat i = Int32.ofNat (24 * q + i) := by
      rw [show (24 : Int32) * Int32.ofNat q = Int32.ofNat (24 * q) from mulk 24 q, addk]
    rw [F_X10_sheet_L66]
    by_cases hd : 24 ≤ i
    · have c : (24 : Int32) ≤ Int32.ofNat i := (lek (a := 24) (by omega) (by omega)).mpr hd
      rw [if_pos c, mInk (k := q) (by omega) (by decide), nnk (k := q) (by omega), h1 82 (by decide)]
      exact ⟨t, rfl, h1, fun k hk => h2 k (by omega), h3⟩
    · have c : ¬ (24 : Int32) ≤ Int32.ofNat i := fun x => hd ((lek (a := 24) (by omega) (by omega)).mp x)
      rw [if_neg c, ii, mInk (k := 24 * q + i) (by omega) (by decide), nnk (k := 24 * q + i) (by omega), mLet_eq, ei]
      refine ih (i + 1) _ (fun c hc => by rw [gu_ne _ _ _ hc]; exact h1 c hc) (fun k hk => ?_) (fun p k hp hk => ?_) (by omega) (by omega)
      · by_cases e : k = i
        · subst e; rw [gu_self]
        · rw [gu_off _ _ (Or.inr (by omega))]; exact h2 k (by omega)
      · rw [gu_off _ _ (Or.inr (by omega))]; exact h3 p k hp hk
theorem sheet_put (hZ : Lay Z) {σ τ : gS} (hr : RR Z σ τ) {q : Nat} (hq : q ≤ 3) {y z v : Int32} (hy : y = -1 ∨ y = 0 ∨ y = 1) (hv : (if 0 ≤ y then z else 0) = v) (hl : le v 24) : ∃ r σ2 τ2, mCall (F_X5_renew Z (39 + 2 * q) y v σ) (fun r6 s7 => some (v, s7)) = some (r, σ2) ∧ F_X10_sheet_J41 Z (Int32.ofNat q) y z τ = some (r, τ2) ∧ RR Z σ2 τ2 ∧ (∀ c, 65 ≤ c → c < 90 → σ2 c = σ c) ∧ ∀ c, c < 65 ∨ 90 ≤ c → τ2 c = τ c := by
  obtain ⟨-, sh, -⟩ := id hr
  obtain ⟨s, a1, a2, a3, a4, a5⟩ := renew_eq hZ hq y v σ
  have m5 : mFuel = 5000 := rfl
  have i4 : ∀ {α : Type} {a : Option α}, mIn 4 (Int32.ofNat q) a = a := mInk (k := q) (by omega) (by decide)
  have jj : F_X10_sheet_J41 Z (Int32.ofNat q) y z τ = F_X10_sheet_L66 Z (Int32.ofNat q) mFuel 0 (gu (gu τ 81 q y) 82 q v) := by
    unfold F_X10_sheet_J41
    simp only [i4, nnk (k := q) (by omega), mLet_eq]
    rw [← hv]
    by_cases c : 0 ≤ y
    · rw [if_pos c, if_pos c]
    · rw [if_neg c, if_neg c]
  obtain ⟨t, b1, b2, b3, b4⟩ := sheet_L (Z := Z) hq (gu (gu τ 81 q y) 82 q v) mFuel 0 _ (fun _ _ => rfl) (fun k hk => by omega) (fun _ _ _ _ => rfl) (by omega) (by omega)
  have b1 : F_X10_sheet_L66 Z (Int32.ofNat q) mFuel 0 (gu (gu τ 81 q y) 82 q v) = some (gu (gu τ 81 q y) 82 q v 82 q, t) := b1
  rw [gu_self] at b1
  rw [a1, mCall_some, jj, b1]
  have e81 : t 81 q = y := by rw [b2 81 (by decide), gu_ne _ _ _ (by decide), gu_self]
  have e82 : t 82 q = v := by rw [b2 82 (by decide), gu_self]
  refine sh_fin hr (fun c hc => a2 c (by omega) (by omega)) (fun c hc => by rw [b2 c (by omega), gu_ne _ _ _ (by omega), gu_ne _ _ _ (by omega)]) (sh.one (q := q) (fun c _ _ h3 h4 => a2 c h3 h4) (fun p hp hpq => ⟨?_, ?_⟩) (fun p k hp hpq hk => ?_) ⟨by rw [a3, e81], by rw [a3]; exact hy, by rw [a4]; exact hl, by rw [a4, e82], fun k hk => by rw [a5 k hk, b3 k hk]⟩) rfl rfl
  · rw [b2 81 (by decide), gu_ne _ _ _ (by decide), gu_off _ _ (Or.inr hpq)]
  · rw [b2 82 (by decide), gu_off _ _ (Or.inr hpq), gu_ne _ _ _ (by decide)]
  · rw [b4 p k hpq hk, gu_ne _ _ _ (by decide), gu_ne _ _ _ (by decide)]
theorem sim_sheet (hZ : Lay Z) (x y z : Int32) : Sim Z (F_X9_sheet Z x y z) (F_X10_sheet Z x y z) := by
  intro σ τ hr
  unfold F_X9_sheet F_X10_sheet
  simp only [x9_isSheet, x10_isSheet, x9_within, x10_in, mCall_some]
  rcases rng x 3 (by decide) with ⟨q, hq, rfl⟩ | ho
  rotate_left
  · rw [wi_out (a := 0) (b := 3) ho, if00, if00]; exact same hr rfl rfl
  have e1 : wi (Int32.ofNat q) 0 3 = 1 := wi_in (b := 3) hq (by decide)
  rw [e1, if10, if10]
  by_cases hw : wi y (-1) 1 = 0
  · rw [if_pos hw, if_pos hw]; exact same hr rfl rfl
  rw [if_neg hw, if_neg hw]
  simp only [mSh_eq hq]
  rcases tri hw with rfl | hy
  · rw [if_pos rfl, if_pos (show (-1 : Int32) < 0 by decide), if_pos (show (-1 : Int32) < 0 by decide)]
    exact sheet_put hZ hr hq (z := z) (Or.inl rfl) (if_neg (by decide)) (le_k (k := 0) (by omega))
  · have n1 : ¬ y = -1 := by rcases hy with rfl | rfl <;> decide
    have n2 : ¬ y < 0 := by rcases hy with rfl | rfl <;> decide
    have n3 : 0 ≤ y := by rcases hy with rfl | rfl <;> decide
    rw [if_neg n1, if_neg n2, if_neg n2]
    by_cases c1 : z ≤ 24
    · rw [if_pos c1, if_pos c1]
      by_cases c2 : 0 ≤ z
      · rw [if_pos c2, if_pos c2]
        refine sheet_put hZ hr hq (z := z) (Or.inr hy) (if_pos n3) ?_
        rcases rng z 24 (by decide) with ⟨k, hk, rfl⟩ | ho
        · exact le_k hk
        · rcases ho with ho | ho
          · exact absurd c2 (Int32.not_le.mpr ho)
          · exact absurd c1 (Int32.not_le.mpr ho)
      · rw [if_neg c2, if_neg c2]; exact same hr rfl rfl
    · rw [if_neg c1, if_neg c1]; exact same hr rfl rfl
theorem mark_put {σ τ : gS} (hr : RR Z σ τ) {q k : Nat} (hq : q ≤ 3) (hk : k < 24) (v : Int32) {r : Int32} {A C : Option (Int32 × gS)} (x : A = some (r, gu σ (40 + 2 * q) k v)) (y : C = some (r, gu τ 83 (24 * q + k) v)) : ∃ r σ2 τ2, A = some (r, σ2) ∧ C = some (r, τ2) ∧ RR Z σ2 τ2 ∧ (∀ c, 65 ≤ c → c < 90 → σ2 c = σ c) ∧ ∀ c, c < 65 ∨ 90 ≤ c → τ2 c = τ c := by
  obtain ⟨-, sh, -⟩ := id hr
  obtain ⟨a1, a2, a3, a4, a5⟩ := sh q (by omega)
  refine sh_fin hr (fun c hc => gu_ne _ _ _ (by omega)) (fun c hc => gu_ne _ _ _ (by omega)) (sh.one (q := q) (fun c _ _ h3 h4 => gu_ne _ _ _ h4) (fun p hp hpq => ⟨by rw [gu_ne _ _ _ (by decide)], by rw [gu_ne _ _ _ (by decide)]⟩) (fun p k hp hpq hk => gu_off _ _ (Or.inr (by omega))) ⟨?_, ?_, ?_, ?_, fun j hj => ?_⟩) x y
  · rw [gu_ne _ _ _ (by omega), gu_ne _ _ _ (by decide)]; exact a1
  · rw [gu_ne _ _ _ (by omega)]; exact a2
  · rw [gu_ne _ _ _ (by omega)]; exact a3
  · rw [gu_ne _ _ _ (by omega), gu_ne _ _ _ (by decide)]; exact a4
  · by_cases e : j = k
    · subst e; rw [gu_self, gu_self]
    · rw [gu_off _ _ (Or.inr e), gu_off _ _ (Or.inr (by omega))]; exact a5 j hj
theorem sim_mark (x y z : Int32) : Sim Z (F_X9_mark Z x y z) (F_X10_mark Z x y z) := by
  intro σ τ hr
  obtain ⟨-, sh, -⟩ := id hr
  unfold F_X9_mark F_X10_mark
  rw [x9_isSheet, x10_isSheet, mCall_some, mCall_some]
  rcases rng x 3 (by decide) with ⟨q, hq, rfl⟩ | ho
  rotate_left
  · rw [wi_out (a := 0) (b := 3) ho, if00, if00]; exact same hr rfl rfl
  have e1 : wi (Int32.ofNat q) 0 3 = 1 := wi_in (b := 3) hq (by decide)
  have i4 : ∀ {α : Type} {a : Option α}, mIn 4 (Int32.ofNat q) a = a := mInk (k := q) (by omega) (by decide)
  obtain ⟨a1, a2, ⟨L, hL, a3⟩, a4, a5⟩ := sh q (by omega)
  rw [e1, if10, if10]
  unfold F_X10_mark_J60 F_X10_mark_J92
  simp only [mSh_eq hq, i4, nnk (k := q) (by omega)]
  rcases miss_eq (Z := Z) sh hq with ⟨-, m1, m2, -⟩ | ⟨m0, m1, m2, -⟩
  · rw [m1, if_neg m2, mCall_some, if10]; exact same hr rfl rfl
  rw [m1, if_pos m2, mCall_some, if00]
  unfold F_X5_hasPlace
  simp only [x9_within, x10_in, mCall_some, mZwi]
  rw [← a4, a3]
  rcases rngN y L (by omega) with ⟨k, hk, rfl⟩ | ho
  rotate_left
  · rw [wi_out ho, if00, if00]; exact same hr rfl rfl
  have i24 : ∀ {α : Type} {a : Option α}, mIn 24 (Int32.ofNat k) a = a := mInk (k := k) (by omega) (by decide)
  have ii : (24 : Int32) * Int32.ofNat q + Int32.ofNat k = Int32.ofNat (24 * q + k) := by
    rw [show (24 : Int32) * Int32.ofNat q = Int32.ofNat (24 * q) from mulk 24 q, addk]
  have i96 : ∀ {α : Type} {a : Option α}, mIn 96 (Int32.ofNat (24 * q + k)) a = a := mInk (k := 24 * q + k) (by omega) (by decide)
  have z2 : 39 + 2 * q + 1 = 40 + 2 * q := by omega
  rw [wi_inN hk (by omega), if10, if10]
  simp only [i24, ii, i96, nnk (k := k) (by omega), nnk (k := 24 * q + k) (by omega), mLet_eq, z2]
  rw [← a1]
  rcases m0 with m0 | m0
  · have n0 : ¬ σ (39 + 2 * q) 1 = 1 := by rw [m0]; decide
    rw [if_pos m0, if_pos m0, if_pos m0, if_neg n0]
    by_cases c : z = -1000000005
    · rw [if_pos c, if_pos c]; exact same hr rfl rfl
    · rw [if_neg c, if_neg c]; exact mark_put hr hq (by omega) _ rfl rfl
  · have n0 : ¬ σ (39 + 2 * q) 1 = 0 := by rw [m0]; decide
    rw [if_neg n0, if_neg n0, if_neg n0, if_pos m0]
    by_cases c : z = -1000000005
    · rw [if_pos c, if_pos c]; exact mark_put hr hq (by omega) _ rfl rfl
    · rw [if_neg c, if_neg c]
      by_cases hw : wi z (-99999) 99999 = 0
      · rw [if_pos hw, if_pos hw]; exact same hr rfl rfl
      · rw [if_neg hw, if_neg hw]; exact mark_put hr hq (by omega) _ rfl rfl
end
