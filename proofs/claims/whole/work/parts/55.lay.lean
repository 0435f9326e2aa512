section
variable {Z : List gH}
theorem SLR.one {σ τ σ2 τ2 : gS} (h : SLR σ τ) {q : Nat} (h1 : ∀ c, 48 ≤ c → c ≤ 62 → c ≠ 48 + 3 * q → c ≠ 49 + 3 * q → c ≠ 50 + 3 * q → σ2 c = σ c) (h2 : ∀ p, p < 5 → p ≠ q → τ2 84 p = τ 84 p ∧ τ2 85 p = τ 85 p ∧ τ2 86 p = τ 86 p) (h3 : ∀ p k, p < 5 → p ≠ q → k < 24 → τ2 87 (24 * p + k) = τ 87 (24 * p + k)) (hn : σ2 (48 + 3 * q) 1 = τ2 84 q ∧ le (σ2 (48 + 3 * q) 1) 3 ∧ (σ2 (48 + 3 * q) 1 = 1 → σ2 (48 + 3 * q) 2 = τ2 85 q ∧ kWorth (σ2 (48 + 3 * q) 2) (σ2 (48 + 3 * q) 3) = τ2 86 q ∧ le (σ2 (48 + 3 * q) 2) 5) ∧ (σ2 (48 + 3 * q) 1 = 2 → σ2 (49 + 3 * q) 2 = τ2 85 q ∧ le (σ2 (49 + 3 * q) 2) 24 ∧ ∀ k, k < 24 → σ2 (50 + 3 * q) k = τ2 87 (24 * q + k)) ∧ (σ2 (48 + 3 * q) 1 = 3 → σ2 (48 + 3 * q) 4 = τ2 85 q)) : SLR σ2 τ2 := by
  intro p hp
  by_cases e : p = q
  · subst e; exact hn
  · obtain ⟨a1, a2, a3, a4, a5⟩ := h p hp
    obtain ⟨g1, g2, g3⟩ := h2 p hp e
    rw [h1 (48 + 3 * p) (by omega) (by omega) (by omega) (by omega) (by omega), h1 (49 + 3 * p) (by omega) (by omega) (by omega) (by omega) (by omega), h1 (50 + 3 * p) (by omega) (by omega) (by omega) (by omega) (by omega), g1, g2, g3]
    exact ⟨a1, a2, a3, fun w => ⟨(a4 w).1, (a4 w).2.1, fun k hk => by rw [h3 p k hp e hk]; exact (a4 w).2.2 k hk⟩, a5⟩
theorem sl_fin {σ τ σ2 τ2 : gS} (hr : RR Z σ τ) (h1 : ∀ c, c < 48 ∨ 62 < c → σ2 c = σ c) (h2 : ∀ c, c < 84 ∨ 87 < c → τ2 c = τ c) (b : SLR σ2 τ2) {r : Int32} {A C : Option (Int32 × gS)} (x : A = some (r, σ2)) (y : C = some (r, τ2)) : ∃ r σ2 τ2, A = some (r, σ2) ∧ C = some (r, τ2) ∧ RR Z σ2 τ2 ∧ (∀ c, 65 ≤ c → c < 90 → σ2 c = σ c) ∧ ∀ c, c < 65 ∨ 90 ≤ c → τ2 c = τ c := by
  obtain ⟨-, a, -, c, d, e⟩ := id hr
  have e65 := h2 65 (by omega)
  exact ⟨r, σ2, τ2, x, y, hr.other (fun c hc => h1 c (by omega)) (by rw [h1 0 (by omega)]) (h2 66 (by omega)) (h2 67 (by omega)) (by rw [e65]) (a.fr (fun c p q => h1 c (by omega)) (fun c p q => h2 c (by omega))) b (c.fr (h1 34 (by omega)) (h1 35 (by omega)) (by rw [e65]) (h2 73 (by omega))) (d.fr (by rw [h1 0 (by omega)]) (h1 64 (by omega)) (by rw [e65]) (h2 89 (by omega))) (e.fr (h2 74 (by omega)) (h2 75 (by omega))), fun c p q => h1 c (by omega), fun c p => h2 c (by omega)⟩
theorem lay_L {q p : Nat} (hq : q ≤ 4) (hp : p ≤ 3) (w : Int32) (τ : gS) : ∀ (n i : Nat) (t : gS), (∀ c, c ≠ 87 → t c = τ c) → (∀ k, k < i → t 87 (24 * q + k) = τ 83 (24 * p + k)) → (∀ p' k, p' ≠ q → k < 24 → t 87 (24 * p' + k) = τ 87 (24 * p' + k)) → i ≤ 24 → 24 - i < n → ∃ t2, F_X10_lay_L134 Z (Int32.ofNat q) 2 (Int32.ofNat p) n w (Int32.ofNat i) t = some (w, t2) ∧ (∀ c, c ≠ 87 → t2 c = τ c) ∧ (∀ k, k < 24 → t2 87 (24 * q + k) = τ 83 (24 * p + k)) ∧ ∀ p' k, p' ≠ q → k < 24 → t2 87 (24 * p' + k) = τ 87 (24 * p' + k) := by
  intro n
  induction n with
  | zero => intro i t h1 h2 h3 h4 h5; omega
  | succ n ih =>
    intro i t h1 h2 h3 h4 h5
    have ei : Int32.ofNat i + 1 = Int32.ofNat (i + 1) := addk i 1
    rw [F_X10_lay_L134]
    by_cases hd : 24 ≤ i
    · have c : (24 : Int32) ≤ Int32.ofNat i := (lek (a := 24) (by omega) (by omega)).mpr hd
      rw [if_pos c]
      exact ⟨t, rfl, h1, fun k hk => h2 k (by omega), h3⟩
    · have c : ¬ (24 : Int32) ≤ Int32.ofNat i := fun x => hd ((lek (a := 24) (by omega) (by omega)).mp x)
      rw [if_neg c, if_pos rfl, ix24, ix24, mInk (k := 24 * p + i) (by omega) (by decide), mInk (k := 24 * q + i) (by omega) (by decide), nnk (k := 24 * p + i) (by omega), nnk (k := 24 * q + i) (by omega), mLet_eq, ei]
      refine ih (i + 1) _ (fun c hc => by rw [gu_ne _ _ _ hc]; exact h1 c hc) (fun k hk => ?_) (fun p' k hp' hk => ?_) (by omega) (by omega)
      · by_cases e : k = i
        · subst e; rw [gu_self, h1 83 (by decide)]
        · rw [gu_off _ _ (Or.inr (by omega))]; exact h2 k (by omega)
      · rw [gu_off _ _ (Or.inr (by omega))]; exact h3 p' k hp' hk
theorem lay_no {q : Nat} {y z w : Int32} {t : gS} (hy : ¬ y = 2) : F_X10_lay_L134 Z (Int32.ofNat q) y z mFuel w 0 t = some (w, t) := by
  show F_X10_lay_L134 Z (Int32.ofNat q) y z (4999 + 1) w 0 t = some (w, t)
  rw [F_X10_lay_L134, if_neg (by decide), if_neg hy]
theorem lay_thing {σ τ : gS} (hr : RR Z σ τ) {N V T M B q k : Nat} (hp : HP Z σ τ 4 66 N V T M B) (hq : q ≤ 4) (hk : k < N) : ∃ r σ2 τ2, F_X9_lay_J67 Z (Int32.ofNat q) 1 (Int32.ofNat k) σ = some (r, σ2) ∧ F_X10_lay_J61 Z (Int32.ofNat q) 1 (Int32.ofNat k) τ = some (r, τ2) ∧ RR Z σ2 τ2 ∧ (∀ c, 65 ≤ c → c < 90 → σ2 c = σ c) ∧ ∀ c, c < 65 ∨ 90 ≤ c → τ2 c = τ c := by
  obtain ⟨-, -, sl, -⟩ := id hr
  have hN := hp.1.1
  obtain ⟨b1, -⟩ := sl q (by omega)
  have i5 : ∀ {α : Type} {a : Option α}, mIn 5 (Int32.ofNat q) a = a := mInk (k := q) (by omega) (by decide)
  have i12 : ∀ {α : Type} {a : Option α}, mIn 12 (Int32.ofNat k) a = a := mInk (k := k) (by omega) (by decide)
  have z0 : τ 66 (82 + 4 * k) = σ 5 k := (hp.2.2.1 1 k (by unfold dom; omega)).symm
  have z2 : τ 66 (82 + 4 * k + 2) = σ 7 k := (hp.2.2.1 3 k (by unfold dom; omega)).symm
  obtain ⟨kd, hkd, ekd⟩ : le (σ 5 k) 5 := (hp.2.2.2.1 k hk).1
  obtain ⟨fu, hfu, efu⟩ : le (σ 7 k) 99 := (hp.2.2.2.1 k hk).2.2.1
  have o0 : ∀ t : gS, t 66 = τ 66 → F_X10_of Z (Int32.ofNat k) 0 t = some (σ 5 k, t) := fun t ht => by rw [← z0, ← ht]; exact x10_of (w := 0) (by omega) (by decide)
  have w1 : ∀ t : gS, t 66 = τ 66 → F_X10_worthOf Z (Int32.ofNat k) t = some (kWorth (σ 5 k) (σ 7 k), t) := fun t ht => by
    rw [efu]; exact x10_worthOf (by omega) hfu (by rw [ht]; exact z0) (by rw [ht]; exact z2.trans efu)
  unfold F_X9_lay_J67 F_X10_lay_J61
  rw [mSl_eq hq]
  simp only [mLet_eq, i5, i12, nnk (k := q) (by omega), nnk (k := k) (by omega)]
  rw [if_pos trivial, if_pos trivial, gu_ne σ (a := 5) _ _ (show (5 : Nat) ≠ 48 + 3 * q by omega), o0 _ (gu_ne _ _ _ (by decide)), mCall_some]
  unfold F_X10_lay_J110
  simp only [mLet_eq, i5, nnk (k := q) (by omega)]
  rw [if_pos trivial, w1 _ (by rw [gu_ne _ _ _ (by decide), gu_ne _ _ _ (by decide)]), mCall_some, lay_no (by decide), ← b1]
  rw [gu_ne (gu σ (48 + 3 * q) 1 1) (a := 7) _ _ (show (7 : Nat) ≠ 48 + 3 * q by omega), gu_ne σ (a := 7) _ _ (show (7 : Nat) ≠ 48 + 3 * q by omega)]
  refine sl_fin hr (fun c hc => ?_) (fun c hc => ?_) (sl.one (q := q) (fun c _ _ h1 h2 h3 => ?_) (fun p hp hpq => ⟨?_, ?_, ?_⟩) (fun p j hp hpq hj => ?_) ⟨?_, ?_, fun _ => ⟨?_, ?_, ?_⟩, fun w => ?_, fun w => ?_⟩) rfl rfl
  · rw [gu_ne _ _ _ (by omega), gu_ne _ _ _ (by omega), gu_ne _ _ _ (by omega)]
  · rw [gu_ne _ _ _ (by omega), gu_ne _ _ _ (by omega), gu_ne _ _ _ (by omega)]
  · rw [gu_ne _ _ _ h1, gu_ne _ _ _ h1, gu_ne _ _ _ h1]
  · rw [gu_ne _ _ _ (by decide), gu_ne _ _ _ (by decide), gu_off _ _ (Or.inr hpq)]
  · rw [gu_ne _ _ _ (by decide), gu_off _ _ (Or.inr hpq), gu_ne _ _ _ (by decide)]
  · rw [gu_off _ _ (Or.inr hpq), gu_ne _ _ _ (by decide), gu_ne _ _ _ (by decide)]
  · rw [gu_ne _ _ _ (by decide), gu_ne _ _ _ (by decide), gu_ne _ _ _ (by decide)]
  · rw [gu_off _ _ (Or.inr (by decide)), gu_off _ _ (Or.inr (by decide)), gu_self, gu_ne _ _ _ (by decide), gu_ne _ _ _ (by decide), gu_self]
  · rw [gu_off _ _ (Or.inr (by decide)), gu_off _ _ (Or.inr (by decide)), gu_self]; exact le_k (k := 1) (by omega)
  · rw [gu_off _ _ (Or.inr (by decide)), gu_self, gu_ne _ _ _ (by decide), gu_self]
  · rw [gu_off _ _ (Or.inr (by decide)), gu_self, gu_self, gu_self]
  · rw [gu_off _ _ (Or.inr (by decide)), gu_self, ekd]; exact le_k hkd
  · rw [gu_off _ _ (Or.inr (by decide)), gu_off _ _ (Or.inr (by decide)), gu_self] at w
    exact absurd w (by decide)
  · rw [gu_off _ _ (Or.inr (by decide)), gu_off _ _ (Or.inr (by decide)), gu_self] at w
    exact absurd w (by decide)
theorem lay_num {σ τ : gS} (hr : RR Z σ τ) {q : Nat} {y z : Int32} (hq : q ≤ 4) (hy : y = 0 ∨ y = 3) : ∃ r σ2 τ2, F_X9_lay_J67 Z (Int32.ofNat q) y z σ = some (r, σ2) ∧ F_X10_lay_J61 Z (Int32.ofNat q) y z τ = some (r, τ2) ∧ RR Z σ2 τ2 ∧ (∀ c, 65 ≤ c → c < 90 → σ2 c = σ c) ∧ ∀ c, c < 65 ∨ 90 ≤ c → τ2 c = τ c := by
  obtain ⟨-, -, sl, -⟩ := id hr
  obtain ⟨b1, -⟩ := sl q (by omega)
  have i5 : ∀ {α : Type} {a : Option α}, mIn 5 (Int32.ofNat q) a = a := mInk (k := q) (by omega) (by decide)
  have n1 : ¬ y = 1 := by rcases hy with rfl | rfl <;> decide
  have n2 : ¬ y = 2 := by rcases hy with rfl | rfl <;> decide
  unfold F_X9_lay_J67 F_X10_lay_J61
  rw [mSl_eq hq]
  simp only [mLet_eq, i5, nnk (k := q) (by omega)]
  rw [if_neg n1, if_neg n1, if_neg n2, if_neg n2]
  unfold F_X10_lay_J110
  simp only [mLet_eq, i5, nnk (k := q) (by omega)]
  rw [if_neg n1, lay_no n2, ← b1]
  refine sl_fin hr (fun c hc => ?_) (fun c hc => ?_) (sl.one (q := q) (fun c _ _ h1 h2 h3 => ?_) (fun p hp hpq => ⟨?_, ?_, ?_⟩) (fun p j hp hpq hj => ?_) ⟨?_, ?_, fun w => ?_, fun w => ?_, fun w => ?_⟩) rfl rfl
  · rw [gu_ne _ _ _ (by omega), gu_ne _ _ _ (by omega)]
  · rw [gu_ne _ _ _ (by omega), gu_ne _ _ _ (by omega), gu_ne _ _ _ (by omega)]
  · rw [gu_ne _ _ _ h1, gu_ne _ _ _ h1]
  · rw [gu_ne _ _ _ (by decide), gu_ne _ _ _ (by decide), gu_off _ _ (Or.inr hpq)]
  · rw [gu_ne _ _ _ (by decide), gu_off _ _ (Or.inr hpq), gu_ne _ _ _ (by decide)]
  · rw [gu_off _ _ (Or.inr hpq), gu_ne _ _ _ (by decide), gu_ne _ _ _ (by decide)]
  · rw [gu_ne _ _ _ (by decide), gu_ne _ _ _ (by decide), gu_ne _ _ _ (by decide)]
  · rw [gu_off _ _ (Or.inr (by decide)), gu_self, gu_ne _ _ _ (by decide), gu_ne _ _ _ (by decide), gu_self]
  · rw [gu_off _ _ (Or.inr (by decide)), gu_self]
    rcases hy with rfl | rfl
    · exact le_k (k := 0) (by omega)
    · exact le_k (k := 3) (by omega)
  · rw [gu_off _ _ (Or.inr (by decide)), gu_self] at w
    exact absurd w n1
  · rw [gu_off _ _ (Or.inr (by decide)), gu_self] at w
    exact absurd w n2
  · rw [gu_self, gu_ne _ _ _ (by decide), gu_self]
theorem lay_row {σ τ : gS} (hr : RR Z σ τ) {q p : Nat} (hq : q ≤ 4) (hp : p ≤ 3) : ∃ r σ2 τ2, F_X9_lay_J67 Z (Int32.ofNat q) 2 (Int32.ofNat p) σ = some (r, σ2) ∧ F_X10_lay_J61 Z (Int32.ofNat q) 2 (Int32.ofNat p) τ = some (r, τ2) ∧ RR Z σ2 τ2 ∧ (∀ c, 65 ≤ c → c < 90 → σ2 c = σ c) ∧ ∀ c, c < 65 ∨ 90 ≤ c → τ2 c = τ c := by
  obtain ⟨-, sh, sl, -⟩ := id hr
  obtain ⟨b1, -⟩ := sl q (by omega)
  obtain ⟨a1, a2, a3, a4, a5⟩ := sh p (by omega)
  have m5 : mFuel = 5000 := rfl
  have i5 : ∀ {α : Type} {a : Option α}, mIn 5 (Int32.ofNat q) a = a := mInk (k := q) (by omega) (by decide)
  have i4 : ∀ {α : Type} {a : Option α}, mIn 4 (Int32.ofNat p) a = a := mInk (k := p) (by omega) (by decide)
  have e24 : (24 : Int32) = Int32.ofNat 24 := rfl
  unfold F_X9_lay_J67 F_X10_lay_J61
  rw [mSl_eq hq]
  simp only [mSh_eq hp, mLet_eq, i5, i4, nnk (k := q) (by omega), nnk (k := p) (by omega)]
  rw [if_neg (show ¬ (2 : Int32) = 1 by decide), if_neg (show ¬ (2 : Int32) = 1 by decide), if_pos trivial, if_pos trivial]
  unfold F_X10_lay_J110 F_X5_becomeAs
  simp only [mLet_eq, i5, nnk (k := q) (by omega)]
  rw [if_neg (show ¬ (2 : Int32) = 1 by decide), e24, mCopy_eq (by decide)]
  have z1 : 48 + 3 * q + 1 = 49 + 3 * q := by omega
  have z2 : 49 + 3 * q + 1 = 50 + 3 * q := by omega
  have z3 : 39 + 2 * p + 1 = 40 + 2 * p := by omega
  rw [z1, z2, z3]
  have hs1 : ∀ c, c ≠ 48 + 3 * q → c ≠ 50 + 3 * q → gp (gu σ (48 + 3 * q) 1 2) (50 + 3 * q) (va_cpy (gu σ (48 + 3 * q) 1 2 (40 + 2 * p)) (gu σ (48 + 3 * q) 1 2 (50 + 3 * q)) 0 0 24) c = σ c := fun c h1 h2 => by rw [gp_ne _ _ h2, gu_ne _ _ _ h1]
  have hs2 : gp (gu σ (48 + 3 * q) 1 2) (50 + 3 * q) (va_cpy (gu σ (48 + 3 * q) 1 2 (40 + 2 * p)) (gu σ (48 + 3 * q) 1 2 (50 + 3 * q)) 0 0 24) (48 + 3 * q) 1 = 2 := by rw [gp_ne _ _ (by omega), gu_self]
  have hs3 : ∀ k, k < 24 → gp (gu σ (48 + 3 * q) 1 2) (50 + 3 * q) (va_cpy (gu σ (48 + 3 * q) 1 2 (40 + 2 * p)) (gu σ (48 + 3 * q) 1 2 (50 + 3 * q)) 0 0 24) (50 + 3 * q) k = σ (40 + 2 * p) k := fun k hk => by rw [gp_self, va_cpy0 hk, gu_ne _ _ _ (by omega)]
  generalize gp (gu σ (48 + 3 * q) 1 2) (50 + 3 * q) (va_cpy (gu σ (48 + 3 * q) 1 2 (40 + 2 * p)) (gu σ (48 + 3 * q) 1 2 (50 + 3 * q)) 0 0 24) = s at hs1 hs2 hs3 ⊢
  rw [mCall_some, gu_ne τ (i := 84) (a := 82) _ _ (by decide), gu_ne s (a := 39 + 2 * p) _ _ (show 39 + 2 * p ≠ 49 + 3 * q by omega), hs1 (39 + 2 * p) (by omega) (by omega)]
  obtain ⟨t, c1, c2, c3, c4⟩ := lay_L (Z := Z) hq hp (τ 84 q) (gu (gu (gu τ 84 q 2) 85 q (τ 82 p)) 86 q 0) mFuel 0 _ (fun _ _ => rfl) (fun k hk => by omega) (fun _ _ _ _ => rfl) (by omega) (by omega)
  have c1 : F_X10_lay_L134 Z (Int32.ofNat q) 2 (Int32.ofNat p) mFuel (τ 84 q) 0 (gu (gu (gu τ 84 q 2) 85 q (τ 82 p)) 86 q 0) = some (τ 84 q, t) := c1
  rw [c1, ← b1]
  refine sl_fin hr (fun c hc => ?_) (fun c hc => ?_) (sl.one (q := q) (fun c _ _ h1 h2 h3 => ?_) (fun p' hp hpq => ⟨?_, ?_, ?_⟩) (fun p' j hp hpq hj => ?_) ⟨?_, ?_, fun w => ?_, fun w => ⟨?_, ?_, fun k hk => ?_⟩, fun w => ?_⟩) rfl rfl
  · rw [gu_ne _ _ _ (by omega), gu_ne _ _ _ (by omega), hs1 c (by omega) (by omega)]
  · rw [c2 c (by omega), gu_ne _ _ _ (by omega), gu_ne _ _ _ (by omega), gu_ne _ _ _ (by omega)]
  · rw [gu_ne _ _ _ h2, gu_ne _ _ _ h2, hs1 c h1 h3]
  · rw [c2 84 (by decide), gu_ne _ _ _ (by decide), gu_ne _ _ _ (by decide), gu_off _ _ (Or.inr hpq)]
  · rw [c2 85 (by decide), gu_ne _ _ _ (by decide), gu_off _ _ (Or.inr hpq), gu_ne _ _ _ (by decide)]
  · rw [c2 86 (by decide), gu_off _ _ (Or.inr hpq), gu_ne _ _ _ (by decide), gu_ne _ _ _ (by decide)]
  · rw [c4 p' j hpq hj, gu_ne _ _ _ (by decide), gu_ne _ _ _ (by decide), gu_ne _ _ _ (by decide)]
  · rw [gu_ne _ _ _ (by omega), gu_ne _ _ _ (by omega), hs2, c2 84 (by decide), gu_ne _ _ _ (by decide), gu_ne _ _ _ (by decide), gu_self]
  · rw [gu_ne _ _ _ (by omega), gu_ne _ _ _ (by omega), hs2]; exact le_k (k := 2) (by omega)
  · rw [gu_ne _ _ _ (by omega), gu_ne _ _ _ (by omega), hs2] at w
    exact absurd w (by decide)
  · rw [gu_self, c2 85 (by decide), gu_ne _ _ _ (by decide), gu_self]; exact a4
  · rw [gu_self]; exact a3
  · rw [gu_ne _ _ _ (by omega), gu_ne _ _ _ (by omega), hs3 k hk, c3 k hk, gu_ne _ _ _ (by decide), gu_ne _ _ _ (by decide), gu_ne _ _ _ (by decide)]; exact a5 k hk
  · rw [gu_ne _ _ _ (by omega), gu_ne _ _ _ (by omega), hs2] at w
    exact absurd w (by decide)
theorem sim_lay (x y z : Int32) : Sim Z (F_X9_lay Z x y z) (F_X10_lay Z x y z) := by
  intro σ τ hr
  obtain ⟨⟨N, V, T, M, B, hp, hm, -⟩, sh, sl, -⟩ := id hr
  have hN := hp.1.1
  have e9 : σ 4 9 = Int32.ofNat N := hp.2.1.1
  have t9 : τ 66 1 = Int32.ofNat N := (hp.2.2.1 0 9 (by unfold dom; omega)).symm.trans e9
  unfold F_X9_lay F_X10_lay F_X9_lay_J47 F_X10_lay_J29
  simp only [x9_isSlot, x10_isSlot, x9_within, x10_in, x9_isThing, x10_isThing, x9_isSheet, x10_isSheet, mCall_some, e9, t9]
  rcases rng x 4 (by decide) with ⟨q, hq, rfl⟩ | ho
  rotate_left
  · rw [wi_out (a := 0) (b := 4) ho, if00, if00]; exact same hr rfl rfl
  have e1 : wi (Int32.ofNat q) 0 4 = 1 := wi_in (b := 4) hq (by decide)
  rw [e1, if10, if10]
  rcases rng y 3 (by decide) with ⟨w, hw, rfl⟩ | ho
  rotate_left
  · rw [wi_out (a := 0) (b := 3) ho, if00, if00]; exact same hr rfl rfl
  have e2 : wi (Int32.ofNat w) 0 3 = 1 := wi_in (b := 3) hw (by decide)
  rw [e2, if10, if10]
  rcases (show w = 0 ∨ w = 3 ∨ w = 1 ∨ w = 2 by omega) with rfl | rfl | rfl | rfl
  · have n1 : ¬ Int32.ofNat 0 = 1 := by decide
    have n2 : ¬ Int32.ofNat 0 = 2 := by decide
    simp only [if_neg n1, if_neg n2]
    exact lay_num hr hq (Or.inl rfl)
  · have n1 : ¬ Int32.ofNat 3 = 1 := by decide
    have n2 : ¬ Int32.ofNat 3 = 2 := by decide
    simp only [if_neg n1, if_neg n2]
    exact lay_num hr hq (Or.inr rfl)
  · have n1 : Int32.ofNat 1 = 1 := rfl
    have n2 : ¬ Int32.ofNat 1 = 2 := by decide
    simp only [if_pos n1, if_neg n2]
    rcases rngN z N (by omega) with ⟨k, hk, rfl⟩ | ho
    · rw [wi_inN hk (by omega), if10, if10]
      exact lay_thing hr hp hq hk
    · rw [wi_out ho, if00, if00]; exact same hr rfl rfl
  · have n1 : ¬ Int32.ofNat 2 = 1 := by decide
    have n2 : Int32.ofNat 2 = 2 := rfl
    simp only [if_neg n1, if_pos n2]
    rcases rng z 3 (by decide) with ⟨p, hp3, rfl⟩ | ho
    rotate_left
    · rw [wi_out (a := 0) (b := 3) ho, if00, if00]; exact same hr rfl rfl
    have e3 : wi (Int32.ofNat p) 0 3 = 1 := wi_in (b := 3) hp3 (by decide)
    rw [e3, if10, if10, mSh_eq hp3, mInk (k := p) (by omega) (by decide), nnk (k := p) (by omega)]
    rcases miss_eq (Z := Z) sh hp3 with ⟨-, m1, m2, -⟩ | ⟨-, m1, m2, -⟩
    · rw [m1, if_neg m2, mCall_some, if10]; exact same hr rfl rfl
    · rw [m1, if_pos m2, mCall_some, if00]
      exact lay_row hr hq hp3
end
