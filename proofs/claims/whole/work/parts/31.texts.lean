section
variable {Z : List gH}
theorem divk {a b : Nat} (ha : a < 2 ^ 31) (hb : b < 2 ^ 31) : Int32.ofNat a / Int32.ofNat b = Int32.ofNat (a / b) := (Int32.ofNat_div ha hb).symm
theorem ix2 (t : Nat) : (136 : Int32) + (2 * Int32.ofNat t) = Int32.ofNat (136 + 2 * t) := by
  show Int32.ofNat 136 + Int32.ofNat 2 * Int32.ofNat t = _
  rw [mulk, addk]
theorem x2_has {t c : Nat} {σ : gS} (ht : t < 14) (hc : zr Z t = some c) : F_X2_has Z (Int32.ofNat t) σ = some (1, σ) := by
  unfold F_X2_has
  have e : wi (Int32.ofNat t) 0 13 = 1 := wi_in (b := 13) (by omega) (by decide)
  rw [x9_within, mCall_some, e, if10, mInk ht (by decide), nnk (by omega), hc, if_neg (by simp)]; rfl
/-- a text gives the same on both sides -/
theorem work_eq {σ τ : gS} {c t key : Nat} {f0 f1 f2 : Int32} (ht : t < 14) (hc : zr Z t = some c) (hc90 : 90 ≤ c) (h : TT Z σ τ c 66 t key) (hf : τ 80 0 = f0 ∧ τ 80 1 = f1 ∧ (key = 0 → τ 80 2 = f2)) : ∃ v σ2 τ2, F_X2_work Z (Int32.ofNat t) f0 f1 f2 σ = some (v, σ2) ∧ F_X10_worksOut Z (Int32.ofNat t) τ = some (v, τ2) ∧ (∀ x, x ≠ 3 → σ2 x = σ x) ∧ ∀ x, x ≠ 79 → τ2 x = τ x := by
  obtain ⟨q1, q2, q3, q4, q5, q6, d, d0, dn, ds⟩ := h
  obtain ⟨v, σ2, τ2, a1, a2, a3, a4⟩ := work_L (Z := Z) (c := c) (t := t) (n := zl Z (c + 1)) (nm := if key = 0 then 3 else 2) (f0 := f0) (f1 := f1) (f2 := f2) (co := fun k => τ 66 (164 + 96 * t + k)) rfl q4 ht (by split <;> omega) d0 dn (by omega) ds mFuel 0 σ τ (by omega) (by unfold mFuel; omega) (fun j hj => by omega) q6 (fun j _ => rfl) ⟨hf.1, hf.2.1, fun e => hf.2.2 (by
    by_cases hk : key = 0
    · exact hk
    · rw [if_neg hk] at e; omega)⟩
  refine ⟨v, σ2, τ2, ?_, ?_, a3, a4⟩
  · unfold F_X2_work
    rw [x2_has ht hc, mCall_some, if10, mInk ht (by decide), nnk (by omega), hc]
    rw [d0] at a1
    exact a1
  · unfold F_X10_worksOut
    rw [ix2, mInk (by omega) (by decide), nnk (by omega), mLet_eq, q3]
    have e : mRem (Int32.ofNat (1000 * key + zl Z (c + 1))) 1000 = Int32.ofNat ((1000 * key + zl Z (c + 1)) % 1000) := remk (m := 1000) (by omega) (by decide) (by decide)
    rw [e, show (1000 * key + zl Z (c + 1)) % 1000 = zl Z (c + 1) by omega]
    rw [d0] at a2
    exact a2
/-- the text that counts, on the model's side -/
theorem counts_eq {σ τ : gS} {h T key : Nat} (hx : TXS Z σ τ h 66 T) (hT : T ≤ 14) (hk : key < 3) (h9 : τ 66 9 = Int32.ofNat T) : F_X10_counts Z (Int32.ofNat key) τ = some (σ (h + 8) key, τ) := by
  obtain ⟨ks, k1, k2⟩ := hx
  have loop : ∀ (m u : Nat), u ≤ T → u < m → (∀ w, u ≤ w → w < T → ks w ≠ key) → F_X10_counts_L10 Z (Int32.ofNat key) m (Int32.ofNat u - 1) τ = some (σ (h + 8) key, τ) := by
    intro m
    induction m with
    | zero => intro u h1 h2; omega
    | succ m ih =>
      intro u h1 h2 h3
      rw [F_X10_counts_L10]
      cases u with
      | zero =>
        rw [if_pos (show Int32.ofNat 0 - 1 < 0 by decide)]
        rcases k2 key hk with ⟨e, -⟩ | ⟨t, ht, -, e2, -⟩
        · rw [e]
        · exact absurd e2 (h3 t (by omega) ht)
      | succ u =>
        have e1 : Int32.ofNat (u + 1) - 1 = Int32.ofNat u := subk (b := 1) (by omega)
        obtain ⟨c, c1, c2, c3⟩ := k1 u (by omega)
        rw [e1, if_neg (lt0k (by omega)), ix2, mInk (by omega) (by decide), nnk (by omega), c3.2.2.1]
        have hks := c3.1
        have hzl := c3.2.2.2.1
        have e2 : Int32.ofNat (1000 * ks u + zl Z (c + 1)) / 1000 = Int32.ofNat (ks u) := by
          have := divk (a := 1000 * ks u + zl Z (c + 1)) (b := 1000) (by omega) (by decide)
          rw [show (1000 * ks u + zl Z (c + 1)) / 1000 = ks u by omega] at this
          exact this
        rw [e2]
        by_cases e : ks u = key
        · rw [if_pos (by rw [e])]
          rcases k2 key hk with ⟨-, e3⟩ | ⟨t, ht, e4, e5, e6⟩
          · exact absurd e (e3 u (by omega))
          · rcases Nat.lt_trichotomy t u with z | z | z
            · exact absurd e (e6 u z (by omega))
            · rw [e4, z]
            · exact absurd e5 (h3 t (by omega) ht)
        · rw [if_neg (fun q => e ((eqk (by omega) (by omega)).mp q))]
          have e3 : Int32.ofNat u + (-1) = Int32.ofNat u - 1 := (Int32.sub_eq_add_neg _ _).symm
          rw [e3]
          exact ih u (by omega) (by omega) (fun w hw1 hw2 => by
            by_cases z : w = u
            · rw [z]; exact e
            · exact h3 w (by omega) hw2)
  unfold F_X10_counts
  rw [mLet_eq, h9]
  exact loop mFuel T (by omega) (by unfold mFuel; omega) (fun w h1 h2 => by omega)
end
