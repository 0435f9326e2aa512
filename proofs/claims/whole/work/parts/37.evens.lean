theorem gu_id {σ : gS} {c k : Nat} {v : Int32} (h : v = σ c k) : gu σ c k v = σ := by
  funext a b
  rw [gu_at]
  by_cases e : a = c ∧ b = k
  · rw [if_pos e, h, e.1, e.2]
  · rw [if_neg e]
section
variable {Z : List gH}
theorem evens_in {h N V T M B i : Nat} (hh : h + 8 < 65) (hi : i < 8) {kc km : Int32 → gS → Option (Int32 × gS)} : ∀ (n j : Nat) (σ τ : gS), HP Z σ τ h 66 N V T M B → i < j → j ≤ 8 → 8 - j < n → ∃ σ2 τ2, F_X0_spreadHeat_L12 Z kc h n (Int32.ofNat i) (Int32.ofNat j) σ = kc (Int32.ofNat (i + 1)) σ2 ∧ F_X10_evens_L12 Z km n (Int32.ofNat i) (Int32.ofNat j) τ = km (Int32.ofNat (i + 1)) τ2 ∧ HP Z σ2 τ2 h 66 N V T M B ∧ MF h σ σ2 τ τ2 := by
  intro n
  induction n with
  | zero => intro j σ τ hp h0 h1 h2; omega
  | succ n ih =>
    intro j σ τ hp h0 h1 h2
    rw [F_X0_spreadHeat_L12, F_X10_evens_L12]
    have ei : Int32.ofNat i + 1 = Int32.ofNat (i + 1) := addk i 1
    by_cases h8 : 8 ≤ j
    · have c8 : (8 : Int32) ≤ Int32.ofNat j := (lek (a := 8) (by decide) (by omega)).mpr h8
      rw [if_pos c8, if_pos c8, ei]
      exact ⟨σ, τ, rfl, rfl, hp, MF.rf⟩
    · have c8 : ¬ (8 : Int32) ≤ Int32.ofNat j := fun q => h8 ((lek (a := 8) (by decide) (by omega)).mp q)
      have e10i : (10 : Int32) + Int32.ofNat i = Int32.ofNat (10 + i) := addk 10 i
      have e10j : (10 : Int32) + Int32.ofNat j = Int32.ofNat (10 + j) := addk 10 j
      have ej : Int32.ofNat j + 1 = Int32.ofNat (j + 1) := addk j 1
      obtain ⟨a, ha, ea⟩ := hp.2.2.2.2.1 i hi
      obtain ⟨b, hb, eb⟩ := hp.2.2.2.2.1 j (by omega)
      have z1 : τ 66 (10 + i) = σ (h + 5) i := (hp.2.2.1 5 i (by unfold dom; omega)).symm
      have z2 : τ 66 (10 + j) = σ (h + 5) j := (hp.2.2.1 5 j (by unfold dom; omega)).symm
      have zd : τ 66 (18 + 8 * i + j) = σ (h + 6) (8 * i + j) := by rw [Nat.add_assoc]; exact (hp.2.2.1 6 (8 * i + j) (by unfold dom; omega)).symm
      rw [if_neg c8, if_neg c8, ix8c, ix8, mInk (k := 8 * i + j) (by omega) (by decide), nnk (k := 8 * i + j) (by omega), mInk (k := 18 + 8 * i + j) (by omega) (by decide), nnk (k := 18 + 8 * i + j) (by omega), zd]
      by_cases hd : σ (h + 6) (8 * i + j) = 2
      · rw [if_pos hd, if_pos hd]
        unfold F_X10_evens_J61
        simp only [mLet_eq, e10i, e10j, mInk (k := i) (n := 8) hi (show 8 < 2 ^ 31 by decide), mInk (k := j) (n := 8) (show j < 8 by omega) (show 8 < 2 ^ 31 by decide), nnk (k := i) (show i < 2 ^ 31 by omega), nnk (k := j) (show j < 2 ^ 31 by omega), mInk (k := 10 + i) (n := 1508) (show 10 + i < 1508 by omega) (show 1508 < 2 ^ 31 by decide), mInk (k := 10 + j) (n := 1508) (show 10 + j < 1508 by omega) (show 1508 < 2 ^ 31 by decide), nnk (k := 10 + i) (show 10 + i < 2 ^ 31 by omega), nnk (k := 10 + j) (show 10 + j < 2 ^ 31 by omega)]
        rw [gu_off _ _ (Or.inr (show j ≠ i by omega)), gu_off _ _ (Or.inr (show 10 + j ≠ 10 + i by omega)), z1, z2, ej]
        have hs := spread1 ha hb
        rw [← ea, ← eb] at hs
        have hp1 := hp.upd (by omega) (j := 5) (i := i) (by unfold dom; omega) (okj (m := 99) (by omega) i hs.1)
        have hp2 := hp1.upd (by omega) (j := 5) (i := j) (by unfold dom; omega) (okj (m := 99) (by omega) j hs.2)
        obtain ⟨σ2, τ2, a1, a2, a3, a4⟩ := ih (j + 1) _ _ hp2 (by omega) (by omega) (by omega)
        exact ⟨σ2, τ2, a1, a2, a3, MF.trans (MF.trans (MF.put (by omega)) (MF.put (by omega))) a4⟩
      · rw [if_neg hd, if_neg hd]
        unfold F_X10_evens_J61
        simp only [mLet_eq, e10i, e10j, mInk (k := 10 + i) (n := 1508) (show 10 + i < 1508 by omega) (show 1508 < 2 ^ 31 by decide), mInk (k := 10 + j) (n := 1508) (show 10 + j < 1508 by omega) (show 1508 < 2 ^ 31 by decide), nnk (k := 10 + i) (show 10 + i < 2 ^ 31 by omega), nnk (k := 10 + j) (show 10 + j < 2 ^ 31 by omega)]
        rw [gu_id (σ := τ) (c := 66) (k := 10 + i) (by rw [Int32.sub_zero]), gu_id (σ := τ) (c := 66) (k := 10 + j) (by rw [Int32.add_zero]), ej]
        exact ih (j + 1) σ τ hp (by omega) (by omega) (by omega)
theorem evens_L {h N V T M B : Nat} (hh : h + 8 < 65) : ∀ (n i : Nat) (σ τ : gS), HP Z σ τ h 66 N V T M B → i ≤ 8 → 8 - i < n → ∃ σ2 τ2, F_X0_spreadHeat_L2 Z h n (Int32.ofNat i) σ = some (0, σ2) ∧ F_X10_evens_L2 Z n (Int32.ofNat i) τ = some (0, τ2) ∧ HP Z σ2 τ2 h 66 N V T M B ∧ MF h σ σ2 τ τ2 := by
  intro n
  induction n with
  | zero => intro i σ τ hp h1 h2; omega
  | succ n ih =>
    intro i σ τ hp h1 h2
    rw [F_X0_spreadHeat_L2, F_X10_evens_L2]
    by_cases h8 : 8 ≤ i
    · have c8 : (8 : Int32) ≤ Int32.ofNat i := (lek (a := 8) (by decide) (by omega)).mpr h8
      rw [if_pos c8, if_pos c8]
      exact ⟨σ, τ, rfl, rfl, hp, MF.rf⟩
    · have c8 : ¬ (8 : Int32) ≤ Int32.ofNat i := fun q => h8 ((lek (a := 8) (by decide) (by omega)).mp q)
      have ei : Int32.ofNat i + 1 = Int32.ofNat (i + 1) := addk i 1
      rw [if_neg c8, if_neg c8, mLet_eq, mLet_eq, ei]
      obtain ⟨s1, t1, a1, a2, a3, a4⟩ := evens_in (Z := Z) hh (i := i) (by omega) (kc := F_X0_spreadHeat_L2 Z h n) (km := F_X10_evens_L2 Z n) mFuel (i + 1) σ τ hp (by omega) (by omega) (by unfold mFuel; omega)
      obtain ⟨σ2, τ2, b1, b2, b3, b4⟩ := ih (i + 1) s1 t1 a3 (by omega) (by omega)
      exact ⟨σ2, τ2, a1.trans b1, a2.trans b2, b3, MF.trans a4 b4⟩
end
