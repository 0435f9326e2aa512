section
variable {Z : List gH}
theorem lit_L {h N V T M B : Nat} {σ τ : gS} (hp : HP Z σ τ h 66 N V T M B) : ∀ (n i : Nat) (w : Int32), i ≤ N → N - i < n → ∃ r, F_X0_litSet_L4 Z h n w (Int32.ofNat i) σ = some (r, σ) ∧ F_X10_lit_L4 Z n w (Int32.ofNat i) τ = some (r, τ) := by
  have hN := hp.1.1
  have e9 : σ h 9 = Int32.ofNat N := hp.2.1.1
  have t9 : τ 66 1 = Int32.ofNat N := (hp.2.2.1 0 9 (by unfold dom; omega)).symm.trans e9
  intro n
  induction n with
  | zero => intro i w h1 h2; omega
  | succ n ih =>
    intro i w h1 h2
    have ei : Int32.ofNat i + 1 = Int32.ofNat (i + 1) := addk i 1
    rw [F_X0_litSet_L4, F_X10_lit_L4, e9, t9]
    by_cases hd : N ≤ i
    · have c : Int32.ofNat N ≤ Int32.ofNat i := (lek (by omega) (by omega)).mpr hd
      rw [if_pos c, if_pos c]
      exact ⟨w, rfl, rfl⟩
    · have c : ¬ Int32.ofNat N ≤ Int32.ofNat i := fun q => hd ((lek (by omega) (by omega)).mp q)
      have z4 : τ 66 (82 + 4 * i + 3) = σ (h + 4) i := (hp.2.2.1 4 i (by unfold dom; omega)).symm
      have o3 : F_X10_of Z (Int32.ofNat i) 3 τ = some (σ (h + 4) i, τ) := by rw [← z4]; exact x10_of (w := 3) (by omega) (by decide)
      rw [if_neg c, if_neg c, mInk (k := i) (by omega) (by decide), nnk (k := i) (by omega), o3, mCall_some, mLet_eq, mLet_eq, ei]
      exact ih (i + 1) _ (by omega) (by omega)
theorem lit_eq {h N V T M B : Nat} {σ τ : gS} (hp : HP Z σ τ h 66 N V T M B) : ∃ r, F_X0_litSet Z h σ = some (r, σ) ∧ F_X10_lit Z τ = some (r, τ) := by
  have m5 : mFuel = 5000 := rfl
  have hN := hp.1.1
  exact lit_L hp mFuel 0 0 (by omega) (by omega)
theorem allHeat_L {h N V T M B : Nat} {σ τ : gS} (hp : HP Z σ τ h 66 N V T M B) : ∀ (n i : Nat) (w : Int32), i ≤ 8 → 8 - i < n → ∃ r, F_X0_heatTogether_L4 Z h n w (Int32.ofNat i) σ = some (r, σ) ∧ F_X10_allHeat_L4 Z n w (Int32.ofNat i) τ = some (r, τ) := by
  intro n
  induction n with
  | zero => intro i w h1 h2; omega
  | succ n ih =>
    intro i w h1 h2
    have ei : Int32.ofNat i + 1 = Int32.ofNat (i + 1) := addk i 1
    have e10 : (10 : Int32) + Int32.ofNat i = Int32.ofNat (10 + i) := addk 10 i
    rw [F_X0_heatTogether_L4, F_X10_allHeat_L4]
    by_cases hd : 8 ≤ i
    · have c : (8 : Int32) ≤ Int32.ofNat i := (lek (a := 8) (by omega) (by omega)).mpr hd
      rw [if_pos c, if_pos c]
      exact ⟨w, rfl, rfl⟩
    · have c : ¬ (8 : Int32) ≤ Int32.ofNat i := fun q => hd ((lek (a := 8) (by omega) (by omega)).mp q)
      have z4 : τ 66 (10 + i) = σ (h + 5) i := (hp.2.2.1 5 i (by unfold dom; omega)).symm
      rw [if_neg c, if_neg c, mInk (k := i) (by omega) (by decide), nnk (k := i) (by omega), e10, mInk (k := 10 + i) (by omega) (by decide), nnk (k := 10 + i) (by omega), mLet_eq, mLet_eq, ei, z4]
      exact ih (i + 1) _ (by omega) (by omega)
theorem allHeat_eq {h N V T M B : Nat} {σ τ : gS} (hp : HP Z σ τ h 66 N V T M B) : ∃ r, F_X0_heatTogether Z h σ = some (r, σ) ∧ F_X10_allHeat Z τ = some (r, τ) := by
  have m5 : mFuel = 5000 := rfl
  exact allHeat_L hp mFuel 0 0 (by omega) (by omega)
theorem sim_house (x : Int32) : Sim Z (F_X9_house Z x) (F_X10_house Z x) := by
  intro σ τ hr
  obtain ⟨N, V, T, M, B, hp, hm, -⟩ := hr.1
  have z : ∀ i, 9 ≤ i → i ≤ 18 → τ 66 (mp 0 i) = σ 4 i := fun i h1 h2 => (hp.2.2.1 0 i (by unfold dom; omega)).symm
  have z14 : τ 66 6 = σ 4 14 := z 14 (by omega) (by omega)
  have z15 : τ 66 7 = σ 4 15 := z 15 (by omega) (by omega)
  have z16 : τ 66 8 = σ 4 16 := z 16 (by omega) (by omega)
  have z10 : τ 66 5 = σ 4 10 := z 10 (by omega) (by omega)
  obtain ⟨r1, l1, l2⟩ := lit_eq hp
  obtain ⟨r2, l3, l4⟩ := allHeat_eq hp
  unfold F_X9_house F_X10_house
  by_cases c0 : x = 0
  · subst c0
    rw [if_pos rfl, if_pos rfl]
    exact same hr rfl (by rw [← z14]; rfl)
  by_cases c1 : x = 1
  · subst c1
    rw [if_neg c0, if_neg c0, if_pos rfl, if_pos rfl]
    exact same hr rfl (by rw [← z15]; rfl)
  by_cases c2 : x = 2
  · subst c2
    rw [if_neg c0, if_neg c0, if_neg c1, if_neg c1, if_pos rfl, if_pos rfl]
    exact same hr rfl (by rw [← z16]; rfl)
  rw [if_neg c0, if_neg c0, if_neg c1, if_neg c1, if_neg c2, if_neg c2, l1, l2, l3, l4, z10]
  by_cases c3 : x = 3
  · rw [if_pos c3, if_pos c3]; exact same hr rfl rfl
  by_cases c4 : x = 4
  · rw [if_neg c3, if_neg c3, if_pos c4, if_pos c4]; exact same hr rfl rfl
  rw [if_neg c3, if_neg c3, if_neg c4, if_neg c4]
  by_cases c5 : x = 5
  · rw [if_pos c5, if_pos c5]; exact same hr rfl rfl
  · rw [if_neg c5, if_neg c5]; exact same hr rfl rfl
end
