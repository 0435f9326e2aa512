section
variable {Z : List gH}
def kCat (kd : Int32) : Int32 := if kd = 1 then 12 else if kd = 2 then 35 else if kd = 3 then 6 else if kd = 4 then 70 else if kd = 5 then 100 else 20
theorem x1_catches {kd : Int32} {σ : gS} : F_X1_catchesFrom Z kd σ = some (kCat kd, σ) := by
  unfold F_X1_catchesFrom kCat
  repeat' split
  all_goals rfl
theorem x10_catchesOf {t : Nat} {τ : gS} (ht : t < 12) : F_X10_catchesOf Z (Int32.ofNat t) τ = some (kCat (τ 66 (82 + 4 * t)), τ) := by
  have o := x10_of (Z := Z) (k := t) (w := 0) (σ := τ) ht (by decide)
  have o : F_X10_of Z (Int32.ofNat t) 0 τ = some (τ 66 (82 + 4 * t), τ) := o
  unfold F_X10_catchesOf kCat
  rw [o, mCall_some]
  repeat' split
  all_goals rfl
theorem light_L {h N V T M B : Nat} (hh : h + 8 < 65) : ∀ (n i : Nat) (σ τ : gS), HP Z σ τ h 66 N V T M B → i ≤ N → N - i < n → ∃ σ2 τ2, F_X0_lightThings_L2 Z h n (Int32.ofNat i) σ = some (0, σ2) ∧ F_X10_catches_L2 Z n (Int32.ofNat i) τ = some (0, τ2) ∧ HP Z σ2 τ2 h 66 N V T M B ∧ MF h σ σ2 τ τ2 := by
  intro n
  induction n with
  | zero => intro i σ τ hp h1 h2; omega
  | succ n ih =>
    intro i σ τ hp h1 h2
    have hN := hp.1.1
    have e9 : σ h 9 = Int32.ofNat N := hp.2.1.1
    have t9 : τ 66 1 = Int32.ofNat N := (hp.2.2.1 0 9 (by unfold dom; omega)).symm.trans e9
    have ei : Int32.ofNat i + 1 = Int32.ofNat (i + 1) := addk i 1
    rw [F_X0_lightThings_L2, F_X10_catches_L2, e9, t9]
    by_cases hd : N ≤ i
    · have c : Int32.ofNat N ≤ Int32.ofNat i := (lek (by omega) (by omega)).mpr hd
      rw [if_pos c, if_pos c]
      exact ⟨σ, τ, rfl, rfl, hp, MF.rf⟩
    · have c : ¬ Int32.ofNat N ≤ Int32.ofNat i := fun q => hd ((lek (by omega) (by omega)).mp q)
      obtain ⟨-, ⟨rm, hrm, erm⟩, -, ⟨li, hli, eli⟩⟩ := hp.2.2.2.1 i (by omega)
      have z1 : τ 66 (82 + 4 * i) = σ (h + 1) i := (hp.2.2.1 1 i (by unfold dom; omega)).symm
      have z2 : τ 66 (82 + 4 * i + 1) = Int32.ofNat rm := (hp.2.2.1 2 i (by unfold dom; omega)).symm.trans erm
      have z3 : τ 66 (82 + 4 * i + 2) = σ (h + 3) i := (hp.2.2.1 3 i (by unfold dom; omega)).symm
      have z4 : τ 66 (82 + 4 * i + 3) = σ (h + 4) i := (hp.2.2.1 4 i (by unfold dom; omega)).symm
      have z5 : τ 66 (10 + rm) = σ (h + 5) rm := (hp.2.2.1 5 rm (by unfold dom; omega)).symm
      have o1 : F_X10_of Z (Int32.ofNat i) 1 τ = some (Int32.ofNat rm, τ) := by rw [← z2]; exact x10_of (w := 1) (by omega) (by decide)
      have o2 : F_X10_of Z (Int32.ofNat i) 2 τ = some (σ (h + 3) i, τ) := by rw [← z3]; exact x10_of (w := 2) (by omega) (by decide)
      have o3 : F_X10_of Z (Int32.ofNat i) 3 τ = some (σ (h + 4) i, τ) := by rw [← z4]; exact x10_of (w := 3) (by omega) (by decide)
      have e10 : (10 : Int32) + Int32.ofNat rm = Int32.ofNat (10 + rm) := addk 10 rm
      have stay : F_X10_catches_J57 Z (F_X10_catches_L2 Z n) (Int32.ofNat i) 0 τ = F_X10_catches_L2 Z n (Int32.ofNat (i + 1)) τ := by
        unfold F_X10_catches_J57
        have p : F_X10_put Z (Int32.ofNat i) 3 (σ (h + 4) i) τ = some (0, gu τ 66 (82 + 4 * i + 3) (σ (h + 4) i)) := x10_put (w := 3) (by omega) (by decide)
        rw [if00, o3, mCall_some, p, mCall_some, gu_id z4.symm, ei]
      have lit1 : F_X10_catches_J57 Z (F_X10_catches_L2 Z n) (Int32.ofNat i) 1 τ = F_X10_catches_L2 Z n (Int32.ofNat (i + 1)) (gu τ 66 (82 + 4 * i + 3) 1) := by
        unfold F_X10_catches_J57
        have p : F_X10_put Z (Int32.ofNat i) 3 1 τ = some (0, gu τ 66 (82 + 4 * i + 3) 1) := x10_put (w := 3) (by omega) (by decide)
        rw [if10, p, mCall_some, ei]
      have next := ih (i + 1) σ τ hp (by omega) (by omega)
      simp only [if_neg c, mInk (k := i) (n := 12) (show i < 12 by omega) (show 12 < 2 ^ 31 by decide), nnk (k := i) (show i < 2 ^ 31 by omega), o3, mCall_some, ei]
      by_cases h0 : σ (h + 4) i = 0
      · rw [if_pos h0, if_pos h0, o2, mCall_some]
        by_cases hf : σ (h + 3) i ≤ 0
        · rw [if_pos hf, if_pos hf, stay]; exact next
        · rw [if_neg hf, if_neg hf, o1, mCall_some, e10, mInk (k := 10 + rm) (by omega) (by decide), nnk (k := 10 + rm) (by omega), erm, mInk (k := rm) (n := 8) (by omega) (by decide), nnk (k := rm) (by omega), x1_catches, mCall_some, x10_catchesOf (by omega), mCall_some, z1, z5]
          by_cases hc : σ (h + 5) rm < kCat (σ (h + 1) i)
          · rw [if_pos hc, if_pos hc, stay]; exact next
          · rw [if_neg hc, if_neg hc, lit1, mLet_eq]
            have hp1 := hp.upd (by omega) (j := 4) (i := i) (by unfold dom; omega) (v := 1) (okj (m := 1) (by omega) i ⟨1, by omega, rfl⟩)
            obtain ⟨σ2, τ2, a1, a2, a3, a4⟩ := ih (i + 1) _ _ hp1 (by omega) (by omega)
            exact ⟨σ2, τ2, a1, a2, a3, MF.trans (MF.put (by omega)) a4⟩
      · rw [if_neg h0, if_neg h0, stay]; exact next
end
