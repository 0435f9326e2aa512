/-! ===== what a text gives: Laws.work and worksOut ===== -/
section
variable {Z : List gH}
theorem two_aux {a b : Int32} {σ τ : gS} {x y : Int32} (h : (x = 124 ∧ y = -1) ∨ (x = 38 ∧ y = -2) ∨ (x = 60 ∧ y = -3) ∨ (x = 61 ∧ y = -4) ∨ (x = 62 ∧ y = -5) ∨ (x = 43 ∧ y = -6) ∨ (x = 45 ∧ y = -7) ∨ (x = 42 ∧ y = -8) ∨ (x = 47 ∧ y = -9)) : ∃ v, F_X2_joined Z x a b σ = some (v, σ) ∧ F_X10_two Z y a b τ = some (v, τ) := by
  unfold F_X2_joined F_X10_two mNz
  rcases h with ⟨rfl, rfl⟩ | ⟨rfl, rfl⟩ | ⟨rfl, rfl⟩ | ⟨rfl, rfl⟩ | ⟨rfl, rfl⟩ | ⟨rfl, rfl⟩ | ⟨rfl, rfl⟩ | ⟨rfl, rfl⟩ | ⟨rfl, rfl⟩
  all_goals simp (decide := true) only [if_true, if_false]
  all_goals repeat' split
  all_goals first | exact ⟨_, rfl, rfl⟩ | contradiction
theorem two_eq {q : Nat} (h1 : 1 ≤ q) (h2 : q ≤ 9) (a b : Int32) (σ τ : gS) : ∃ v, F_X2_joined Z (-(ce (-Int32.ofNat q))) a b σ = some (v, σ) ∧ F_X10_two Z (-Int32.ofNat q) a b τ = some (v, τ) := by
  apply two_aux
  rcases (show q = 1 ∨ q = 2 ∨ q = 3 ∨ q = 4 ∨ q = 5 ∨ q = 6 ∨ q = 7 ∨ q = 8 ∨ q = 9 by omega) with rfl | rfl | rfl | rfl | rfl | rfl | rfl | rfl | rfl <;> decide
theorem ce_neg {q : Nat} (h1 : 1 ≤ q) (h2 : q ≤ 9) : ce (-Int32.ofNat q) < 10000 ∧ ce (-Int32.ofNat q) < 0 ∧ ¬ ce (-Int32.ofNat q) = -33 ∧ -Int32.ofNat q < 0 ∧ ¬ -Int32.ofNat q = -10 := by
  rcases (show q = 1 ∨ q = 2 ∨ q = 3 ∨ q = 4 ∨ q = 5 ∨ q = 6 ∨ q = 7 ∨ q = 8 ∨ q = 9 by omega) with rfl | rfl | rfl | rfl | rfl | rfl | rfl | rfl | rfl <;> decide
theorem ce_pos {q : Nat} (h : q < 2 ^ 31) : ce (Int32.ofNat q) = Int32.ofNat q := by
  unfold ce
  exact if_pos ((lek (a := 0) (by decide) h).mpr (Nat.zero_le q))
theorem addm1 {k : Nat} (h : 1 ≤ k) : Int32.ofNat k + (-1) = Int32.ofNat (k - 1) := by
  rw [show Int32.ofNat k + (-1) = Int32.ofNat k - Int32.ofNat 1 from (Int32.sub_eq_add_neg _ _).symm]
  exact subk h
end
