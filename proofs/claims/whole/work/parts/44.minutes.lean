section
variable {Z : List gH}
theorem mins_L {N V T m : Nat} {v : Int32} (hm : m ≤ 100) : ∀ (n i M B : Nat) (σ τ : gS), HP Z σ τ 4 66 N V T M B → i ≤ m → m - i < n → M + (m - i) ≤ 9999 → B ≤ 1188 * M → ∃ σ2 τ2 M2 B2, F_X9_minutes_L40 Z n v (Int32.ofNat m) (Int32.ofNat i) σ = some (Int32.ofNat B2 - v, σ2) ∧ F_X10_goesOn_L2 Z (Int32.ofNat m) n (Int32.ofNat i) τ = some (0, τ2) ∧ HP Z σ2 τ2 4 66 N V T M2 B2 ∧ (M2 ≤ 9999 ∧ B2 ≤ 1188 * M2) ∧ MF 4 σ σ2 τ τ2 := by
  intro n
  induction n with
  | zero => intro i M B σ τ hp h1 h2; omega
  | succ n ih =>
    intro i M B σ τ hp h1 h2 h3 h4
    have ei : Int32.ofNat i + 1 = Int32.ofNat (i + 1) := addk i 1
    rw [F_X9_minutes_L40, F_X10_goesOn_L2]
    by_cases hd : m ≤ i
    · have c : Int32.ofNat m ≤ Int32.ofNat i := (lek (by omega) (by omega)).mpr hd
      have e14 : σ 4 14 = Int32.ofNat B := hp.2.1.2.2.2.2.1
      rw [if_pos c, if_pos c, e14]
      exact ⟨σ, τ, M, B, rfl, rfl, hp, ⟨by omega, h4⟩, MF.rf⟩
    · have c : ¬ Int32.ofNat m ≤ Int32.ofNat i := fun q => hd ((lek (by omega) (by omega)).mp q)
      obtain ⟨s1, t1, B1, b1, b2, a1, a2, p1, f1⟩ := minute_eq hp (by omega) (by omega) (by omega) (by omega)
      obtain ⟨s2, t2, M2, B2, c1, c2, c3, c4, c5⟩ := ih (i + 1) (M + 1) B1 s1 t1 p1 (by omega) (by omega) (by omega) (by omega)
      rw [if_neg c, if_neg c, a1, a2, mCall_some, mCall_some, ei]
      exact ⟨s2, t2, M2, B2, c1, c2, c3, c4, MF.trans f1 c5⟩
end
