section
variable {Z : List gH}
theorem burn_L {h N V T M : Nat} (hh : h + 8 < 65) (hh3 : 3 < h) : ∀ (n i : Nat) (B : Nat) (σ τ : gS), HP Z σ τ h 66 N V T M B → i ≤ N → N - i < n → B + 99 * (N - i) ≤ 30000000 → ∃ σ2 τ2 B2 m, B ≤ B2 ∧ B2 ≤ B + 99 * (N - i) ∧ F_X0_burnThings_L2 Z h n (Int32.ofNat i) σ = some (0, σ2) ∧ F_X10_minute_L2 Z n (Int32.ofNat i) τ = mCall (F_X10_evens Z τ2) (fun r1 s2 => F_X10_minute_L39 Z mFuel 0 s2) ∧ HP Z σ2 τ2 h 66 N V T M B2 ∧ MF h σ σ2 τ τ2 ∧ m = 0 := by
  intro n
  induction n with
  | zero => intro i B σ τ hp h1 h2; omega
  | succ n ih =>
    intro i B σ τ hp h1 h2 hB
    have hN := hp.1.1
    have e9 : σ h 9 = Int32.ofNat N := hp.2.1.1
    have t9 : τ 66 1 = Int32.ofNat N := (hp.2.2.1 0 9 (by unfold dom; omega)).symm.trans e9
    have ei : Int32.ofNat i + 1 = Int32.ofNat (i + 1) := addk i 1
    by_cases hd : N ≤ i
    · have c : Int32.ofNat N ≤ Int32.ofNat i := (lek (by omega) (by omega)).mpr hd
      rw [F_X0_burnThings_L2, F_X10_minute_L2, e9, t9, if_pos c, if_pos c]
      exact ⟨σ, τ, B, 0, by omega, by omega, rfl, rfl, hp, MF.rf, rfl⟩
    · have c : ¬ Int32.ofNat N ≤ Int32.ofNat i := fun q => hd ((lek (by omega) (by omega)).mp q)
      have z4 : τ 66 (82 + 4 * i + 3) = σ (h + 4) i := (hp.2.2.1 4 i (by unfold dom; omega)).symm
      have o3 : F_X10_of Z (Int32.ofNat i) 3 τ = some (σ (h + 4) i, τ) := by rw [← z4]; exact x10_of (w := 3) (by omega) (by decide)
      rw [F_X10_minute_L2, t9, if_neg c, o3, mCall_some, ei]
      by_cases hl : σ (h + 4) i = 1
      · obtain ⟨s1, t1, B1, b1, b2, a1, p1, f1, g1⟩ := burn1 hh hh3 hp (by omega : i < N) (by omega)
        obtain ⟨s2, t2, B2, m, c1, c2, c3, c4, c5, c6, c7⟩ := ih (i + 1) B1 s1 t1 p1 (by omega) (by omega) (by omega)
        rw [g1 n hl, if_pos hl, a1, mCall_some]
        exact ⟨s2, t2, B2, m, by omega, by omega, c3, c4, c5, MF.trans f1 c6, c7⟩
      · obtain ⟨s2, t2, B2, m, c1, c2, c3, c4, c5, c6, c7⟩ := ih (i + 1) B σ τ hp (by omega) (by omega) (by omega)
        rw [F_X0_burnThings_L2, e9, if_neg c, mInk (k := i) (by omega) (by decide), nnk (k := i) (by omega), if_neg hl, if_neg hl, ei]
        exact ⟨s2, t2, B2, m, by omega, by omega, c3, c4, c5, c6, c7⟩
end
