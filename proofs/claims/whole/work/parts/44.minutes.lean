section
variable {Z : List gH}
theorem mins_L {N V T m : Nat} {v : Int32} (hm : m ≤ 100) : ∀ (n i M B : Nat) (σ τ : gS), HP Z σ τ 4 66 N V T M B → i ≤ m → m - i < n → M + (m - i) ≤ 9999 → B ≤ 1188 * M → ∃ σ2 τ2 M2 B2, F_X9_minutes_L40 Z n v (Int32.ofNat m) (Int32.ofNat i) σ = some (Int32.ofNat B2 - v, σ2) ∧ F_X10_goesOn_L2 Z (Int32.ofNat m) n (Int32.ofNat i) τ = some (0, τ2) ∧ HP Z σ2 τ2 4 66 N V T M2 B2 ∧ (M2 ≤ 9999 ∧ B2 ≤ 1188 * M2) ∧ MF 4 σ σ2 τ τ2 := by
  intro n
  induction n with
  | zero => intro i M B σ τ hp h1 h2; omega
  | succ n ih =>
    intro i M B σ τ hp h1 h2 h3 h4
    have ei : Int32.ofNat i + 1 = Int32.ofNat (i + 1) := addk i 1
    rw [F_X9_minutes_L40, F_X10_goesOn_L2]
    by_cases hd : m ≤ i
    · have c : Int32.ofNat m ≤ Int32.ofNat i := (lek (by omega) (by omega)).mpr hd
      have e14 : σ 4 14 = Int32.ofNat B := hp.2.1.2.2.2.2.1
      rw [if_pos c, if_pos c, e14]
      exact ⟨σ, τ, M, B, rfl, rfl, hp, ⟨by omega, h4⟩, MF.rf⟩
    · have c : ¬ Int32.ofNat m ≤ Int32.ofNat i := fun q => hd ((lek (by omega) (by omega)).mp q)
      obtain ⟨s1, t1, B1, b1, b2, a1, a2, p1, f1⟩ := minute_eq hp (by omega) (by omega) (by omega) (by omega)
      obtain ⟨s2, t2, M2, B2, c1, c2, c3, c4, c5⟩ := ih (i + 1) (M + 1) B1 s1 t1 p1 (by omega) (by omega) (by omega) (by omega)
      rw [if_neg c, if_neg c, a1, a2, mCall_some, mCall_some, ei]
      exact ⟨s2, t2, M2, B2, c1, c2, c3, c4, MF.trans f1 c5⟩
end
section
variable {Z : List gH}
theorem sim_minutes (x : Int32) : Sim Z (F_X9_minutes Z x) (F_X10_minutes Z x) := by
  intro σ τ hr
  obtain ⟨N, V, T, M, B, hp, hm, -⟩ := hr.1
  have e14 : σ 4 14 = Int32.ofNat B := hp.2.1.2.2.2.2.1
  have e17 : σ 4 17 = Int32.ofNat M := hp.2.1.2.2.2.1
  have t14 : τ 66 6 = Int32.ofNat B := (hp.2.2.1 0 14 (by unfold dom; omega)).symm.trans e14
  have t17 : τ 66 2 = Int32.ofNat M := (hp.2.2.1 0 17 (by unfold dom; omega)).symm.trans e17
  have m5 : mFuel = 5000 := rfl
  have es : (9999 : Int32) - Int32.ofNat M = Int32.ofNat (9999 - M) := subk (a := 9999) hm.1
  unfold F_X9_minutes F_X10_minutes
  rw [x9_within, x10_in, mCall_some, mCall_some]
  by_cases hw : wi x 1 100 = 0
  · rw [if_pos hw, if_pos hw]; exact same hr rfl rfl
  · rw [if_neg hw, if_neg hw, mLet_eq, mLet_eq, mLet_eq, e14, e17, t14, t17, es]
    obtain ⟨k, hk, rfl⟩ : ∃ k, k ≤ 100 ∧ x = Int32.ofNat k := by
      rcases rng2 x 1 100 (by decide) (by decide) with ⟨k, -, hk, rfl⟩ | ho
      · exact ⟨k, hk, rfl⟩
      · exact absurd (wi_out ho) hw
    rw [minK (by omega) (by omega), within_min (by omega) (by omega), mCall_some]
    generalize hq : min k (9999 - M) = q
    have q1 : q ≤ k := by omega
    have q2 : q ≤ 9999 - M := by omega
    obtain ⟨s2, t2, M2, B2, c1, c2, c3, c4, c5⟩ := mins_L (v := Int32.ofNat B) (m := q) (by omega) mFuel 0 M B σ τ hp (by omega) (by omega) (by omega) hm.2
    have c1 : F_X9_minutes_L40 Z mFuel (Int32.ofNat B) (Int32.ofNat q) 0 σ = some (Int32.ofNat B2 - Int32.ofNat B, s2) := c1
    have c2 : F_X10_goesOn Z (Int32.ofNat q) τ = some (0, t2) := c2
    have t6 : t2 66 6 = Int32.ofNat B2 := (c3.2.2.1 0 14 (by unfold dom; omega)).symm.trans c3.2.1.2.2.2.2.1
    rw [c1, c2, mCall_some, t6]
    refine ⟨_, s2, t2, rfl, rfl, hr.now hp (fun c p1 p2 => c5.1 c (by omega) (by unfold pcl at p1; omega)) (fun c p1 p2 => c5.2 c p2 (by unfold pml at p1; omega) (by unfold pml at p1; omega)) ?_ c3 c4 (Nat.le_refl T), fun c p1 p2 => c5.1 c (by omega) (by omega), fun c p1 => c5.2 c (by omega) (by omega) (by omega)⟩
    have e := c5.2 65 (by decide) (by decide) (by decide)
    exact ⟨by rw [e], by rw [e], by rw [e]⟩
end
