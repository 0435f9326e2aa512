section
variable {Z : List gH}
/-- a minute of the class's house h against the model's row 66 -/
theorem minute_eq {σ τ : gS} {h N V T M B : Nat} (hp : HP Z σ τ h 66 N V T M B) (hh : h + 8 < 65) (hh3 : 3 < h) (hM : M + 1 ≤ 20000) (hB : B + 1188 ≤ 30000000) : ∃ σ2 τ2 B2, B ≤ B2 ∧ B2 ≤ B + 1188 ∧ F_X0_passMinute Z h σ = some (0, σ2) ∧ F_X10_minute Z τ = some (0, τ2) ∧ HP Z σ2 τ2 h 66 N V T (M + 1) B2 ∧ MF h σ σ2 τ τ2 := by
  have hN := hp.1.1
  have m5 : mFuel = 5000 := rfl
  obtain ⟨s1, t1, B2, -, b1, b2, a1, c1, p1, f1, -⟩ := burn_L hh hh3 mFuel 0 B σ τ hp (by omega) (by omega) (by omega)
  obtain ⟨s2, t2, a2, c2, p2, f2⟩ := evens_L hh mFuel 0 s1 t1 p1 (by omega) (by omega)
  obtain ⟨s3, t3, a3, c3, p3, f3⟩ := cool_L hh mFuel 0 s2 t2 p2 (by omega) (by omega)
  obtain ⟨s4, t4, a4, c4, p4, f4⟩ := light_L hh mFuel 0 s3 t3 p3 (by omega) (by omega)
  obtain ⟨s5, t5, a5, c5, p5, f5⟩ := blow_eq p4 hh
  have a1 : F_X0_burnThings Z h σ = some (0, s1) := a1
  have a2 : F_X0_spreadHeat Z h s1 = some (0, s2) := a2
  have a3 : F_X0_coolRooms Z h s2 = some (0, s3) := a3
  have a4 : F_X0_lightThings Z h s3 = some (0, s4) := a4
  have c1 : F_X10_minute Z τ = mCall (F_X10_evens Z t1) (fun r1 s2 => F_X10_minute_L39 Z mFuel 0 s2) := c1
  have c2 : F_X10_evens Z t1 = some (0, t2) := c2
  have c3 : F_X10_minute_L39 Z mFuel 0 t2 = mRest Z t3 := c3
  have c4 : F_X10_catches Z t3 = some (0, t4) := c4
  have e17 : s5 h 17 = Int32.ofNat M := p5.2.1.2.2.2.1
  have t17 : t5 66 2 = Int32.ofNat M := (p5.2.2.1 0 17 (by unfold dom; omega)).symm.trans e17
  have em : Int32.ofNat M + 1 = Int32.ofNat (M + 1) := addk M 1
  have q := p5.sc (by omega) (i := 17) (v := Int32.ofNat (M + 1)) (by omega) (V2 := V) (M2 := M + 1) (B2 := B2) hp.1.2.1 hM (by omega) (p5.2.1.2.1) rfl (p5.2.1.2.2.2.2.1)
  refine ⟨_, _, B2, b1, by omega, ?_, ?_, q, MF.trans f1 (MF.trans f2 (MF.trans f3 (MF.trans f4 (MF.trans f5 (MF.put (h := h) (j := 0) (by omega))))))⟩
  · unfold F_X0_passMinute
    rw [a1, mCall_some, a2, mCall_some, a3, mCall_some, a4, mCall_some, a5, mCall_some, mLet_eq, e17, em]
  · rw [c1, c2, mCall_some, c3]
    unfold mRest
    rw [c4, mCall_some, c5, mCall_some, mLet_eq, t17, em]; rfl
end
