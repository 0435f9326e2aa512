section
variable {Z : List gH}
theorem hdraw {σ τ : gS} {h N V T M B : Nat} (hp : HP Z σ τ h 66 N V T M B) (hh : h + 8 < 65) : ∃ w σ2 τ2, F_X0_draw Z h σ = some (mUsr w 8, σ2) ∧ F_X10_draw Z τ = some (mUsr w 8, τ2) ∧ HP Z σ2 τ2 h 66 N V T M B ∧ MF h σ σ2 τ τ2 := by
  have e : τ 66 0 = σ h 18 := (hp.2.2.1 0 18 (by unfold dom; omega)).symm
  exact ⟨zz (σ h 18), gu σ (h + 0) 18 (zz (σ h 18)), gu τ 66 0 (zz (σ h 18)), x0_draw, by rw [x10_draw, e], hp.upd (by omega) (j := 0) (i := 18) (by unfold dom; omega) (by unfold okv; omega), MF.put (by omega)⟩
theorem blow_eq {σ τ : gS} {h N V T M B : Nat} (hp : HP Z σ τ h 66 N V T M B) (hh : h + 8 < 65) : ∃ σ2 τ2, F_X0_blowWind Z h σ = some (0, σ2) ∧ F_X10_blows Z τ = some (0, τ2) ∧ HP Z σ2 τ2 h 66 N V T M B ∧ MF h σ σ2 τ τ2 := by
  obtain ⟨w1, s1, t1, a1, b1, p1, f1⟩ := hdraw hp hh
  obtain ⟨w2, s2, t2, a2, b2, p2, f2⟩ := hdraw p1 hh
  obtain ⟨w3, s3, t3, a3, b3, p3, f3⟩ := hdraw p2 hh
  obtain ⟨k, hk, ek⟩ := rem8 w2 (m := 8) (by decide) (by decide)
  obtain ⟨l, hl, el⟩ := rem8 w3 (m := 8) (by decide) (by decide)
  have ek : mRem (mUsr w2 8) 8 = Int32.ofNat k := ek
  have el : mRem (mUsr w3 8) 8 = Int32.ofNat l := el
  have ew : t1 66 3 = s1 h 12 := (p1.2.2.1 0 12 (by unfold dom; omega)).symm
  have f13 := MF.trans f1 (MF.trans f2 f3)
  unfold F_X0_blowWind F_X10_blows
  rw [a1, b1, mCall_some, mCall_some, ew]
  by_cases hw : mRem (mUsr w1 8) 100 < s1 h 12
  · rw [if_pos hw, if_pos hw, a2, b2, mCall_some, mCall_some, mLet_eq, mLet_eq, a3, b3, mCall_some, mCall_some, mLet_eq, mLet_eq, ek, el, x0_doorBetween (by omega) (by omega), mCall_some]
    have z0 : (0 : Int32) ≤ 0 := by decide
    by_cases hkl : k = l
    · have c : Int32.ofNat k = Int32.ofNat l := by rw [hkl]
      rw [if_pos c, if_pos c]
      unfold F_X10_blows_J56
      rw [if_pos z0]
      exact ⟨s3, t3, rfl, rfl, p3, f13⟩
    · have c : ¬ Int32.ofNat k = Int32.ofNat l := fun q => hkl ((eqk (by omega) (by omega)).mp q)
      have zd : t3 66 (18 + 8 * k + l) = s3 (h + 6) (8 * k + l) := by rw [Nat.add_assoc]; exact (p3.2.2.1 6 (8 * k + l) (by unfold dom; omega)).symm
      rw [if_neg c, if_neg c, ix8, mInk (k := 18 + 8 * k + l) (by omega) (by decide), nnk (k := 18 + 8 * k + l) (by omega), zd]
      unfold F_X10_blows_J56
      have fin : ∀ v, v ≤ 2 → ∃ σ2 τ2, mCall (F_X0_putDoor Z h (Int32.ofNat k) (Int32.ofNat l) (Int32.ofNat v) s3) (fun r14 s15 => mLet (gu s15 h 16 ((s15 h 16) + 1)) (fun s16 => some ((0 : Int32), s16))) = some (0, σ2) ∧ mCall (F_X10_leaves Z (Int32.ofNat k) (Int32.ofNat l) (Int32.ofNat v) t3) (fun r1 s2 => mLet (gu s2 66 8 ((s2 66 8) + 1)) (fun s3 => some ((0 : Int32), s3))) = some (0, τ2) ∧ HP Z σ2 τ2 h 66 N V T M B ∧ MF h σ σ2 τ τ2 := by
        intro v hv
        have q1 := p3.upd (by omega) (j := 6) (i := 8 * k + l) (by unfold dom; omega) (okj (m := 2) (by omega) _ (le_k hv))
        have q2 := q1.upd (by omega) (j := 6) (i := 8 * l + k) (by unfold dom; omega) (okj (m := 2) (by omega) _ (le_k hv))
        rw [x0_putDoor (by omega) (by omega), x10_leaves (by omega) (by omega) hkl, mCall_some, mCall_some, mLet_eq, mLet_eq]
        have es := (q2.2.2.1 0 16 (by unfold dom; omega))
        have q3 := q2.upd (by omega) (j := 0) (i := 16) (by unfold dom; omega) (v := (gu (gu s3 (h + 6) (8 * k + l) (Int32.ofNat v)) (h + 6) (8 * l + k) (Int32.ofNat v)) (h + 0) 16 + 1) (by unfold okv; omega)
        refine ⟨_, _, rfl, ?_, q3, MF.trans f13 (MF.trans (MF.put (j := 6) (by omega)) (MF.trans (MF.put (j := 6) (by omega)) (MF.put (j := 0) (by omega))))⟩
        rw [es]; rfl
      obtain ⟨dd, hdd, ed⟩ := p3.2.2.2.2.2.1 (8 * k + l) (by omega)
      rw [ed]
      rcases (show dd = 0 ∨ dd = 1 ∨ dd = 2 by omega) with rfl | rfl | rfl
      · have c0 : Int32.ofNat 0 = 0 := rfl
        rw [if_pos c0, c0, if_pos z0]
        exact ⟨s3, t3, rfl, rfl, p3, f13⟩
      · have c0 : ¬ Int32.ofNat 1 = 0 := by decide
        have c1 : Int32.ofNat 1 = 1 := rfl
        rw [if_neg c0, if_pos c1, if_neg (show ¬ Int32.ofNat 1 ≤ 0 by decide)]
        exact fin 2 (by omega)
      · have c0 : ¬ Int32.ofNat 2 = 0 := by decide
        have c1 : ¬ Int32.ofNat 2 = 1 := by decide
        rw [if_neg c0, if_neg c1, if_neg (show ¬ Int32.ofNat 2 ≤ 0 by decide)]
        exact fin 1 (by omega)
  · rw [if_neg hw, if_neg hw]
    exact ⟨s1, t1, rfl, rfl, p1, f1⟩
end
