section
variable {Z : List gH}
theorem kb_le {kd p : Nat} (hp : p ≤ 99) : kb kd p ≤ 202 := by
  unfold kb
  repeat' split
  all_goals omega
/-- how much a thing burns: the same on both sides; only scratch cells are written -/
theorem burnsOf_eq {σ τ : gS} {h N V T M B k : Nat} (hp : HP Z σ τ h 66 N V T M B) (hk : k < N) (hh : h + 8 < 65) (hh3 : 3 < h) : ∃ b σ2 τ2, b ≤ 202 ∧ F_X0_burnsOf Z h (Int32.ofNat k) σ = some (Int32.ofNat b, σ2) ∧ F_X10_burnsOf Z (Int32.ofNat k) τ = some (Int32.ofNat b, τ2) ∧ (∀ x, x ≠ 3 → σ2 x = σ x) ∧ ∀ x, x ≠ 79 → x ≠ 80 → τ2 x = τ x := by
  have hN := hp.1.1
  have hT := hp.1.2.2.1
  have hx : TXS Z σ τ h 66 T := hp.2.2.2.2.2.2
  have t9 : τ 66 9 = Int32.ofNat T := (hp.2.2.1 0 11 (by unfold dom; omega)).symm.trans hp.2.1.2.2.1
  obtain ⟨⟨kd, hkd, ekd⟩, ⟨rm, hrm, erm⟩, ⟨fu, hfu, efu⟩, -⟩ := hp.2.2.2.1 k hk
  have z1 : τ 66 (82 + 4 * k) = Int32.ofNat kd := (hp.2.2.1 1 k (by unfold dom; omega)).symm.trans ekd
  have z2 : τ 66 (82 + 4 * k + 1) = Int32.ofNat rm := (hp.2.2.1 2 k (by unfold dom; omega)).symm.trans erm
  have z3 : τ 66 (82 + 4 * k + 2) = σ (h + 3) k := (hp.2.2.1 3 k (by unfold dom; omega)).symm
  have z4 : τ 66 (10 + rm) = σ (h + 5) rm := (hp.2.2.1 5 rm (by unfold dom; omega)).symm
  have z5 : τ 66 2 = σ h 17 := (hp.2.2.1 0 17 (by unfold dom; omega)).symm
  have hc : F_X10_counts Z 0 τ = some (σ (h + 8) 0, τ) := counts_eq (Z := Z) (h := h) (key := 0) hx hT (by omega) t9
  have o2 : F_X10_of Z (Int32.ofNat k) 2 τ = some (σ (h + 3) k, τ) := by rw [← z3]; exact x10_of (w := 2) (by omega) (by decide)
  have o1 : ∀ s : gS, s 66 = τ 66 → F_X10_of Z (Int32.ofNat k) 1 s = some (Int32.ofNat rm, s) := fun s hs => by
    have := x10_of (Z := Z) (k := k) (w := 1) (σ := s) (by omega) (by decide)
    rw [hs, z2] at this
    exact this
  have e10 : (10 : Int32) + Int32.ofNat rm = Int32.ofNat (10 + rm) := addk 10 rm
  unfold F_X0_burnsOf F_X10_burnsOf
  rw [hc, mCall_some, o2, mCall_some]
  simp only [mLet_eq]
  have g1 : gu τ 80 0 (σ (h + 3) k) 66 = τ 66 := gu_ne _ _ _ (by decide)
  rw [o1 _ g1, mCall_some, e10, mInk (k := 10 + rm) (by omega) (by decide), nnk (k := 10 + rm) (by omega), g1, z4]
  have g2 : gu (gu τ 80 0 (σ (h + 3) k)) 80 1 (σ (h + 5) rm) 66 = τ 66 := by rw [gu_ne _ _ _ (by decide), g1]
  rw [g2, z5, mInk (k := k) (n := 12) (by omega) (by decide), nnk (k := k) (by omega), ekd]
  generalize hs : gu (gu (gu τ 80 0 (σ (h + 3) k)) 80 1 (σ (h + 5) rm)) 80 2 (σ h 17) = s
  have fr : ∀ x, x ≠ 80 → s x = τ x := fun x hx => by rw [← hs, gu_ne _ _ _ hx, gu_ne _ _ _ hx, gu_ne _ _ _ hx]
  rcases cnt_cases (h := h) (key := 0) hx (by omega) with e | ⟨t, c, ht, e, c1, c2, c3⟩
  · rw [e, if_pos (show (-1 : Int32) < 0 by decide), if_neg neg1]
    have b1 : F_X1_burns Z (Int32.ofNat kd) 5 σ = some (Int32.ofNat (kb kd 5), σ) := x1_burns (p := 5) hkd (by omega)
    have b2 : F_X10_burnsOf_J69 Z (Int32.ofNat k) 5 s = some (Int32.ofNat (kb kd 5), s) := x10_burnsJ (p := 5) (by omega) hkd (by omega) (by rw [fr 66 (by decide)]; exact z1)
    rw [b1, b2]
    exact ⟨kb kd 5, σ, s, kb_le (by omega), rfl, rfl, fun _ _ => rfl, fun x _ h2 => fr x h2⟩
  · have p0 : 0 ≤ Int32.ofNat t := (lek (a := 0) (by decide) (by omega)).mpr (Nat.zero_le t)
    obtain ⟨v, σ2, τ2, a1, a2, a3, a4⟩ := work_eq (Z := Z) (σ := σ) (τ := s) (f0 := σ (h + 3) k) (f1 := σ (h + 5) rm) (f2 := σ h 17) (by omega) c2 c1 (c3.fr rfl rfl (fun q _ => by rw [fr 66 (by decide)])) ⟨by rw [← hs, gu_off _ _ (Or.inr (by decide)), gu_off _ _ (Or.inr (by decide)), gu_self], by rw [← hs, gu_off _ _ (Or.inr (by decide)), gu_self], fun _ => by rw [← hs, gu_self]⟩
    obtain ⟨p, hpp, q1, q2⟩ := clamp (Z := Z) v 99 (by decide) τ2
    have q2 : F_X10_within Z v 0 99 τ2 = some (Int32.ofNat p, τ2) := q2
    have q1 : F_X9_held Z v 99 σ2 = some (Int32.ofNat p, σ2) := by unfold F_X9_held; rw [← q1]; rfl
    have ek2 : σ2 (h + 1) k = Int32.ofNat kd := by rw [a3 _ (by omega)]; exact ekd
    have b2 : F_X10_burnsOf_J69 Z (Int32.ofNat k) (Int32.ofNat p) τ2 = some (Int32.ofNat (kb kd p), τ2) := x10_burnsJ (by omega) hkd hpp (by rw [a4 66 (by decide), fr 66 (by decide)]; exact z1)
    rw [e, if_neg (lt0k (by omega)), if_pos p0, a2, mCall_some, q2, mCall_some, b2]
    rw [mInk (k := k) (n := 12) (by omega) (by decide), mInk (k := k) (n := 12) (by omega) (by decide), erm, mInk (k := rm) (n := 8) (by omega) (by decide), nnk (k := rm) (by omega), a1, mCall_some, q1, mCall_some, mInk (k := k) (n := 12) (by omega) (by decide), ek2, x1_burns hkd hpp]
    exact ⟨kb kd p, σ2, τ2, kb_le hpp, rfl, rfl, a3, fun x h1 h2 => by rw [a4 x h1, fr x h2]⟩
end
