section
variable {Z : List gH}
/-- what the class does with a lit thing, then k -/
theorem burn1 {h N V T M B i : Nat} {σ τ : gS} (hh : h + 8 < 65) (hh3 : 3 < h) (hp : HP Z σ τ h 66 N V T M B) (hi : i < N) (hB : B + 99 ≤ 30000000) : ∃ σ2 τ2 B2, B2 ≤ B + 99 ∧ B ≤ B2 ∧ F_X10_burns Z (Int32.ofNat i) τ = some (0, τ2) ∧ HP Z σ2 τ2 h 66 N V T M B2 ∧ MF h σ σ2 τ τ2 ∧ ∀ n, σ (h + 4) i = 1 → F_X0_burnThings_L2 Z h (n + 1) (Int32.ofNat i) σ = F_X0_burnThings_L2 Z h n (Int32.ofNat (i + 1)) σ2 := by
  have hN := hp.1.1
  obtain ⟨b, s1, t1, hb, a1, b1, fs, ft⟩ := burnsOf_eq hp hi hh hh3
  have p1 : HP Z s1 t1 h 66 N V T M B := hp.fr (fun j hj => fs _ (by omega)) (fun c hc => fs _ (by omega)) (ft 66 (by decide) (by decide))
  have f1 : MF h σ s1 τ t1 := ⟨fun x _ h3 => fs x h3, fun x _ h7 h8 => ft x h7 h8⟩
  obtain ⟨⟨kd, hkd, ekd⟩, ⟨rm, hrm, erm⟩, ⟨fu, hfu, efu⟩, -⟩ := p1.2.2.2.1 i hi
  obtain ⟨he, hhe, ehe⟩ := p1.2.2.2.2.1 rm (by omega)
  have z1 : t1 66 (82 + 4 * i) = Int32.ofNat kd := (p1.2.2.1 1 i (by unfold dom; omega)).symm.trans ekd
  have z2 : t1 66 (82 + 4 * i + 1) = Int32.ofNat rm := (p1.2.2.1 2 i (by unfold dom; omega)).symm.trans erm
  have z3 : t1 66 (82 + 4 * i + 2) = Int32.ofNat fu := (p1.2.2.1 3 i (by unfold dom; omega)).symm.trans efu
  have z4 : t1 66 (10 + rm) = Int32.ofNat he := (p1.2.2.1 5 rm (by unfold dom; omega)).symm.trans ehe
  have z5 : t1 66 6 = Int32.ofNat B := (p1.2.2.1 0 14 (by unfold dom; omega)).symm.trans p1.2.1.2.2.2.2.1
  have s14 : s1 h 14 = Int32.ofNat B := p1.2.1.2.2.2.2.1
  have u1 : min fu b ≤ fu := Nat.min_le_left _ _
  generalize hu : min fu b = u at u1
  have g1 := kGv_le (kd := kd) (u := u) (by omega)
  have q1 := p1.upd (by omega) (j := 3) (i := i) (by unfold dom; omega) (v := Int32.ofNat (fu - u)) (okj (m := 99) (by omega) i (le_k (by omega)))
  have q2 := q1.sc (by omega) (i := 14) (v := Int32.ofNat (B + u)) (by omega) (V2 := V) (M2 := M) (B2 := B + u) hp.1.2.1 hp.1.2.2.2.1 (by omega) (q1.2.1.2.1) (q1.2.1.2.2.2.1) rfl
  have q3 := q2.upd (by omega) (j := 5) (i := rm) (by unfold dom; omega) (v := Int32.ofNat (min 99 (he + kGv kd u))) (okj (m := 99) (by omega) rm (le_k (Nat.min_le_left _ _)))
  have f3 : MF h σ (gu (gu (gu s1 (h + 3) i (Int32.ofNat (fu - u))) h 14 (Int32.ofNat (B + u))) (h + 5) rm (Int32.ofNat (min 99 (he + kGv kd u)))) τ (gu (gu (gu t1 66 (mp 3 i) (Int32.ofNat (fu - u))) 66 (mp 0 14) (Int32.ofNat (B + u))) 66 (mp 5 rm) (Int32.ofNat (min 99 (he + kGv kd u)))) := MF.trans f1 (MF.trans (MF.put (j := 3) (by omega)) (MF.trans (MF.put (h := h) (j := 0) (by omega)) (MF.put (j := 5) (by omega))))
  have o2 : F_X10_of Z (Int32.ofNat i) 2 t1 = some (Int32.ofNat fu, t1) := by rw [← z3]; exact x10_of (w := 2) (by omega) (by decide)
  have o1 : F_X10_of Z (Int32.ofNat i) 1 t1 = some (Int32.ofNat rm, t1) := by rw [← z2]; exact x10_of (w := 1) (by omega) (by decide)
  have w1 : F_X10_within Z (Int32.ofNat b) 0 (Int32.ofNat fu) t1 = some (Int32.ofNat u, t1) := by rw [← hu]; exact within_min (by omega) (by omega)
  have e10 : (10 : Int32) + Int32.ofNat rm = Int32.ofNat (10 + rm) := addk 10 rm
  have pu : F_X10_put Z (Int32.ofNat i) 2 (Int32.ofNat (fu - u)) t1 = some (0, gu t1 66 (82 + 4 * i + 2) (Int32.ofNat (fu - u))) := x10_put (w := 2) (by omega) (by decide)
  have v6 : gu t1 66 (82 + 4 * i + 2) (Int32.ofNat (fu - u)) 66 6 = Int32.ofNat B := by rw [gu_off _ _ (Or.inr (by omega)), z5]
  have v7 : gu (gu t1 66 (82 + 4 * i + 2) (Int32.ofNat (fu - u))) 66 6 (Int32.ofNat (B + u)) 66 (10 + rm) = Int32.ofNat he := by rw [gu_off _ _ (Or.inr (by omega)), gu_off _ _ (Or.inr (by omega)), z4]
  have w2 : ∀ s, F_X10_within Z (Int32.ofNat (he + kGv kd u)) 0 99 s = some (Int32.ofNat (min 99 (he + kGv kd u)), s) := fun s => within_min (m := 99) (by omega) (by omega)
  have mB : F_X10_burns Z (Int32.ofNat i) τ = mCall (F_X10_of Z (Int32.ofNat i) 2 (gu (gu (gu t1 66 (mp 3 i) (Int32.ofNat (fu - u))) 66 (mp 0 14) (Int32.ofNat (B + u))) 66 (mp 5 rm) (Int32.ofNat (min 99 (he + kGv kd u))))) (fun r20 s21 => if r20 = 0 then mCall (F_X10_put Z (Int32.ofNat i) 3 0 s21) (fun r22 s23 => mLet (gu s23 66 7 ((s23 66 7) + 1)) (fun s24 => some (0, s24))) else some (0, s21)) := by
    unfold F_X10_burns
    rw [b1, mCall_some, o2, mCall_some, w1, mCall_some, x10_givesOf (by omega) hkd (by omega) z1, mCall_some, o1, mCall_some, mLet_eq, o2, mCall_some, subk u1, pu, mCall_some, v6, addk, mLet_eq, e10, mInk (k := 10 + rm) (by omega) (by decide), nnk (k := 10 + rm) (by omega), v7, addk, w2, mCall_some, mInk (k := 10 + rm) (by omega) (by decide), mLet_eq]
    rfl
  have k12 : i < 12 := by omega
  generalize hS : gu (gu (gu s1 (h + 3) i (Int32.ofNat (fu - u))) h 14 (Int32.ofNat (B + u))) (h + 5) rm (Int32.ofNat (min 99 (he + kGv kd u))) = S at q3 f3
  generalize hT : gu (gu (gu t1 66 (mp 3 i) (Int32.ofNat (fu - u))) 66 (mp 0 14) (Int32.ofNat (B + u))) 66 (mp 5 rm) (Int32.ofNat (min 99 (he + kGv kd u))) = T2 at q3 f3 mB
  have S3 : S (h + 3) i = Int32.ofNat (fu - u) := by rw [← hS, gu_off _ _ (Or.inl (by omega)), gu_off _ _ (Or.inl (by omega)), gu_self]
  have T3 : T2 66 (82 + 4 * i + 2) = Int32.ofNat (fu - u) := (q3.2.2.1 3 i (by unfold dom; omega)).symm.trans S3
  have o2' : F_X10_of Z (Int32.ofNat i) 2 T2 = some (Int32.ofNat (fu - u), T2) := by rw [← T3]; exact x10_of (w := 2) (by omega) (by decide)
  have po : F_X10_put Z (Int32.ofNat i) 3 0 T2 = some (0, gu T2 66 (82 + 4 * i + 3) 0) := x10_put (w := 3) (by omega) (by decide)
  have ei : Int32.ofNat i + 1 = Int32.ofNat (i + 1) := addk i 1
  have e9 : σ h 9 = Int32.ofNat N := hp.2.1.1
  have c : ¬ Int32.ofNat N ≤ Int32.ofNat i := fun q => by have := (lek (by omega) (by omega)).mp q; omega
  have fu0 : σ (h + 3) i = Int32.ofNat fu := by rw [← fs _ (by omega)]; exact efu
  have mn : mMin (Int32.ofNat fu) (Int32.ofNat b) = Int32.ofNat u := by rw [minK (by omega) (by omega), hu]
  have x14 : gu s1 (h + 3) i (Int32.ofNat (fu - u)) h 14 = Int32.ofNat B := by rw [gu_off _ _ (Or.inl (by omega)), s14]
  have x1 : gu (gu s1 (h + 3) i (Int32.ofNat (fu - u))) h 14 (Int32.ofNat (B + u)) (h + 1) i = Int32.ofNat kd := by rw [gu_off _ _ (Or.inl (by omega)), gu_off _ _ (Or.inl (by omega)), ekd]
  have x5 : gu (gu s1 (h + 3) i (Int32.ofNat (fu - u))) h 14 (Int32.ofNat (B + u)) (h + 5) rm = Int32.ofNat he := by rw [gu_off _ _ (Or.inl (by omega)), gu_off _ _ (Or.inl (by omega)), ehe]
  have m99 : mMin 99 (Int32.ofNat (he + kGv kd u)) = Int32.ofNat (min 99 (he + kGv kd u)) := minK (a := 99) (by omega) (by omega)
  have cB : ∀ n, σ (h + 4) i = 1 → F_X0_burnThings_L2 Z h (n + 1) (Int32.ofNat i) σ = if Int32.ofNat (fu - u) = 0 then mLet (gu S (h + 4) i 0) (fun s10 => mLet (gu s10 h 15 ((s10 h 15) + 1)) (fun s11 => F_X0_burnThings_L2 Z h n (Int32.ofNat (i + 1)) s11)) else F_X0_burnThings_L2 Z h n (Int32.ofNat (i + 1)) S := by
    intro n hl
    rw [F_X0_burnThings_L2, e9, if_neg c]
    simp only [mInk (k := i) (n := 12) k12 (show 12 < 2 ^ 31 by decide), nnk (k := i) (show i < 2 ^ 31 by omega), hl, if_true, a1, mCall_some, mLet_eq, fu0, mn, erm, efu, subk u1, x14, addk, mInk (k := rm) (n := 8) (show rm < 8 by omega) (show 8 < 2 ^ 31 by decide), nnk (k := rm) (show rm < 2 ^ 31 by omega), x1, x1_gives hkd (show u ≤ 202 by omega), x5, m99, hS, S3, ei]
  by_cases h0 : Int32.ofNat (fu - u) = 0
  · have q4 := q3.upd (by omega) (j := 4) (i := i) (by unfold dom; omega) (v := 0) (okj (m := 1) (by omega) i ⟨0, by omega, rfl⟩)
    have es := q4.2.2.1 0 15 (by unfold dom; omega)
    have q5 := q4.upd (by omega) (j := 0) (i := 15) (by unfold dom; omega) (v := gu S (h + 4) i 0 (h + 0) 15 + 1) (by unfold okv; omega)
    refine ⟨_, _, B + u, by omega, by omega, ?_, q5, MF.trans f3 (MF.trans (MF.put (j := 4) (by omega)) (MF.put (j := 0) (by omega))), ?_⟩
    · rw [mB, o2', mCall_some, if_pos h0, po, mCall_some, mLet_eq, es]; rfl
    · intro n hl
      rw [cB n hl, if_pos h0]; rfl
  · refine ⟨S, T2, B + u, by omega, by omega, ?_, q3, f3, ?_⟩
    · rw [mB, o2', mCall_some, if_neg h0]
    · intro n hl
      rw [cB n hl, if_neg h0]
end
