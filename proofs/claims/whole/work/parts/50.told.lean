section
variable {Z : List gH}
theorem x1_worth {kd fu : Int32} {σ : gS} : F_X1_worth Z kd fu σ = some (kWorth kd fu, σ) := by
  unfold F_X1_worth kWorth
  repeat' split
  all_goals rfl
theorem worth6 {fu : Nat} (h : fu ≤ 99) : (114 : Int32) - Int32.ofNat fu = (120 - Int32.ofNat fu) - 6 := by
  rw [show (120 : Int32) - Int32.ofNat fu = Int32.ofNat (120 - fu) from subk (a := 120) (by omega), show (114 : Int32) - Int32.ofNat fu = Int32.ofNat (114 - fu) from subk (a := 114) (by omega)]
  refine ((subk (b := 6) (by omega)).trans ?_).symm
  congr 1; omega
theorem x10_worthOf {t fu : Nat} {kd : Int32} {τ : gS} (ht : t < 12) (hf : fu ≤ 99) (e0 : τ 66 (82 + 4 * t) = kd) (e2 : τ 66 (82 + 4 * t + 2) = Int32.ofNat fu) : F_X10_worthOf Z (Int32.ofNat t) τ = some (kWorth kd (Int32.ofNat fu), τ) := by
  have o0 : F_X10_of Z (Int32.ofNat t) 0 τ = some (kd, τ) := by rw [← e0]; exact x10_of (w := 0) ht (by decide)
  have o2 : F_X10_of Z (Int32.ofNat t) 2 τ = some (Int32.ofNat fu, τ) := by rw [← e2]; exact x10_of (w := 2) ht (by decide)
  unfold F_X10_worthOf kWorth
  rw [o2, mCall_some, o0, mCall_some, worth6 hf]
  repeat' split
  all_goals rfl
theorem scr_fin {σ τ σ2 τ2 : gS} (hr : RR Z σ τ) (h1 : ∀ x, x ≠ 3 → σ2 x = σ x) (h2 : ∀ x, x ≠ 79 → x ≠ 80 → τ2 x = τ x) {r : Int32} {A B : Option (Int32 × gS)} (a : A = some (r, σ2)) (b : B = some (r, τ2)) : ∃ r σ2 τ2, A = some (r, σ2) ∧ B = some (r, τ2) ∧ RR Z σ2 τ2 ∧ (∀ c, 65 ≤ c → c < 90 → σ2 c = σ c) ∧ ∀ c, c < 65 ∨ 90 ≤ c → τ2 c = τ c :=
  ⟨r, σ2, τ2, a, b, hr.scr h1 h2, fun c q1 q2 => h1 c (by omega), fun c q => h2 c (by omega) (by omega)⟩
theorem sim_told (x y : Int32) : Sim Z (F_X9_told Z x y) (F_X10_told Z x y) := by
  intro σ τ hr
  obtain ⟨N, V, T, M, B, hp, hm, -⟩ := hr.1
  have hN := hp.1.1
  have e9 : σ 4 9 = Int32.ofNat N := hp.2.1.1
  have t9 : τ 66 1 = Int32.ofNat N := (hp.2.2.1 0 9 (by unfold dom; omega)).symm.trans e9
  unfold F_X9_told F_X10_told
  rw [x9_isThing, x10_isThing, mCall_some, mCall_some, e9, t9]
  rcases rngN x N (by omega) with ⟨k, hk, rfl⟩ | ho
  rotate_left
  · rw [wi_out ho, if00, if00]; exact same hr rfl rfl
  rw [wi_inN hk (by omega), if10, if10]
  have i12 : ∀ {α : Type} {a : Option α}, mIn 12 (Int32.ofNat k) a = a := mInk (k := k) (by omega) (by decide)
  have z0 : τ 66 (82 + 4 * k) = σ 5 k := (hp.2.2.1 1 k (by unfold dom; omega)).symm
  have z1 : τ 66 (82 + 4 * k + 1) = σ 6 k := (hp.2.2.1 2 k (by unfold dom; omega)).symm
  have z2 : τ 66 (82 + 4 * k + 2) = σ 7 k := (hp.2.2.1 3 k (by unfold dom; omega)).symm
  have z3 : τ 66 (82 + 4 * k + 3) = σ 8 k := (hp.2.2.1 4 k (by unfold dom; omega)).symm
  have o0 : F_X10_of Z (Int32.ofNat k) 0 τ = some (σ 5 k, τ) := by rw [← z0]; exact x10_of (w := 0) (by omega) (by decide)
  have o1 : F_X10_of Z (Int32.ofNat k) 1 τ = some (σ 6 k, τ) := by rw [← z1]; exact x10_of (w := 1) (by omega) (by decide)
  have o2 : F_X10_of Z (Int32.ofNat k) 2 τ = some (σ 7 k, τ) := by rw [← z2]; exact x10_of (w := 2) (by omega) (by decide)
  have o3 : F_X10_of Z (Int32.ofNat k) 3 τ = some (σ 8 k, τ) := by rw [← z3]; exact x10_of (w := 3) (by omega) (by decide)
  have g0 : le (σ 5 k) 5 := (hp.2.2.2.1 k hk).1
  have g2 : le (σ 7 k) 99 := (hp.2.2.2.1 k hk).2.2.1
  obtain ⟨kd, hkd, ekd⟩ := g0
  obtain ⟨fu, hfu, efu⟩ := g2
  have w1 : F_X10_worthOf Z (Int32.ofNat k) τ = some (kWorth (σ 5 k) (σ 7 k), τ) := by
    rw [efu]; exact x10_worthOf (by omega) hfu z0 (z2.trans efu)
  have cc : F_X10_catchesOf Z (Int32.ofNat k) τ = some (kCat (σ 5 k), τ) := by rw [← z0]; exact x10_catchesOf (by omega)
  obtain ⟨b, σ2, τ2, hb, b1, b2, b3, b4⟩ := burnsOf_eq hp hk (by decide) (by decide)
  have gv : F_X10_givesOf Z (Int32.ofNat k) (Int32.ofNat b) τ2 = some (Int32.ofNat (kGv kd b), τ2) := x10_givesOf (by omega) hkd hb (by rw [b4 66 (by decide) (by decide), z0, ekd])
  have gv2 : F_X1_gives Z (σ 5 k) (Int32.ofNat b) σ2 = some (Int32.ofNat (kGv kd b), σ2) := by rw [ekd]; exact x1_gives hkd hb
  simp only [i12, nnk (k := k) (by omega), b1, b2, mCall_some, gv, gv2, w1, cc, x1_worth, x1_catches]
  by_cases c0 : y = 0
  · subst c0; rw [if_pos rfl, if_pos rfl, o0]; exact same hr rfl rfl
  by_cases c1 : y = 1
  · subst c1; rw [if_neg c0, if_neg c0, if_pos rfl, if_pos rfl, o1]; exact same hr rfl rfl
  by_cases c2 : y = 2
  · subst c2; rw [if_neg c0, if_neg c0, if_neg c1, if_neg c1, if_pos rfl, if_pos rfl, o2]; exact same hr rfl rfl
  by_cases c3 : y = 3
  · subst c3; rw [if_neg c0, if_neg c0, if_neg c1, if_neg c1, if_neg c2, if_neg c2, if_pos rfl, if_pos rfl, o3]; exact same hr rfl rfl
  rw [if_neg c0, if_neg c0, if_neg c1, if_neg c1, if_neg c2, if_neg c2, if_neg c3, if_neg c3]
  by_cases c4 : y = 4
  · rw [if_pos c4, if_pos c4]; exact scr_fin hr b3 b4 rfl rfl
  by_cases c5 : y = 5
  · rw [if_neg c4, if_neg c4, if_pos c5, if_pos c5]; exact scr_fin hr b3 b4 rfl rfl
  by_cases c6 : y = 6
  · rw [if_neg c4, if_neg c4, if_neg c5, if_neg c5, if_pos c6, if_pos c6]; exact same hr rfl rfl
  rw [if_neg c4, if_neg c4, if_neg c5, if_neg c5, if_neg c6, if_neg c6]
  by_cases c7 : y = 7
  · rw [if_pos c7, if_pos c7]; exact same hr rfl rfl
  · rw [if_neg c7, if_neg c7]; exact same hr rfl rfl
theorem of_under {a b : Nat} (ha : a ≤ 5) (hb : b ≤ 5) (σ τ : gS) : ∃ r, F_X1_isOf Z (Int32.ofNat a) (Int32.ofNat b) σ = some (r, σ) ∧ F_X10_isUnder Z (Int32.ofNat a) (Int32.ofNat b) τ = some (r, τ) := by
  rcases (show a = 0 ∨ a = 1 ∨ a = 2 ∨ a = 3 ∨ a = 4 ∨ a = 5 by omega) with rfl | rfl | rfl | rfl | rfl | rfl <;> rcases (show b = 0 ∨ b = 1 ∨ b = 2 ∨ b = 3 ∨ b = 4 ∨ b = 5 by omega) with rfl | rfl | rfl | rfl | rfl | rfl <;> first | exact ⟨1, rfl, rfl⟩ | exact ⟨0, rfl, rfl⟩
theorem sim_as (x y : Int32) : Sim Z (F_X9_as Z x y) (F_X10_as Z x y) := by
  intro σ τ hr
  obtain ⟨N, V, T, M, B, hp, hm, -⟩ := hr.1
  have hN := hp.1.1
  have e9 : σ 4 9 = Int32.ofNat N := hp.2.1.1
  have t9 : τ 66 1 = Int32.ofNat N := (hp.2.2.1 0 9 (by unfold dom; omega)).symm.trans e9
  unfold F_X9_as F_X10_as
  simp only [x9_isThing, x10_isThing, x9_isKind, x10_in, mCall_some, e9, t9]
  rcases rngN x N (by omega) with ⟨k, hk, rfl⟩ | ho
  rotate_left
  · rw [wi_out ho, if00, if00]; exact same hr rfl rfl
  rw [wi_inN hk (by omega), if10, if10]
  rcases rng y 5 (by decide) with ⟨v, hv, rfl⟩ | ho
  rotate_left
  · rw [wi_out (a := 0) (b := 5) ho, if00, if00]; exact same hr rfl rfl
  have e2 : wi (Int32.ofNat v) 0 5 = 1 := wi_in (b := 5) hv (by decide)
  have z0 : τ 66 (82 + 4 * k) = σ 5 k := (hp.2.2.1 1 k (by unfold dom; omega)).symm
  have z2 : τ 66 (82 + 4 * k + 2) = σ 7 k := (hp.2.2.1 3 k (by unfold dom; omega)).symm
  have o0 : F_X10_of Z (Int32.ofNat k) 0 τ = some (σ 5 k, τ) := by rw [← z0]; exact x10_of (w := 0) (by omega) (by decide)
  have o2 : F_X10_of Z (Int32.ofNat k) 2 τ = some (σ 7 k, τ) := by rw [← z2]; exact x10_of (w := 2) (by omega) (by decide)
  have g0 : le (σ 5 k) 5 := (hp.2.2.2.1 k hk).1
  obtain ⟨kd, hkd, ekd⟩ := g0
  obtain ⟨r, u1, u2⟩ := of_under (Z := Z) hkd hv σ τ
  have i12 : ∀ {α : Type} {a : Option α}, mIn 12 (Int32.ofNat k) a = a := mInk (k := k) (by omega) (by decide)
  rw [e2, if10, if10, i12, nnk (k := k) (by omega), o0, mCall_some, ekd, u1, u2, mCall_some, mCall_some, o2, mCall_some, i12]
  by_cases hc : r = 0
  · rw [if_pos hc, if_pos hc]; exact same hr rfl rfl
  · rw [if_neg hc, if_neg hc]; exact same hr rfl rfl
theorem sim_fine (x : Int32) : Sim Z (F_X9_fine Z x) (F_X10_fine Z x) := by
  intro σ τ hr
  obtain ⟨⟨N, V, T, M, B, hp, hm, hi⟩, -⟩ := id hr
  have hN := hp.1.1
  have hT := hp.1.2.2.1
  have e9 : σ 4 9 = Int32.ofNat N := hp.2.1.1
  have t1 : τ 66 1 = Int32.ofNat N := (hp.2.2.1 0 9 (by unfold dom; omega)).symm.trans e9
  have hx : TXS Z σ τ 4 66 T := hp.2.2.2.2.2.2
  have t9 : τ 66 9 = Int32.ofNat T := (hp.2.2.1 0 11 (by unfold dom; omega)).symm.trans hp.2.1.2.2.1
  have hc := counts_eq (Z := Z) (h := 4) (key := 2) hx hT (by omega) t9
  have hc : F_X10_counts Z 2 τ = some (σ 12 2, τ) := hc
  unfold F_X9_fine F_X10_fine
  simp only [x9_isThing, x10_isThing, mCall_some, e9, t1, hc, mLet_eq]
  rcases rngN x N (by omega) with ⟨k, hk, rfl⟩ | ho
  rotate_left
  · rw [wi_out ho, if00, if00]; exact same hr rfl rfl
  rw [wi_inN hk (by omega), if10, if10]
  have i12 : ∀ {α : Type} {a : Option α}, mIn 12 (Int32.ofNat k) a = a := mInk (k := k) (by omega) (by decide)
  have z1 : τ 66 (82 + 4 * k + 1) = σ 6 k := (hp.2.2.1 2 k (by unfold dom; omega)).symm
  have z2 : τ 66 (82 + 4 * k + 2) = σ 7 k := (hp.2.2.1 3 k (by unfold dom; omega)).symm
  have o2 : ∀ t : gS, t 66 = τ 66 → F_X10_of Z (Int32.ofNat k) 2 t = some (σ 7 k, t) := fun t ht => by rw [← z2, ← ht]; exact x10_of (w := 2) (by omega) (by decide)
  have o1 : ∀ t : gS, t 66 = τ 66 → F_X10_of Z (Int32.ofNat k) 1 t = some (σ 6 k, t) := fun t ht => by rw [← z1, ← ht]; exact x10_of (w := 1) (by omega) (by decide)
  have fr : ∀ x, x ≠ 80 → gu (gu τ 80 0 (σ 7 k)) 80 1 (σ 6 k) x = τ x := fun x hx => by rw [gu_ne _ _ _ hx, gu_ne _ _ _ hx]
  rw [i12, i12, i12, nnk (k := k) (by omega), o2 τ rfl, mCall_some, o1 _ (gu_ne _ _ _ (by decide)), mCall_some, o2 _ (fr 66 (by decide)), mCall_some]
  rcases cnt_cases (h := 4) (key := 2) hx (by omega) with e | ⟨t, c, ht, e, c1, c2, c3⟩
  · have e : σ 12 2 = -1 := e
    rw [e, if_neg neg1, if_neg neg1]
    exact scr_fin hr (fun _ _ => rfl) (fun x h1 h2 => fr x h2) rfl rfl
  · have e : σ 12 2 = Int32.ofNat t := e
    have p0 : 0 ≤ Int32.ofNat t := (lek (a := 0) (by decide) (by omega)).mpr (Nat.zero_le t)
    obtain ⟨v, σ2, τ2, a1, a2, a3, a4⟩ := work_eq (Z := Z) (σ := σ) (τ := gu (gu τ 80 0 (σ 7 k)) 80 1 (σ 6 k)) (f0 := σ 7 k) (f1 := σ 6 k) (f2 := 0) (by omega) c2 c1 (c3.fr rfl rfl (fun q _ => by rw [fr 66 (by decide)])) ⟨by rw [gu_off _ _ (Or.inr (by decide)), gu_self], by rw [gu_self], fun q => by omega⟩
    rw [e, if_pos p0, if_pos p0, a1, a2, mCall_some, mCall_some]
    exact scr_fin hr a3 (fun x h1 h2 => by rw [a4 x h1, fr x h2]) rfl rfl
end
