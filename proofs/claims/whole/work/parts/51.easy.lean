section
variable {Z : List gH}
theorem rem1 (x : Int32) : mRem x (-1) = 0 := by
  have e : x / -1 = -x := Int32.toInt_inj.mp (by
    rw [Int32.toInt_div, Int32.toInt_neg x, show (-1 : Int32).toInt = -1 from rfl, Int.tdiv_neg, Int.tdiv_one])
  unfold mRem
  rw [e, Int32.neg_mul_neg, Int32.mul_one, Int32.sub_self]
theorem mSh_eq {α : Type} {q : Nat} {f : Nat → Option α} (h : q ≤ 3) : mSh (Int32.ofNat q) f = f (39 + 2 * q) := by
  unfold mSh; rw [mInk (by omega) (by decide), nnk (by omega)]
theorem mSl_eq {α : Type} {q : Nat} {f : Nat → Option α} (h : q ≤ 4) : mSl (Int32.ofNat q) f = f (48 + 3 * q) := by
  unfold mSl; rw [mInk (by omega) (by decide), nnk (by omega)]
theorem sim_tell (x : Int32) : Sim Z (F_X9_tell Z x) (F_X10_tell Z x) := by
  intro σ τ hr
  obtain ⟨-, a, b, c, ⟨n, w1, w2, w3, w4⟩, e⟩ := id hr
  have en : Int32.ofNat n + 1 = Int32.ofNat (n + 1) := addk n 1
  unfold F_X9_tell F_X10_tell
  rw [w2, w3]
  by_cases h : n = 60
  · subst h
    exact same hr rfl rfl
  · have c1 : Int32.ofNat n < 60 := (ltk (b := 60) (by omega) (by decide)).mpr (by omega)
    have c2 : ¬ Int32.ofNat n = 60 := fun q => h ((eqk (b := 60) (by omega) (by decide)).mp q)
    rw [if_pos c1, if_neg c2, mInk (k := n) (by omega) (by decide), mInk (k := n) (by omega) (by decide), nnk (k := n) (by omega)]
    simp only [mLet_eq]
    rw [gu_ne σ (i := 64) (a := 0) n x (by decide), gu_ne τ (i := 89) (a := 65) n x (by decide), w2, w3, en, gu_self, gu_self]
    have f1 : ∀ c, c ≠ 0 → c ≠ 64 → gu (gu σ 64 n x) 0 11 (Int32.ofNat (n + 1)) c = σ c := fun c h1 h2 => by rw [gu_ne _ _ _ h1, gu_ne _ _ _ h2]
    have g1 : ∀ c, c ≠ 65 → c ≠ 89 → gu (gu τ 89 n x) 65 36 (Int32.ofNat (n + 1)) c = τ c := fun c h1 h2 => by rw [gu_ne _ _ _ h1, gu_ne _ _ _ h2]
    have g0 : ∀ k, k ≠ 36 → gu (gu τ 89 n x) 65 36 (Int32.ofNat (n + 1)) 65 k = τ 65 k := fun k h => by rw [gu_off _ _ (Or.inr h), gu_ne _ _ _ (by decide)]
    refine ⟨_, _, _, rfl, rfl, hr.other (fun c hc => f1 c (by omega) (by omega)) (by rw [gu_off _ _ (Or.inr (by decide)), gu_ne _ _ _ (by decide)]) (g1 66 (by decide) (by decide)) (g1 67 (by decide) (by decide)) (g0 3 (by decide)) (a.fr (fun c h1 h2 => f1 c (by omega) (by omega)) (fun c h1 h2 => g1 c (by omega) (by omega))) (b.fr (fun c h1 h2 => f1 c (by omega) (by omega)) (fun c h1 h2 => g1 c (by omega) (by omega))) (c.fr (f1 34 (by decide) (by decide)) (f1 35 (by decide) (by decide)) (g0 10 (by decide)) (g1 73 (by decide) (by decide))) ⟨n + 1, by omega, gu_self _ _ _ _, gu_self _ _ _ _, fun k hk => ?_⟩ (e.fr (g1 74 (by decide) (by decide)) (g1 75 (by decide) (by decide))), fun c h1 h2 => f1 c (by omega) (by omega), fun c h1 => g1 c (by omega) (by omega)⟩
    rw [gu_ne _ _ _ (show 64 ≠ 0 by decide), gu_ne _ _ _ (show 89 ≠ 65 by decide)]
    by_cases q : k = n
    · subst q; rw [gu_self, gu_self]
    · rw [gu_off _ _ (Or.inr q), gu_off _ _ (Or.inr q)]; exact w4 k (by omega)
theorem sim_trim (x : Int32) : Sim Z (F_X9_trim Z x) (F_X10_trim Z x) := by
  intro σ τ hr
  obtain ⟨-, a, b, ⟨n, w1, w2, w3, w4⟩, d, e⟩ := id hr
  unfold F_X9_trim F_X10_trim
  rw [x9_within, x10_in, mCall_some, mCall_some, w2, w3]
  rcases rng x n (by omega) with ⟨k, hk, rfl⟩ | ho
  rotate_left
  · rw [wi_out ho, if00, if00]; exact same hr rfl rfl
  rw [wi_in hk (by omega), if10, if10, mLet_eq, mLet_eq]
  have f1 : ∀ c, c ≠ 34 → gu σ 34 1 (Int32.ofNat k) c = σ c := fun c h => gu_ne _ _ _ h
  have g1 : ∀ c, c ≠ 65 → gu τ 65 10 (Int32.ofNat k) c = τ c := fun c h => gu_ne _ _ _ h
  have g0 : ∀ q, q ≠ 10 → gu τ 65 10 (Int32.ofNat k) 65 q = τ 65 q := fun q h => gu_off _ _ (Or.inr h)
  refine ⟨_, _, _, rfl, rfl, hr.other (fun c hc => f1 c (by omega)) (by rw [f1 0 (by decide)]) (g1 66 (by decide)) (g1 67 (by decide)) (g0 3 (by decide)) (a.fr (fun c h1 h2 => f1 c (by omega)) (fun c h1 h2 => g1 c (by omega))) (b.fr (fun c h1 h2 => f1 c (by omega)) (fun c h1 h2 => g1 c (by omega))) ⟨k, by omega, gu_self _ _ _ _, gu_self _ _ _ _, fun q hq => ?_⟩ (d.fr (by rw [f1 0 (by decide)]) (f1 64 (by decide)) (g0 36 (by decide)) (g1 89 (by decide))) (e.fr (g1 74 (by decide)) (g1 75 (by decide))), fun c h1 h2 => f1 c (by omega), fun c h1 => g1 c (by omega)⟩
  rw [f1 35 (by decide), g1 73 (by decide)]; exact w4 q (by omega)
theorem sim_keep (hZ : Lay Z) : Sim Z (F_X9_keep Z) (F_X10_keep Z) := by
  intro σ τ hr
  obtain ⟨⟨N, V, T, M, B, hp, hm, hi⟩, a, b, c, d, e⟩ := hr
  obtain ⟨s, a1, a2, a3⟩ := become_eq (Z := Z) (l0 := 13) (l1 := 4) σ (by omega)
  obtain ⟨t, b1, b2, b3⟩ := copyAll_eq (Z := Z) (a := 66) (b := 67) (by decide) (zl_at (hZ.at (i := 66) rfl)) (zl_at (hZ.at (i := 67) rfl)) τ
  unfold F_X9_keep F_X10_keep
  rw [a1, b1, mCall_some, mCall_some, mLet_eq, mLet_eq]
  have f1 : ∀ c, c ≠ 0 → c < 13 ∨ 21 < c → gu s 0 12 1 c = σ c := fun c h1 h2 => by rw [gu_ne _ _ _ h1]; exact a3 c (by omega)
  have f0 : ∀ k, k ≠ 12 → gu s 0 12 1 0 k = σ 0 k := fun k h => by rw [gu_off _ _ (Or.inr h), a3 0 (by omega)]
  have g1 : ∀ c, c ≠ 65 → c ≠ 67 → gu t 65 3 1 c = τ c := fun c h1 h2 => by rw [gu_ne _ _ _ h1]; exact b2 c h2
  have g0 : ∀ k, k ≠ 3 → gu t 65 3 1 65 k = τ 65 k := fun k h => by rw [gu_off _ _ (Or.inr h), b2 65 (by decide)]
  have hpn : HP Z (gu s 0 12 1) (gu t 65 3 1) 4 66 N V T M B := hp.fr (fun j hj => f1 _ (by omega) (by omega)) (fun c hc => f1 c (by omega) (by omega)) (g1 66 (by decide) (by decide))
  have hpi : HP Z (gu s 0 12 1) (gu t 65 3 1) 13 67 N V T M B := hp.cp (fun j i h => by rw [gu_ne _ _ _ (by omega)]; exact a2 j i h) (fun c hc => f1 c (by omega) (by omega)) (fun q hq => by rw [gu_ne _ _ _ (by decide)]; exact b3 q hq)
  have r1 : gu s 0 12 1 13 9 = Int32.ofNat N := hpi.2.1.1
  have r2 : gu t 65 3 1 66 1 = Int32.ofNat N := (hpn.2.2.1 0 9 (by unfold dom; omega)).symm.trans hpn.2.1.1
  rw [r1, r2]
  exact ⟨_, _, _, rfl, rfl, ⟨⟨N, V, T, M, B, hpn, hm, Or.inr ⟨gu_self _ _ _ _, gu_self _ _ _ _, N, V, T, M, B, hpi, hm, Nat.le_refl T⟩⟩, a.fr (fun c h1 h2 => f1 c (by omega) (by omega)) (fun c h1 h2 => g1 c (by omega) (by omega)), b.fr (fun c h1 h2 => f1 c (by omega) (by omega)) (fun c h1 h2 => g1 c (by omega) (by omega)), c.fr (f1 34 (by decide) (by decide)) (f1 35 (by decide) (by decide)) (g0 10 (by decide)) (g1 73 (by decide) (by decide)), d.fr (f0 11 (by decide)) (f1 64 (by decide) (by decide)) (g0 36 (by decide)) (g1 89 (by decide) (by decide)), e.fr (g1 74 (by decide) (by decide)) (g1 75 (by decide) (by decide))⟩, fun c h1 h2 => f1 c (by omega) (by omega), fun c h1 => g1 c (by omega) (by omega)⟩
theorem sim_back (hZ : Lay Z) : Sim Z (F_X9_back Z) (F_X10_back Z) := by
  intro σ τ hr
  obtain ⟨⟨N, V, T, M, B, hp, hm, hi⟩, a, b, c, d, e⟩ := id hr
  unfold F_X9_back F_X10_back
  rcases hi with ⟨i1, i2⟩ | ⟨i1, i2, N2, V2, T2, M2, B2, hp2, hm2, ht⟩
  · rw [i1, i2, if00, if00]; exact same hr rfl rfl
  obtain ⟨s, a1, a2, a3⟩ := become_eq (Z := Z) (l0 := 4) (l1 := 13) σ (by omega)
  obtain ⟨t, b1, b2, b3⟩ := copyAll_eq (Z := Z) (a := 67) (b := 66) (by decide) (zl_at (hZ.at (i := 67) rfl)) (zl_at (hZ.at (i := 66) rfl)) τ
  rw [i1, i2, if10, if10, a1, b1, mCall_some, mCall_some]
  have hpn : HP Z s t 4 66 N2 V2 T2 M2 B2 := hp2.cp (fun j i h => a2 j i h) (fun c hc => a3 c (by omega)) b3
  have hpi : HP Z s t 13 67 N2 V2 T2 M2 B2 := hp2.fr (fun j hj => a3 _ (by omega)) (fun c hc => a3 c (by omega)) (b2 67 (by decide))
  have r1 : s 4 9 = Int32.ofNat N2 := hpn.2.1.1
  have r2 : t 66 1 = Int32.ofNat N2 := (hpn.2.2.1 0 9 (by unfold dom; omega)).symm.trans hpn.2.1.1
  have e0 := a3 0 (by omega)
  have e65 := b2 65 (by decide)
  rw [r1, r2]
  exact ⟨_, _, _, rfl, rfl, ⟨⟨N2, V2, T2, M2, B2, hpn, hm2, Or.inr ⟨by rw [e0]; exact i1, by rw [e65]; exact i2, N2, V2, T2, M2, B2, hpi, hm2, Nat.le_refl T2⟩⟩, a.fr (fun c h1 h2 => a3 c (by omega)) (fun c h1 h2 => b2 c (by omega)), b.fr (fun c h1 h2 => a3 c (by omega)) (fun c h1 h2 => b2 c (by omega)), c.fr (a3 34 (by omega)) (a3 35 (by omega)) (by rw [e65]) (b2 73 (by decide)), d.fr (by rw [e0]) (a3 64 (by omega)) (by rw [e65]) (b2 89 (by decide)), e.fr (b2 74 (by decide)) (b2 75 (by decide))⟩, fun c h1 h2 => a3 c (by omega), fun c h1 => b2 c (by omega)⟩
theorem find_eq {σ : gS} {q : Nat} {w : Int32} (hq : q ≤ 4) : F_X9_findingFor Z (Int32.ofNat q) w σ = if σ (48 + 3 * q) 1 = 0 then some (-1000000011, σ) else if σ (48 + 3 * q) 1 = w then some (0, σ) else some (-1000000012, σ) := by
  unfold F_X9_findingFor; rw [mSl_eq hq]; rfl
theorem sim_rest (x y : Int32) : Sim Z (F_X9_rest Z x y) (F_X10_rest Z x y) := by
  intro σ τ hr
  obtain ⟨-, a, b, c, d, e⟩ := id hr
  unfold F_X9_rest F_X10_rest
  rw [x9_isSlot, x10_isSlot, mCall_some, mCall_some]
  rcases rng x 4 (by decide) with ⟨q, hq, rfl⟩ | ho
  rotate_left
  · rw [wi_out (a := 0) (b := 4) ho, if00, if00]; exact same hr rfl rfl
  have e1 : wi (Int32.ofNat q) 0 4 = 1 := wi_in (b := 4) hq (by decide)
  obtain ⟨b1, -, -, -, b3⟩ := b q (by omega)
  have i5 : ∀ {α : Type} {a : Option α}, mIn 5 (Int32.ofNat q) a = a := mInk (k := q) (by omega) (by decide)
  rw [e1, if10, if10]
  simp only [find_eq hq, mSl_eq hq, i5, nnk (k := q) (by omega), ← b1]
  by_cases c0 : σ (48 + 3 * q) 1 = 0
  · rw [if_pos c0, if_pos c0]; exact same hr rfl rfl
  rw [if_neg c0, if_neg c0]
  by_cases c3 : σ (48 + 3 * q) 1 = 3
  · rw [if_pos c3, if_pos c3, mCall_some, if00, ← b3 c3]
    by_cases y0 : y = 0
    · rw [if_pos y0, if_pos y0]; exact same hr rfl rfl
    rw [if_neg y0, if_neg y0]
    by_cases y1 : y = -1
    · rw [if_pos y1, y1, rem1]; exact same hr rfl rfl
    · rw [if_neg y1]
      unfold mNz
      rw [if_neg y0, if_neg y0]; exact same hr rfl rfl
  · rw [if_neg c3, if_neg c3]; exact same hr rfl rfl
theorem sim_item (x y : Int32) : Sim Z (F_X9_item Z x y) (F_X10_item Z x y) := by
  intro σ τ hr
  obtain ⟨-, a, b, c, d, e⟩ := id hr
  unfold F_X9_item F_X10_item
  rw [x9_isSlot, x10_isSlot, mCall_some, mCall_some]
  rcases rng x 4 (by decide) with ⟨q, hq, rfl⟩ | ho
  rotate_left
  · rw [wi_out (a := 0) (b := 4) ho, if00, if00]; exact same hr rfl rfl
  have e1 : wi (Int32.ofNat q) 0 4 = 1 := wi_in (b := 4) hq (by decide)
  obtain ⟨b1, -, -, b3, -⟩ := b q (by omega)
  have i5 : ∀ {α : Type} {a : Option α}, mIn 5 (Int32.ofNat q) a = a := mInk (k := q) (by omega) (by decide)
  rw [e1, if10, if10]
  simp only [find_eq hq, mSl_eq hq, i5, nnk (k := q) (by omega), ← b1]
  by_cases c0 : σ (48 + 3 * q) 1 = 0
  · rw [if_pos c0, if_pos c0]; exact same hr rfl rfl
  rw [if_neg c0, if_neg c0]
  by_cases c3 : σ (48 + 3 * q) 1 = 2
  · obtain ⟨d1, ⟨L, hL, d2⟩, d3⟩ := b3 c3
    rw [if_pos c3, if_pos c3, mCall_some, if00]
    unfold F_X5_hasNumber F_X5_hasPlace
    simp only [x9_within, x10_in, mCall_some, mZwi]
    have z : 48 + 3 * q + 1 = 49 + 3 * q := by omega
    rw [z, ← d1, d2]
    rcases rngN y L (by omega) with ⟨k, hk, rfl⟩ | ho
    rotate_left
    · rw [wi_out ho, if00, if00]; exact same hr rfl rfl
    have i24 : ∀ {α : Type} {a : Option α}, mIn 24 (Int32.ofNat k) a = a := mInk (k := k) (by omega) (by decide)
    have ii : (24 : Int32) * Int32.ofNat q + Int32.ofNat k = Int32.ofNat (24 * q + k) := by
      rw [show (24 : Int32) * Int32.ofNat q = Int32.ofNat (24 * q) from mulk 24 q, addk]
    have z2 : 49 + 3 * q + 1 = 50 + 3 * q := by omega
    rw [wi_inN hk (by omega)]
    simp only [if10, i24]
    rw [ii, mInk (k := 24 * q + k) (by omega) (by decide), nnk (k := 24 * q + k) (by omega), nnk (k := k) (by omega), mLet_eq, z2, ← d3 k (by omega)]
    by_cases v : σ (50 + 3 * q) k = -1000000005
    · rw [if_pos v, if_pos v]; exact same hr rfl rfl
    · rw [if_neg v, if_neg v]; exact same hr rfl rfl
  · rw [if_neg c3, if_neg c3]; exact same hr rfl rfl
theorem sim_ask (x y : Int32) : Sim Z (F_X9_ask Z x y) (F_X10_ask Z x y) := by
  intro σ τ hr
  obtain ⟨-, a, b, c, d, e⟩ := id hr
  unfold F_X9_ask F_X10_ask
  simp only [x9_isSlot, x10_isSlot, x9_isKind, x10_in, mCall_some]
  rcases rng x 4 (by decide) with ⟨q, hq, rfl⟩ | ho
  rotate_left
  · rw [wi_out (a := 0) (b := 4) ho, if00, if00]; exact same hr rfl rfl
  have e1 : wi (Int32.ofNat q) 0 4 = 1 := wi_in (b := 4) hq (by decide)
  obtain ⟨b1, -, b3, -, -⟩ := b q (by omega)
  have i5 : ∀ {α : Type} {a : Option α}, mIn 5 (Int32.ofNat q) a = a := mInk (k := q) (by omega) (by decide)
  rw [e1, if10, if10]
  rcases rng y 5 (by decide) with ⟨v, hv, rfl⟩ | ho
  rotate_left
  · rw [wi_out (a := 0) (b := 5) ho, if00, if00]; exact same hr rfl rfl
  have e2 : wi (Int32.ofNat v) 0 5 = 1 := wi_in (b := 5) hv (by decide)
  rw [e2, if10, if10]
  simp only [find_eq hq, mSl_eq hq, i5, nnk (k := q) (by omega), ← b1]
  by_cases c0 : σ (48 + 3 * q) 1 = 0
  · rw [if_pos c0, if_pos c0]; exact same hr rfl rfl
  rw [if_neg c0, if_neg c0]
  by_cases c3 : σ (48 + 3 * q) 1 = 1
  · obtain ⟨d1, d3, ⟨kd, hkd, d2⟩⟩ := b3 c3
    rw [if_pos c3, if_pos c3, mCall_some, if00, ← d1]
    obtain ⟨r, u1, u2⟩ := of_under (Z := Z) hkd hv σ τ
    rw [d2, u1, u2, mCall_some, mCall_some, x1_worth, mCall_some, d3]
    by_cases hc : r = 0
    · rw [if_pos hc, if_pos hc]; exact same hr rfl rfl
    · rw [if_neg hc, if_neg hc]; exact same hr rfl rfl
  · rw [if_neg c3, if_neg c3]; exact same hr rfl rfl
end
