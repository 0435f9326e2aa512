section
variable {Z : List gH}
theorem cnt_cases {σ τ : gS} {h T key : Nat} (hx : TXS Z σ τ h 66 T) (hk : key < 3) : σ (h + 8) key = -1 ∨ ∃ t c, t < T ∧ σ (h + 8) key = Int32.ofNat t ∧ 90 ≤ c ∧ zr Z t = some c ∧ TT Z σ τ c 66 t key := by
  obtain ⟨ks, k1, k2⟩ := hx
  rcases k2 key hk with ⟨e, -⟩ | ⟨t, ht, e1, e2, -⟩
  · exact Or.inl e
  · obtain ⟨c, c1, c2, c3⟩ := k1 t ht
    rw [e2] at c3
    exact Or.inr ⟨t, c, ht, e1, c1, c2, c3⟩
theorem RR.scr {σ τ σ2 τ2 : gS} (h : RR Z σ τ) (h1 : ∀ x, x ≠ 3 → σ2 x = σ x) (h2 : ∀ x, x ≠ 79 → x ≠ 80 → τ2 x = τ x) : RR Z σ2 τ2 :=
  h.query (fun c hc => h1 c (by unfold pcl at hc; omega)) (fun c hc => h2 c (by unfold pml at hc; omega) (by unfold pml at hc; omega)) (by have e := h2 65 (by decide) (by decide); exact ⟨by rw [e], by rw [e], by rw [e]⟩)
theorem neg1 : ¬ (0 : Int32) ≤ -1 := by decide
theorem sim_fee : Sim Z (F_X9_fee Z) (F_X10_fee Z) := by
  intro σ τ hr
  obtain ⟨⟨N, V, T, M, B, hp, hm, hi⟩, -⟩ := id hr
  have hT := hp.1.2.2.1
  have hx : TXS Z σ τ 4 66 T := hp.2.2.2.2.2.2
  have t9 : τ 66 9 = Int32.ofNat T := (hp.2.2.1 0 11 (by unfold dom; omega)).symm.trans hp.2.1.2.2.1
  have e6 : τ 66 6 = σ 4 14 := (hp.2.2.1 0 14 (by unfold dom; omega)).symm
  have e7 : τ 66 7 = σ 4 15 := (hp.2.2.1 0 15 (by unfold dom; omega)).symm
  have hc := counts_eq (Z := Z) (h := 4) (key := 1) hx hT (by omega) t9
  have hc : F_X10_counts Z 1 τ = some (σ 12 1, τ) := hc
  unfold F_X9_fee F_X10_fee
  rw [hc, mCall_some]
  simp only [mLet_eq]
  have g6 : gu τ 80 0 (τ 66 6) 66 = τ 66 := gu_ne _ _ _ (by decide)
  rw [g6]
  have fr : ∀ x, x ≠ 80 → gu (gu τ 80 0 (τ 66 6)) 80 1 (τ 66 7) x = τ x := fun x hx => by rw [gu_ne _ _ _ hx, gu_ne _ _ _ hx]
  rcases cnt_cases (h := 4) (key := 1) hx (by omega) with e | ⟨t, c, ht, e, c1, c2, c3⟩
  · have e : σ 12 1 = -1 := e
    rw [e, if_neg neg1, if_neg neg1, fr 66 (by decide)]
    exact ⟨_, σ, _, rfl, by rw [e6], hr.scr (fun _ _ => rfl) (fun x h1 h2 => fr x h2), fun _ _ _ => rfl, fun c q => fr c (by omega)⟩
  · have e : σ 12 1 = Int32.ofNat t := e
    have p0 : 0 ≤ Int32.ofNat t := (lek (a := 0) (by decide) (by omega)).mpr (Nat.zero_le t)
    obtain ⟨v, σ2, τ2, a1, a2, a3, a4⟩ := work_eq (Z := Z) (σ := σ) (τ := gu (gu τ 80 0 (τ 66 6)) 80 1 (τ 66 7)) (f0 := σ 4 14) (f1 := σ 4 15) (f2 := 0) (by omega) c2 c1 (c3.fr rfl rfl (fun q _ => by rw [fr 66 (by decide)])) ⟨by rw [gu_off _ _ (Or.inr (by decide)), gu_self, e6], by rw [gu_self, e7], fun q => by omega⟩
    rw [e, if_pos p0, if_pos p0, a1, a2]
    exact ⟨v, σ2, τ2, rfl, rfl, hr.scr a3 (fun x h1 h2 => by rw [a4 x h1, fr x h2]), fun c q1 q2 => a3 c (by omega), fun c q => by rw [a4 c (by omega), fr c (by omega)]⟩
theorem sim_why (x : Int32) : Sim Z (F_X9_why Z x) (F_X10_why Z x) := by
  refine Sim.read (fun σ τ hr => ?_)
  obtain ⟨⟨N, V, T, M, B, hp, hm, hi⟩, -⟩ := id hr
  have hT := hp.1.2.2.1
  have hx : TXS Z σ τ 4 66 T := hp.2.2.2.2.2.2
  have t9 : τ 66 9 = Int32.ofNat T := (hp.2.2.1 0 11 (by unfold dom; omega)).symm.trans hp.2.1.2.2.1
  unfold F_X9_why F_X10_why
  rw [x9_within, x10_in, mCall_some, mCall_some]
  rcases rng x 2 (by decide) with ⟨k, hk, rfl⟩ | ho
  · have e : wi (Int32.ofNat k) 0 2 = 1 := wi_in (b := 2) hk (by decide)
    rw [e, if10, if10, counts_eq (h := 4) hx hT (by omega) t9, mCall_some, mInk (by omega) (by decide), mInk (by omega) (by decide), nnk (by omega)]
    show ∃ r, (if 0 ≤ σ 12 k then some (σ 12 k, σ) else some (-1000000005, σ)) = some (r, σ) ∧ (if 0 ≤ σ 12 k then some (σ 12 k, τ) else some (-1000000005, τ)) = some (r, τ)
    by_cases h : 0 ≤ σ 12 k
    · rw [if_pos h, if_pos h]; exact ⟨_, rfl, rfl⟩
    · rw [if_neg h, if_neg h]; exact ⟨_, rfl, rfl⟩
  · have e : wi x 0 2 = 0 := wi_out ho
    rw [e, if00, if00]; exact ⟨_, rfl, rfl⟩
theorem sim_textTold (x y : Int32) : Sim Z (F_X9_textTold Z x y) (F_X10_textTold Z x y) := by
  refine Sim.read (fun σ τ hr => ?_)
  obtain ⟨⟨N, V, T, M, B, hp, hm, hi⟩, -⟩ := id hr
  have hT := hp.1.2.2.1
  have e9 : σ 4 11 = Int32.ofNat T := hp.2.1.2.2.1
  have t9 : τ 66 9 = Int32.ofNat T := (hp.2.2.1 0 11 (by unfold dom; omega)).symm.trans e9
  unfold F_X9_textTold F_X10_textTold
  rw [x9_within, x10_in, mCall_some, mCall_some, e9, t9]
  rcases rngN x T (by omega) with ⟨t, ht, rfl⟩ | ho
  · rw [wi_inN ht (by omega), if10, if10, x9_within, x10_in, mCall_some, mCall_some]
    obtain ⟨ks, k1, -⟩ := hp.2.2.2.2.2.2
    obtain ⟨c, c1, c2, c3⟩ := k1 t ht
    rcases rng y 1 (by decide) with ⟨k, hk, rfl⟩ | ho
    · have e : wi (Int32.ofNat k) 0 1 = 1 := wi_in (b := 1) hk (by decide)
      have e3 : Int32.ofNat (136 + 2 * t) + 1 = Int32.ofNat (137 + 2 * t) := by
        have := addk (136 + 2 * t) 1
        rw [show 136 + 2 * t + 1 = 137 + 2 * t by omega] at this
        exact this
      rw [e, if10, if10, ix2, e3, mInk (k := 136 + 2 * t) (by omega) (by decide), mInk (k := 137 + 2 * t) (by omega) (by decide), nnk (k := 136 + 2 * t) (by omega), nnk (k := 137 + 2 * t) (by omega)]
      unfold F_X2_keyOf F_X2_operandsOf
      rw [x2_has (by omega) c2, mCall_some, mCall_some, if10, if10, mInk (k := t) (by omega) (by decide), mInk (k := t) (by omega) (by decide), nnk (k := t) (by omega), c2]
      rcases (show k = 0 ∨ k = 1 by omega) with rfl | rfl
      · have z0 : Int32.ofNat 0 = 0 := rfl
        rw [if_pos z0, if_pos z0, c3.2.2.1]
        have hks := c3.1
        have hzl := c3.2.2.2.1
        have e2 : Int32.ofNat (1000 * ks t + zl Z (c + 1)) / 1000 = Int32.ofNat (ks t) := by
          have := divk (a := 1000 * ks t + zl Z (c + 1)) (b := 1000) (by omega) (by decide)
          rw [show (1000 * ks t + zl Z (c + 1)) / 1000 = ks t by omega] at this
          exact this
        rw [e2]
        exact ⟨σ c 0, rfl, by rw [c3.2.1]⟩
      · have z0 : ¬ Int32.ofNat 1 = 0 := by decide
        rw [if_neg z0, if_neg z0]
        exact ⟨σ c 1, rfl, by rw [c3.2.2.2.2.1]⟩
    · have e : wi y 0 1 = 0 := wi_out ho
      rw [e, if00, if00]; exact ⟨_, rfl, rfl⟩
  · rw [wi_out ho, if00, if00]; exact ⟨_, rfl, rfl⟩
end
