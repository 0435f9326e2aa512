section
variable {Z : List gH}
theorem ST_at {s : gS} (hl : 89 < Z.length) : ST Z s Z.length 0 = s 36 4 ∧ ST Z s Z.length 1 = s 36 3 ∧ ∀ k, k < nn (s 36 2) → ST Z s (Z.length + 1) k = s 37 k := by
  have z : nn 0 = 0 := rfl
  refine ⟨?_, gu_self _ _ _ _, fun k hk => ?_⟩
  · unfold ST
    rw [gu_off _ _ (Or.inr (by decide)), gu_self]
  · unfold ST
    rw [gu_ne _ _ _ (by omega), gu_ne _ _ _ (by omega), gp_self, z, va_cpy0 hk, gp_ne _ _ (by omega), gp_ne _ _ (by omega)]
theorem op_text (hZ : Lay Z) (hgc : gcl Z Z.length) {σ : gS} (hr : RR Z σ σ) (a b c d e : Int32) : ∃ r σ2 Z2, F_op30 a b c d e Z σ = some (r, r, σ2, Z2) ∧ Lay Z2 ∧ gcl Z2 Z2.length ∧ Z2.length ≤ Z.length + 2 ∧ RR Z2 σ2 σ2 := by
  have hlen : 89 < Z.length := lt_of_at (hZ.at (i := 89) rfl)
  have m5 : mFuel = 5000 := rfl
  obtain ⟨⟨N, V, T, M, B, hp, hm, him⟩, -, -, ⟨n, n1, n2, n3, n4⟩, -, kc⟩ := id hr
  have hT := hp.1.2.2.1
  have e411 : σ 4 11 = Int32.ofNat T := hp.2.1.2.2.1
  have e669 : σ 66 9 = Int32.ofNat T := (hp.2.2.1 0 11 (by unfold dom; omega)).symm.trans e411
  have bk : ∀ k, k < n → σ 35 k = Int32.ofNat (nn (σ 35 k)) ∧ nn (σ 35 k) ≤ 255 := fun k hk => by
    obtain ⟨j, j1, j2⟩ := (n4 k hk).2
    rw [j2, nnk (by omega)]
    exact ⟨rfl, j1⟩
  -- the tape, for any state of the model that has it
  have tape : ∀ τ : gS, τ 65 10 = σ 65 10 → τ 73 = σ 73 → TAPE σ τ n (fun k => nn (σ 35 k)) := fun τ h1 h2 => ⟨n1, n2, by rw [h1]; exact n3, fun k hk => by
    have := n4 k hk
    exact ⟨(bk k hk).1, by rw [h2, ← this.1]; exact (bk k hk).1, (bk k hk).2⟩⟩
  obtain ⟨s', t0, r1, fr, -, alt⟩ := read_eq (Z := Z) (tape σ rfl rfl) kc
  -- the model, behind the class, in a state u
  have model : ∀ u : gS, u 65 10 = σ 65 10 → u 73 = σ 73 → u 74 = σ 74 → u 75 = σ 75 → ∃ t', FRM u t' ∧ ((∃ q, q ≤ 96 ∧ s' 36 8 = Int32.ofNat q ∧ t' 65 12 = Int32.ofNat q ∧ F_X10_text Z u = F_X10_text_J33 Z 0 t') ∨ (∃ key cs, key ≤ 2 ∧ s' 36 8 = -1 ∧ CS s' cs ∧ MS t' cs [] ∧ cs.length ≤ 93 ∧ s' 36 3 = t' 65 21 ∧ s' 36 4 = Int32.ofNat key ∧ t' 65 16 = Int32.ofNat key ∧ EX (nmn key) cs ∧ F_X10_text Z u = F_X10_text_J33 Z 1 t')) := fun u h1 h2 h3 h4 => by
    obtain ⟨s2, t', q1, -, q3, q4⟩ := read_eq (Z := Z) (tape u h1 h2) (kc.fr h3 h4)
    have es : s' = s2 := (Prod.mk.inj (Option.some.inj (r1.symm.trans q1))).2
    subst es
    exact ⟨t', q3, q4⟩
  have s4 : gu s' 34 1 0 4 = σ 4 := by rw [gu_ne _ _ _ (by decide)]; exact fr 4 (by decide) (by decide)
  have s36 : gu s' 34 1 0 36 = s' 36 := gu_ne _ _ _ (by decide)
  have sf : ∀ c, c ≠ 34 → c ≠ 36 → c ≠ 37 → gu s' 34 1 0 c = σ c := fun c p q r => by rw [gu_ne _ _ _ p]; exact fr c q r
  have u65 := sf 65 (by decide) (by decide) (by decide)
  have u73 := sf 73 (by decide) (by decide) (by decide)
  have u74 := sf 74 (by decide) (by decide) (by decide)
  have u75 := sf 75 (by decide) (by decide) (by decide)
  -- where no text is made
  have none_made : ∀ (r : Int32) (t' : gS), F_text Z σ = some (r, gu s' 34 1 0, Z) → FRM (gu s' 34 1 0) t' → F_X10_text Z (gu s' 34 1 0) = some (r, gu t' 65 10 0) → ∃ r σ2 Z2, F_op30 a b c d e Z σ = some (r, r, σ2, Z2) ∧ Lay Z2 ∧ gcl Z2 Z2.length ∧ Z2.length ≤ Z.length + 2 ∧ RR Z2 σ2 σ2 := fun r t' h1 h2 h3 => by
    refine ⟨r, gu t' 65 10 0, Z, ?_, hZ, hgc, by omega, text_same hr (fun c p1 p2 p3 p4 p5 p6 p7 => ?_) ?_ (fun k hk => ?_) (gu_self _ _ _ _)⟩
    · unfold F_op30
      rw [h1]
      show mCall (F_X10_text Z (gu s' 34 1 0)) _ = _
      rw [h3, mCall_some]
    · rw [gu_ne _ _ _ p4, h2.1 c p4 p5 p6 p7]; exact sf c p1 p2 p3
    · rw [gu_ne _ _ _ (by decide), h2.1 34 (by decide) (by decide) (by decide) (by decide), gu_self]
    · rw [gu_off _ _ (Or.inr (by omega)), h2.2 k (by omega), u65]
  rcases alt with ⟨q, q1, q2, -, -⟩ | ⟨key, cs, hk, e8, hcs, -, hl, -, e4, -, -, -⟩
  · -- a fault
    have ft : F_text Z σ = some (-100 - Int32.ofNat q, gu s' 34 1 0, Z) := by
      unfold F_text
      rw [r1, mCall_some, mLet_eq, s36, q2, if_neg (lt0k (by omega))]
    obtain ⟨t', m1, m2⟩ := model (gu s' 34 1 0) (by rw [u65]) u73 u74 u75
    rcases m2 with ⟨q', k1, k2, k3, k4⟩ | ⟨key, cs, -, k2, -⟩
    · have eq : q' = q := (eqk (by omega) (by omega)).mp (k2.symm.trans q2)
      subst eq
      exact none_made _ t' ft m1 (by rw [k4, J33_0 k3])
    · rw [q2] at k2
      exact absurd k2 (neg_ne q (by omega)).1
  · have e2 : s' 36 2 = Int32.ofNat cs.length := hcs.1
    by_cases full : T = 14
    · have ft : F_text Z σ = some (-1000000003, gu s' 34 1 0, Z) := by
        unfold F_text
        rw [r1, mCall_some, mLet_eq, s36, e8, if_pos (by decide), s4, e411, full, if_neg (by decide)]
      obtain ⟨t', m1, m2⟩ := model (gu s' 34 1 0) (by rw [u65]) u73 u74 u75
      rcases m2 with ⟨q', k1, k2, -⟩ | ⟨key2, cs2, -, -, -, -, -, -, -, -, -, k⟩
      · rw [e8] at k2
        exact absurd k2.symm (neg_ne q' (by omega)).1
      · refine none_made _ t' ft m1 ?_
        have e9 : gu t' 65 10 0 66 9 = 14 := by
          rw [gu_ne _ _ _ (by decide), m1.1 66 (by decide) (by decide) (by decide) (by decide), sf 66 (by decide) (by decide) (by decide), e669, full]; rfl
        rw [k]
        unfold F_X10_text_J33
        rw [mLet_eq, if10, if_pos e9]
    · have hT14 : T < 14 := by omega
      have eT : Int32.ofNat T + 1 = Int32.ofNat (T + 1) := addk T 1
      have eT2 : Int32.ofNat (T + 1) - 1 = Int32.ofNat T := subk (b := 1) (by omega)
      have lt14 : Int32.ofNat T < 14 := (ltk (b := 14) (by omega) (by decide)).mpr hT14
      have ft : F_text Z σ = some (Int32.ofNat T, gu (gu (ST Z (gu s' 34 1 0)) 12 key (Int32.ofNat T)) 4 11 (Int32.ofNat (T + 1)), ZP (ZT Z cs.length) T Z.length) := by
        unfold F_text
        rw [r1, mCall_some, mLet_eq, s36, e8, if_pos (by decide), s4, e411, if_pos lt14, e2, e4, nnk (k := T) (by omega), nnk (k := cs.length) (by omega), nnk (k := key) (by omega), if_pos ⟨lt0k (by omega), hT14, lt0k (by omega), by omega, lt0k (by omega), by omega⟩, eT, eT2]
      obtain ⟨st0, st1, sts⟩ := ST_at (Z := Z) (s := gu s' 34 1 0) hlen
      rw [s36] at st0 st1 sts
      rw [e2, nnk (k := cs.length) (by omega)] at sts
      have sne : ∀ c, c < Z.length → ST Z (gu s' 34 1 0) c = gu s' 34 1 0 c := fun c hc => ST_ne hc
      -- the class's state
      have uf : ∀ c, c < Z.length → c ≠ 4 → c ≠ 12 → c ≠ 34 → c ≠ 36 → c ≠ 37 → gu (gu (ST Z (gu s' 34 1 0)) 12 key (Int32.ofNat T)) 4 11 (Int32.ofNat (T + 1)) c = σ c := fun c hc p1 p2 p3 p4 p5 => by
        rw [gu_ne _ _ _ p1, gu_ne _ _ _ p2, sne c hc]; exact sf c p3 p4 p5
      have u4 : ∀ k, k ≠ 11 → gu (gu (ST Z (gu s' 34 1 0)) 12 key (Int32.ofNat T)) 4 11 (Int32.ofNat (T + 1)) 4 k = σ 4 k := fun k hk => by
        rw [gu_off _ _ (Or.inr hk), gu_ne _ _ _ (by decide), sne 4 (by omega), s4]
      have u411 : gu (gu (ST Z (gu s' 34 1 0)) 12 key (Int32.ofNat T)) 4 11 (Int32.ofNat (T + 1)) 4 11 = Int32.ofNat (T + 1) := gu_self _ _ _ _
      have u12 : ∀ k, k ≠ key → gu (gu (ST Z (gu s' 34 1 0)) 12 key (Int32.ofNat T)) 4 11 (Int32.ofNat (T + 1)) 12 k = σ 12 k := fun k hk => by
        rw [gu_ne _ _ _ (by decide), gu_off _ _ (Or.inr hk), sne 12 (by omega), sf 12 (by decide) (by decide) (by decide)]
      have u12k : gu (gu (ST Z (gu s' 34 1 0)) 12 key (Int32.ofNat T)) 4 11 (Int32.ofNat (T + 1)) 12 key = Int32.ofNat T := by rw [gu_ne _ _ _ (by decide), gu_self]
      have u34 : gu (gu (ST Z (gu s' 34 1 0)) 12 key (Int32.ofNat T)) 4 11 (Int32.ofNat (T + 1)) 34 1 = 0 := by rw [gu_ne _ _ _ (by decide), gu_ne _ _ _ (by decide), sne 34 (by omega), gu_self]
      have uc : ∀ c, Z.length ≤ c → gu (gu (ST Z (gu s' 34 1 0)) 12 key (Int32.ofNat T)) 4 11 (Int32.ofNat (T + 1)) c = ST Z (gu s' 34 1 0) c := fun c hc => by rw [gu_ne _ _ _ (by omega), gu_ne _ _ _ (by omega)]
      generalize gu (gu (ST Z (gu s' 34 1 0)) 12 key (Int32.ofNat T)) 4 11 (Int32.ofNat (T + 1)) = u at ft uf u4 u411 u12 u12k u34 uc
      have v65 := uf 65 (by omega) (by decide) (by decide) (by decide) (by decide) (by decide)
      have v66 := uf 66 (by omega) (by decide) (by decide) (by decide) (by decide) (by decide)
      obtain ⟨t', m1, m2⟩ := model u (by rw [v65]) (uf 73 (by omega) (by decide) (by decide) (by decide) (by decide) (by decide)) (uf 74 (by omega) (by decide) (by decide) (by decide) (by decide) (by decide)) (uf 75 (by omega) (by decide) (by decide) (by decide) (by decide) (by decide))
      rcases m2 with ⟨q', k1, k2, -⟩ | ⟨key2, cs2, hk2, -, hcs2, ms2, hl2, e32, e42, e16, ex2, k⟩
      · rw [e8] at k2
        exact absurd k2.symm (neg_ne q' (by omega)).1
      have ek : key2 = key := (eqk (by omega) (by omega)).mp (e42.symm.trans e4)
      have el : cs2.length = cs.length := (eqk (by omega) (by omega)).mp (hcs2.1.symm.trans e2)
      subst ek
      -- the model's part
      have w9 : gu t' 65 10 0 66 9 = Int32.ofNat T := by rw [gu_ne _ _ _ (by decide), m1.1 66 (by decide) (by decide) (by decide) (by decide), v66, e669]
      have n14 : ¬ Int32.ofNat T = 14 := fun h => full ((eqk (b := 14) (by omega) (by decide)).mp h)
      have w16 : gu t' 65 10 0 65 16 = Int32.ofNat key2 := by rw [gu_off _ _ (Or.inr (by decide))]; exact e16
      have w20 : gu t' 65 10 0 65 20 = Int32.ofNat cs2.length := by rw [gu_off _ _ (Or.inr (by decide))]; exact ms2.1
      have e1000 : (1000 : Int32) * Int32.ofNat key2 + Int32.ofNat cs2.length = Int32.ofNat (1000 * key2 + cs2.length) := by
        rw [show (1000 : Int32) * Int32.ofNat key2 = Int32.ofNat (1000 * key2) from mulk 1000 key2, addk]
      have e137 : Int32.ofNat (136 + 2 * T) + 1 = Int32.ofNat (137 + 2 * T) := (addk _ 1).trans (by congr 1; omega)
      have main : ∃ t9, F_X10_text Z u = some (Int32.ofNat T, t9) ∧ (∀ c, c ≠ 66 → t9 c = gu t' 65 10 0 c) ∧ (∀ k, k < cs2.length → t9 66 (164 + 96 * T + k) = cs2.getD k 0) ∧ t9 66 9 = Int32.ofNat (T + 1) ∧ t9 66 (136 + 2 * T) = Int32.ofNat (1000 * key2 + cs2.length) ∧ t9 66 (137 + 2 * T) = t' 65 21 ∧ ∀ j, j ≠ 9 → j ≠ 136 + 2 * T → j ≠ 137 + 2 * T → (j < 164 + 96 * T ∨ 164 + 96 * T + cs2.length ≤ j) → t9 66 j = u 66 j := by
        obtain ⟨t9, d1, d2, d3, d4, d5⟩ := keep_L (Z := Z) (cs := cs2) (T := T) hT14 (by omega) (gu (gu (gu t' 65 10 0) 66 (136 + 2 * T) (Int32.ofNat (1000 * key2 + cs2.length))) 66 (137 + 2 * T) (t' 65 21)) (by rw [gu_ne _ _ _ (by decide), gu_ne _ _ _ (by decide)]; exact w20) (by rw [gu_ne _ _ _ (by decide), gu_ne _ _ _ (by decide), gu_ne _ _ _ (by decide)]; exact ms2.2.1) (by rw [gu_off _ _ (Or.inr (by omega)), gu_off _ _ (Or.inr (by omega))]; exact w9) mFuel 0 _ (fun _ _ => rfl) (fun k hk => by omega) (fun _ _ => rfl) (by omega) (by omega)
        have d1 : F_X10_text_L119 Z mFuel (Int32.ofNat T) 0 (gu (gu (gu t' 65 10 0) 66 (136 + 2 * T) (Int32.ofNat (1000 * key2 + cs2.length))) 66 (137 + 2 * T) (t' 65 21)) = some (Int32.ofNat T, t9) := d1
        refine ⟨t9, ?_, fun c hc => by rw [d2 c hc, gu_ne _ _ _ hc, gu_ne _ _ _ hc], d3, d4, ?_, ?_, fun j p1 p2 p3 p4 => ?_⟩
        · rw [k]
          unfold F_X10_text_J33
          rw [mLet_eq, if10, w9, if_neg n14, mLet_eq, ix2, mInk (k := 136 + 2 * T) (by omega) (by decide), nnk (k := 136 + 2 * T) (by omega), w16, w20, e1000, mLet_eq, e137, mInk (k := 137 + 2 * T) (by omega) (by decide), nnk (k := 137 + 2 * T) (by omega), mLet_eq, gu_ne _ _ _ (show 65 ≠ 66 by decide), gu_off _ _ (Or.inr (by decide)), d1]
        · rw [d5 _ (by omega) (by omega), gu_off _ _ (Or.inr (by omega)), gu_self]
        · rw [d5 _ (by omega) (by omega), gu_self]
        · rw [d5 j p1 p4, gu_off _ _ (Or.inr p3), gu_off _ _ (Or.inr p2), gu_ne _ _ _ (by decide), m1.1 66 (by decide) (by decide) (by decide) (by decide)]
      obtain ⟨t9, x1, x2, x3, x4, x5, x6, x7⟩ := main
      obtain ⟨l1, l2, l3⟩ := lay_made hZ cs.length
      obtain ⟨l4, l5⟩ := lay_put l1 (t := T) l2
      have zlen : (ZT Z cs.length).length = Z.length + 2 := by unfold ZT; simp
      have zlen2 : (ZP (ZT Z cs.length) T Z.length).length = Z.length + 2 := by unfold ZP; rw [List.length_set]; exact zlen
      have gc2 : gcl (ZP (ZT Z cs.length) T Z.length) (Z.length + 2) := gcl_put (gcl_made hgc) l1.2.1 (by omega)
      -- a cell that the model leaves
      have keepc : ∀ c, c ≠ 65 → c ≠ 66 → c ≠ 76 → c ≠ 77 → c ≠ 78 → t9 c = u c := fun c p1 p2 p3 p4 p5 => by rw [x2 c p2, gu_ne _ _ _ p1, m1.1 c p1 p3 p4 p5]
      refine ⟨Int32.ofNat T, t9, ZP (ZT Z cs.length) T Z.length, ?_, l4, by rw [zlen2]; exact gc2, by omega, ?_⟩
      · unfold F_op30
        rw [ft]
        show mCall (F_X10_text (ZP (ZT Z cs.length) T Z.length) u) _ = _
        rw [zi_text, ← zi_text Z, x1, mCall_some]
      · refine text_new (cs := cs2) (op := s' 36 3) (key := key2) hZ hr hp hm him hT14 hk2 el (by omega) ex2 (fun c p0 p1 p2 p3 p4 p5 p6 p7 p8 p9 p10 => ?_) (fun k hk => ?_) ?_ (fun k hk => ?_) ?_ ?_ (fun k hk => ?_) ?_ x4 ?_ ?_ (fun k hk => x3 k (by omega)) (fun j p1 p2 p3 p4 => ?_) ?_ ?_ (fun k hk => ?_)
        · rw [keepc c p6 p7 p8 p9 p10]; exact uf c p0 p1 p2 p3 p4 p5
        · rw [keepc 4 (by decide) (by decide) (by decide) (by decide) (by decide)]; exact u4 k hk
        · rw [keepc 4 (by decide) (by decide) (by decide) (by decide) (by decide)]; exact u411
        · rw [keepc 12 (by decide) (by decide) (by decide) (by decide) (by decide)]; exact u12 k hk
        · rw [keepc 12 (by decide) (by decide) (by decide) (by decide) (by decide)]; exact u12k
        · rw [keepc 34 (by decide) (by decide) (by decide) (by decide) (by decide)]; exact u34
        · rw [x2 65 (by decide), gu_off _ _ (Or.inr (by omega)), m1.2 k (by omega), v65]
        · rw [x2 65 (by decide), gu_self]
        · rw [x5, el]
        · rw [x6, e32]
        · rw [x7 j p1 p2 p3 (by omega), v66]
        · rw [keepc Z.length (by omega) (by omega) (by omega) (by omega) (by omega), uc _ (Nat.le_refl _), st0, e42]
        · rw [keepc Z.length (by omega) (by omega) (by omega) (by omega) (by omega), uc _ (Nat.le_refl _), st1]
        · rw [keepc (Z.length + 1) (by omega) (by omega) (by omega) (by omega) (by omega), uc _ (by omega), sts k hk, gu_ne _ _ _ (by decide)]
          exact hcs2.2 k (by omega)
end
