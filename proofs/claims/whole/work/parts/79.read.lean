section
variable {Z : List gH}
/-- what comes of reading a text, on both sides -/
def RT (σ τ : gS) (R : Option (Int32 × gS)) (M : Option (Int32 × gS)) (J : Int32 → gS → Option (Int32 × gS)) : Prop := ∃ s' t', R = some (0, s') ∧ (∀ c, c ≠ 36 → c ≠ 37 → s' c = σ c) ∧ FRM τ t' ∧ ((∃ q, q ≤ 96 ∧ s' 36 8 = Int32.ofNat q ∧ t' 65 12 = Int32.ofNat q ∧ M = J 0 t') ∨ (∃ key cs, key ≤ 2 ∧ s' 36 8 = -1 ∧ CS s' cs ∧ MS t' cs [] ∧ cs.length ≤ 93 ∧ s' 36 3 = t' 65 21 ∧ s' 36 4 = Int32.ofNat key ∧ t' 65 16 = Int32.ofNat key ∧ EX (nmn key) cs ∧ M = J 1 t'))
theorem read_eq {σ τ : gS} {n : Nat} {b : Nat → Nat} (tp : TAPE σ τ n b) (kc : KCR τ) : RT σ τ (F_X3_readText Z σ) (F_X10_text Z τ) (F_X10_text_J33 Z) := by
  have m5 : mFuel = 5000 := rfl
  have hn96 := tp.1
  -- ahead of the first word
  have f0 : ∀ c, c ≠ 36 → gu (gu (gu (gu (gu σ 36 2 0) 36 3 0) 36 8 (-1)) 36 7 0) 36 5 (-1) c = σ c := fun c h => by rw [gu_ne _ _ _ h, gu_ne _ _ _ h, gu_ne _ _ _ h, gu_ne _ _ _ h, gu_ne _ _ _ h]
  have v2 : gu (gu (gu (gu (gu σ 36 2 0) 36 3 0) 36 8 (-1)) 36 7 0) 36 5 (-1) 36 2 = 0 := by rw [gu_off _ _ (Or.inr (by decide)), gu_off _ _ (Or.inr (by decide)), gu_off _ _ (Or.inr (by decide)), gu_off _ _ (Or.inr (by decide)), gu_self]
  have v3 : gu (gu (gu (gu (gu σ 36 2 0) 36 3 0) 36 8 (-1)) 36 7 0) 36 5 (-1) 36 3 = 0 := by rw [gu_off _ _ (Or.inr (by decide)), gu_off _ _ (Or.inr (by decide)), gu_off _ _ (Or.inr (by decide)), gu_self]
  have v8 : gu (gu (gu (gu (gu σ 36 2 0) 36 3 0) 36 8 (-1)) 36 7 0) 36 5 (-1) 36 8 = -1 := by rw [gu_off _ _ (Or.inr (by decide)), gu_off _ _ (Or.inr (by decide)), gu_self]
  have v7 : gu (gu (gu (gu (gu σ 36 2 0) 36 3 0) 36 8 (-1)) 36 7 0) 36 5 (-1) 36 7 = 0 := by rw [gu_off _ _ (Or.inr (by decide)), gu_self]
  have v5 : gu (gu (gu (gu (gu σ 36 2 0) 36 3 0) 36 8 (-1)) 36 7 0) 36 5 (-1) 36 5 = -1 := gu_self _ _ _ _
  unfold F_X3_readText F_X10_text
  simp only [mLet_eq]
  generalize gu (gu (gu (gu (gu σ 36 2 0) 36 3 0) 36 8 (-1)) 36 7 0) 36 5 (-1) = s0 at f0 v2 v3 v8 v7 v5 ⊢
  have g0 : FRM τ (gu (gu τ 65 11 0) 65 15 (-1)) := ⟨fun c h _ _ _ => by rw [gu_ne _ _ _ h, gu_ne _ _ _ h], fun k hk => by rw [gu_off _ _ (Or.inr (by omega)), gu_off _ _ (Or.inr (by omega))]⟩
  have w11 : gu (gu τ 65 11 0) 65 15 (-1) 65 11 = 0 := by rw [gu_off _ _ (Or.inr (by decide)), gu_self]
  have w15 : gu (gu τ 65 11 0) 65 15 (-1) 65 15 = -1 := gu_self _ _ _ _
  generalize gu (gu τ 65 11 0) 65 15 (-1) = t0 at g0 w11 w15 ⊢
  have tp0 : TAPE s0 t0 n b := ⟨hn96, by rw [f0 34 (by decide)]; exact tp.2.1, by rw [g0.2 10 (by omega)]; exact tp.2.2.1, by rw [f0 35 (by decide), g0.1 73 (by decide) (by decide) (by decide) (by decide)]; exact tp.2.2.2⟩
  obtain ⟨s1, t1, st, nx, a1, a2, a3, a4, -, tk⟩ := go_eq (Z := Z) (s := s0) (t := t0) (n := n) (p := 0) (b := b) ⟨tp0, v7, w11, Nat.zero_le n, Or.inr ⟨by rw [v5]; decide, by rw [v5]; decide, Or.inl w15⟩⟩
  have fs1 : ∀ c, c ≠ 36 → c ≠ 37 → s1 c = σ c := fun c h _ => by rw [a3.1 c h, f0 c h]
  have fm1 : FRM τ t1 := g0.go a4
  have hst : st ≤ nx ∧ nx ≤ n := by
    refine ⟨?_, tk.2.2.2.2.2.1⟩
    rcases tk.2.2.2.2.2.2 with q | q | q | q | q <;> omega
  have kc1 : KCR t1 := kc.fr (fm1.1 74 (by decide) (by decide) (by decide) (by decide)) (fm1.1 75 (by decide) (by decide) (by decide) (by decide))
  -- no key
  have nokey : F_X3_keyRead Z s1 = some (-1, s1) → F_X10_takesKey Z t1 = some (0, t1) → RT σ τ (mCall (F_X3_goOn Z s0) fun r6 s7 => mCall (F_X3_keyRead Z s7) fun r8 s9 => if 0 ≤ gu s9 36 4 r8 36 4 then mCall (F_X3_goOn Z (gu s9 36 4 r8)) fun r11 s12 => mCall ((F_RD Z 120).1 0 0 0 s12) fun r13 s14 => if s14 36 5 = -1 then some (0, s14) else mCall (F_X3_stop Z s14) fun r15 s16 => some (0, s16) else mCall (F_X3_stop Z (gu s9 36 4 r8)) fun r17 s18 => some (0, s18)) (mCall (F_X10_go Z t0) fun r3 s4 => mCall (F_X10_takesKey Z s4) fun r5 s6 => if r5 = 0 then F_X10_text_J33 Z 0 s6 else mCall (F_X10_takesE Z s6) fun r7 s8 => if r7 = 0 then F_X10_text_J33 Z 0 s8 else F_X10_text_J33 Z 1 s8) (F_X10_text_J33 Z) := fun k1 k2 => by
    have e8 : gu s1 36 4 (-1) 36 8 = -1 := by rw [gu_off _ _ (Or.inr (by decide)), a3.2 8 (by omega), v8]
    have e6 : gu s1 36 4 (-1) 36 6 = Int32.ofNat st := by rw [gu_off _ _ (Or.inr (by decide))]; exact tk.2.1
    rw [a1, a2, mCall_some, mCall_some, k1, k2, mCall_some, mCall_some, gu_self, if_neg (by decide), if00]
    unfold F_X3_stop
    rw [e8, if_neg (by decide), mLet_eq, mLet_eq, mCall_some, e6]
    refine ⟨_, t1, rfl, fun c h h' => ?_, fm1, Or.inl ⟨st, by omega, ?_, tk.2.2.2.2.1, rfl⟩⟩
    · rw [gu_ne _ _ _ h, gu_ne _ _ _ h, gu_ne _ _ _ h]; exact fs1 c h h'
    · rw [gu_off _ _ (Or.inr (by decide)), gu_self]
  rcases key_eq (Z := Z) tk hst.1 with ⟨c2, key, hk, mt, first, k1⟩ | ⟨none, k1⟩
  rotate_left
  · by_cases l1 : t1 65 13 = 1
    · have c2 : s1 36 5 = -2 := by
        rcases tk.2.2.2.2.2.2 with ⟨-, -, -, w⟩ | ⟨-, q, -⟩ | ⟨-, -, -, -, w⟩ | ⟨-, -, w⟩ | ⟨-, -, -, w, -⟩
        · rw [l1] at w; exact absurd w (by decide)
        · exact q
        · rcases w with ⟨-, w, -⟩ | ⟨-, w⟩ <;> (rw [l1] at w; exact absurd w (by decide))
        · rw [l1] at w; exact absurd w (by decide)
        · rw [l1] at w; exact absurd w (by decide)
      rcases tkey_eq (Z := Z) tk kc1 hst.1 l1 with ⟨key, hk, mt, -⟩ | ⟨-, k2⟩
      · exact absurd mt (none c2 key hk)
      · exact nokey k1 k2
    · refine nokey k1 ?_
      unfold F_X10_takesKey; rw [if_neg l1]; rfl
  have letters : st < nx ∧ t1 65 13 = 1 ∧ t1 65 15 = Int32.ofNat nx := by
    rcases tk.2.2.2.2.2.2 with ⟨-, -, q, -⟩ | ⟨l, -, w, -, w2, -⟩ | ⟨-, q, -⟩ | ⟨-, q, -⟩ | ⟨-, q, q2, -⟩
    · rw [c2] at q; exact absurd q (by decide)
    · exact ⟨l, w, w2⟩
    · rw [c2] at q; exact absurd q (by decide)
    · rw [c2] at q; exact absurd q (by decide)
    · rw [c2] at q; exact absurd q.symm (neg_ne (b st) (by omega)).2.1
  rcases tkey_eq (Z := Z) tk kc1 hst.1 letters.2.1 with ⟨key2, hk2, mt2, first2, k2⟩ | ⟨none, -⟩
  rotate_left
  · exact absurd mt (none key hk)
  have ekey : key2 = key := by
    rcases Nat.lt_trichotomy key2 key with l | l | l
    · exact absurd mt2 (first key2 l)
    · exact l
    · exact absurd mt (first2 key l)
  subst ekey
  have hlk := lnk_cases hk
  have mt1 := mt.1
  have p0 : 0 ≤ Int32.ofNat key2 := (lek (a := 0) (by decide) (by omega)).mpr (Nat.zero_le _)
  -- ahead of the text's own
  have pr : PRE (gu s1 36 4 (Int32.ofNat key2)) (gu t1 65 16 (Int32.ofNat key2)) n b nx := by
    obtain ⟨⟨b1, b2, b3, b4⟩, t6, t7, u11, u12, nxn, -⟩ := tk
    exact ⟨⟨b1, by rw [gu_ne _ _ _ (by decide)]; exact b2, by rw [gu_off _ _ (Or.inr (by decide))]; exact b3, by rw [gu_ne _ _ _ (by decide), gu_ne _ _ _ (by decide)]; exact b4⟩, by rw [gu_off _ _ (Or.inr (by decide))]; exact t7, by rw [gu_off _ _ (Or.inr (by decide))]; exact u11, nxn, Or.inl ⟨Or.inl (by rw [gu_off _ _ (Or.inr (by decide))]; exact c2), by rw [gu_off _ _ (Or.inr (by decide))]; exact letters.2.2⟩⟩
  obtain ⟨s2, t2, st2, nx2, b1, b2, b3, b4, b5, tk2⟩ := go_eq (Z := Z) pr
  rw [a1, a2, mCall_some, mCall_some, k1, mCall_some, k2, gu_self, if_pos p0, b1, b2, mCall_some, mCall_some]
  show RT σ τ _ (mCall (some (1, t2)) _) _
  rw [mCall_some, if10]
  unfold F_X10_takesE
  simp only [mLet_eq, nar0]
  have h1 : ∀ c, c ≠ 65 → c ≠ 78 → gu (gu (gu (gu t2 65 20 0) 65 21 0) 65 23 0) 78 0 0 c = t2 c := fun c p q => by rw [gu_ne _ _ _ q, gu_ne _ _ _ p, gu_ne _ _ _ p, gu_ne _ _ _ p]
  have h2 : ∀ k, k ≠ 20 → k ≠ 21 → k ≠ 23 → gu (gu (gu (gu t2 65 20 0) 65 21 0) 65 23 0) 78 0 0 65 k = t2 65 k := fun k p q r => by rw [gu_ne _ _ _ (by decide), gu_off _ _ (Or.inr r), gu_off _ _ (Or.inr q), gu_off _ _ (Or.inr p)]
  have h20 : gu (gu (gu (gu t2 65 20 0) 65 21 0) 65 23 0) 78 0 0 65 20 = 0 := by rw [gu_ne _ _ _ (by decide), gu_off _ _ (Or.inr (by decide)), gu_off _ _ (Or.inr (by decide)), gu_self]
  have h21 : gu (gu (gu (gu t2 65 20 0) 65 21 0) 65 23 0) 78 0 0 65 21 = 0 := by rw [gu_ne _ _ _ (by decide), gu_off _ _ (Or.inr (by decide)), gu_self]
  have h23 : gu (gu (gu (gu t2 65 20 0) 65 21 0) 65 23 0) 78 0 0 65 23 = 0 := by rw [gu_ne _ _ _ (by decide), gu_self]
  have h78 : gu (gu (gu (gu t2 65 20 0) 65 21 0) 65 23 0) 78 0 0 78 0 = 0 := gu_self _ _ _ _
  generalize gu (gu (gu (gu t2 65 20 0) 65 21 0) 65 23 0) 78 0 0 = t3 at h1 h2 h20 h21 h23 h78 ⊢
  have fm2 : FRM τ t2 := FRM.go (t := gu t1 65 16 (Int32.ofNat key2)) ⟨fun c p q r w => by rw [gu_ne _ _ _ p]; exact fm1.1 c p q r w, fun k hk => by rw [gu_off _ _ (Or.inr (by omega))]; exact fm1.2 k hk⟩ b4
  have ps : PS σ τ s2 t3 n b key2 st2 nx2 [] [] [] := by
    obtain ⟨⟨d1, d2, d3, d4⟩, t6, t7, u11, u12, nxn, tkn⟩ := tk2
    refine ⟨⟨⟨d1, d2, by rw [h2 10 (by decide) (by decide) (by decide)]; exact d3, by rw [h1 73 (by decide) (by decide)]; exact d4⟩, t6, t7, by rw [h2 11 (by decide) (by decide) (by decide)]; exact u11, by rw [h2 12 (by decide) (by decide) (by decide)]; exact u12, nxn, ?_⟩, ⟨?_, fun k hk => absurd hk (Nat.not_lt_zero k)⟩, ⟨h20, REL.nil, h23, REL.nil⟩, ?_, ?_, ?_, ?_, by show 0 + 0 + 3 ≤ st2; omega, by show 0 + 3 ≤ st2; omega, fun c p q => ?_, ⟨fun c p q r w => by rw [h1 c p w]; exact fm2.1 c p q r w, fun k hk => by rw [h2 k (by omega) (by omega) (by omega)]; exact fm2.2 k hk⟩⟩
    · unfold TKN at tkn ⊢
      rw [h2 13 (by decide) (by decide) (by decide), h2 14 (by decide) (by decide) (by decide), h2 15 (by decide) (by decide) (by decide)]
      exact tkn
    · rw [b3.2 2 (by omega), gu_off _ _ (Or.inr (by decide)), a3.2 2 (by omega), v2]; rfl
    · rw [b3.2 3 (by omega), gu_off _ _ (Or.inr (by decide)), a3.2 3 (by omega), v3, h21]
    · rw [b3.2 4 (by omega), gu_self]
    · rw [h2 16 (by decide) (by decide) (by decide), b4.2 16 (by omega), gu_self]
    · rw [b3.2 8 (by omega), gu_off _ _ (Or.inr (by decide)), a3.2 8 (by omega), v8]
    · rw [b3.1 c p, gu_ne _ _ _ p]; exact fs1 c p q
  have hs2 := ps.st96
  have lv := (parse_all (Z := Z) (σ := σ) (τ := τ) (n := n) (b := b) (key := key2) hk 120).1 0 0 0 (by omega) (by omega) (by omega) (by omega) s2 t3 mFuel st2 nx2 [] [] ps (Or.inl rfl) rfl (by omega) (Or.inl h78) (fun _ => h78)
  rcases lv with ⟨s', t', q, q1, q2, q3, q4, q5, q6⟩ | ⟨s', t', f', st', nx', w, pend, out, q1, q2, q3, q4, q5, q6, q7, q8, q9, q10, q11, q12⟩
  · have q2 : (F_RD Z 120).1 0 0 0 s2 = some (0, s') := q2
    have q4 : F_X10_takesE_L28 Z mFuel 0 0 1 t3 = some (0, t') := q4
    obtain ⟨s9, d1, d2⟩ := q3.stop (Z := Z) q1
    rw [q2, mCall_some, if_neg (by rw [q3.1]; decide), d1, mCall_some, q4, mCall_some, if00]
    exact ⟨s9, t', rfl, d2.2.2.2, q6, Or.inl ⟨q, q1, d2.2.1, q5, rfl⟩⟩
  · have q1 : (F_RD Z 120).1 0 0 0 s2 = some (0, s') := q1
    have q2 : F_X10_takesE_L28 Z mFuel 0 0 1 t3 = F_X10_takesE_L28 Z f' (Int32.ofNat 0) (Int32.ofNat 0) 0 t' := q2
    have hs' := q5.st96
    obtain ⟨f', rfl⟩ : ∃ g, f' = g + 1 := ⟨f' - 1, by omega⟩
    rw [q1, mCall_some, q2]
    by_cases k0 : t' 65 13 = 0
    · have e1 : s' 36 5 = -1 := by
        rcases q5.1.2.2.2.2.2.2 with ⟨-, -, q, -⟩ | ⟨-, -, w, -⟩ | ⟨-, -, -, -, w⟩ | ⟨-, -, w⟩ | ⟨-, -, -, w, -⟩
        · exact q
        · rw [k0] at w; exact absurd w (by decide)
        · rcases w with ⟨-, w, -⟩ | ⟨-, w⟩ <;> (rw [k0] at w; exact absurd w (by decide))
        · rw [k0] at w; exact absurd w (by decide)
        · rw [k0] at w; exact absurd w (by decide)
      obtain ⟨t9, e2, e3, e4, e5⟩ := end_step (Z := Z) (f := f') (pa := 0) (no := Int32.ofNat 0) q5 q6 k0 (by omega) (fun x h => (q8 x h).1) (Or.inl rfl)
      rw [if_pos rfl] at e2
      rw [if_pos e1, e2, mCall_some, if10]
      obtain ⟨z1, z2, z3, z4, z5, z6, z7, z8, z9, z10, z11⟩ := q5
      exact ⟨s', t9, rfl, z10, z11.mf e4, Or.inr ⟨key2, [] ++ w, hk, z7, z2, e3, by omega, by rw [z4, e5], z5, by rw [e4.2 16 (by decide) (by decide) (by decide)]; exact z6, q7, rfl⟩⟩
    · have ns := no_step (Z := Z) (f := f') (pa := 0) (no := Int32.ofNat 0) q5.1 (by omega) k0 (fun _ => rfl) (fun c' sg' hc' => by
        rcases q9 c' sg' hc' with h | h
        · omega
        · exact ⟨h.1, h.2.2⟩)
      have n1 : ¬ s' 36 5 = -1 := by
        rcases q5.1.2.2.2.2.2.2 with ⟨-, -, -, w⟩ | ⟨-, q, -⟩ | ⟨-, q, -⟩ | ⟨-, q, -⟩ | ⟨-, q, q2, -⟩
        · exact absurd w k0
        · rw [q]; decide
        · rw [q]; decide
        · rw [q]; decide
        · rw [q]; exact (neg_ne (b st') (by omega)).1
      obtain ⟨s9, d1, d2⟩ := q5.stop (Z := Z) (by omega)
      rw [if_neg n1, d1, mCall_some, ns, mCall_some, if00]
      exact ⟨s9, t', rfl, d2.2.2.2, q5.2.2.2.2.2.2.2.2.2.2, Or.inl ⟨st', by omega, d2.2.1, q5.1.2.2.2.2.1, rfl⟩⟩
end
