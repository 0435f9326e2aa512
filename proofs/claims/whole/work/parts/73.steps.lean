section
variable {Z : List gH}
theorem nar0 : vp_nar .boolean 0 = 0 := rfl
theorem nar1 : vp_nar .boolean 1 = 1 := rfl
/-- what stands here is the byte c, a sign -/
def SGN (s t : gS) (c : Nat) : Prop := c ≤ 255 ∧ s 36 5 = Int32.ofNat c ∧ t 65 13 = 3 ∧ t 65 14 = Int32.ofNat c
theorem SGN.tk {s t : gS} {c : Nat} (h : SGN s t c) : ¬ s 36 5 = -1 ∧ ¬ s 36 5 = -4 := by
  have := neg_ne c (by have := h.1; omega)
  rw [h.2.1]; exact ⟨this.1, this.2.2.2.1⟩
/-- nothing but a sign, or none -/
theorem TOK.cases {s t : gS} {n : Nat} {b : Nat → Nat} {st nx : Nat} (h : TOK s t n b st nx) : (∃ c, SGN s t c) ∨ (¬ t 65 13 = 3 ∧ (s 36 5 = -1 ∨ s 36 5 = -2 ∨ s 36 5 = -3 ∨ s 36 5 = -4)) := by
  rcases h.2.2.2.2.2.2 with ⟨-, -, q, w⟩ | ⟨-, q, w, -⟩ | ⟨-, q, -, -, w⟩ | ⟨-, q, w⟩ | ⟨-, q, q2, w, w2, -⟩
  · exact Or.inr ⟨by rw [w]; decide, Or.inl q⟩
  · exact Or.inr ⟨by rw [w]; decide, Or.inr (Or.inl q)⟩
  · refine Or.inr ⟨?_, Or.inr (Or.inr (Or.inl q))⟩
    rcases w with ⟨-, w, -⟩ | ⟨-, w⟩ <;> rw [w] <;> decide
  · exact Or.inr ⟨by rw [w]; decide, Or.inr (Or.inr (Or.inr q))⟩
  · exact Or.inl ⟨b st, q2, q, w, w2⟩
theorem J305_eq {σ τ s t : gS} {n : Nat} {b : Nat → Nat} {key st nx c pa l : Nat} {v no : Int32} {cs out pend B : List Int32} {k28 : Int32 → Int32 → Int32 → gS → Option (Int32 × gS)} (ps : PS σ τ s t n b key st nx cs out (pend ++ B)) (e : out ++ pend = cs) (sg : SGN s t c) (hl : lvc c = l) (hl4 : l ≤ 4) (hx : ∀ x, x ∈ pend → x ≠ -11 ∧ l + 1 ≤ rk x) (hB : TOP (l + 1) B) (hpa : pa ≤ 8) (hv : v = 0 ∨ v = 1) : ∃ s2 t2 st2 nx2, F_X3_goOn Z s = some (0, s2) ∧ F_X10_takesE_J305 Z k28 (Int32.ofNat pa) no (sgc c) v (Int32.ofNat pa) t = k28 (Int32.ofNat pa) no 1 t2 ∧ st < st2 ∧ PS σ τ s2 t2 n b key st2 nx2 cs cs (sgc c :: B) ∧ t2 78 pa = v ∧ ∀ j, j ≠ pa → t2 78 j = t 78 j := by
  have ps0 := ps
  obtain ⟨tk, c1, ms, e3, k1, k2, e8, b1, b2, fr, fm⟩ := ps
  have hst : st ≤ 96 := by have := tk.1.1; have := tk.2.2.2.2.2.1; rcases tk.2.2.2.2.2.2 with h | h | h | h | h <;> omega
  rcases sg_all c (by have := sg.1; omega) with ⟨-, r1, r2, r3, r4, r5, -⟩ | ⟨r1, -⟩
  rotate_left
  · omega
  have nv : vp_nar .boolean v = v := by rcases hv with rfl | rfl <;> rfl
  have ms1 : MS (gu t 78 pa v) out (pend ++ B) := ms.fr (by rw [gu_ne _ _ _ (by decide)]) (by rw [gu_ne _ _ _ (by decide)]) (gu_ne _ _ _ (by decide)) (gu_ne _ _ _ (by decide))
  obtain ⟨t2, a1, a2, a3, a4⟩ := settle_eq (Z := Z) (r := l + 1) (by omega) hB ms1 hx (by omega)
  rw [e] at a2
  have len : out.length + (pend ++ B).length = cs.length + B.length := by rw [← e]; simp; omega
  obtain ⟨m3, m4⟩ := a2.push (sgc c) (by omega)
  have el : Int32.ofNat B.length + 1 = Int32.ofNat (B.length + 1) := addk _ 1
  have t78 : gu (gu t2 77 B.length (sgc c)) 65 23 (Int32.ofNat (B.length + 1)) 78 = gu t 78 pa v 78 := by
    rw [m4.1 78 (by decide) (by decide) (by decide), a3.1 78 (by decide) (by decide) (by decide)]
  obtain ⟨lt, s5, t5, st5, nx5, g1, g2, g3, g4, g5⟩ := ps0.adv (Z := Z) (s1 := s) (t1 := gu (gu t2 77 B.length (sgc c)) 65 23 (Int32.ofNat (B.length + 1))) (cs := cs) (out := cs) (stk := sgc c :: B) sg.tk CF.rf ⟨fun x p q r w => by rw [m4.1 x p q r, a3.1 x p q r, gu_ne _ _ _ w], fun k p q r => by rw [m4.2 k p q r, a3.2 k p q r, gu_ne _ _ _ (by decide)]⟩ c1 m3 (by rw [e3, gu_off _ _ (Or.inr (by decide)), gu_ne _ _ _ (by decide), a4, gu_ne _ _ _ (by decide)]) (by simp at len ⊢; omega) (by omega)
  refine ⟨s5, t5, st5, nx5, g1, ?_, by omega, g4, by rw [g5, t78, gu_self], fun j hj => by rw [g5, t78, gu_off _ _ (Or.inr hj)]⟩
  unfold F_X10_takesE_J305
  rw [mInk (k := pa) (by omega) (by decide), nnk (k := pa) (by omega), nv, mLet_eq, rank_eq, mCall_some, r1, hl, a1, mCall_some, a2.2.2.1, mInk (k := B.length) (by omega) (by decide), nnk (k := B.length) (by omega), mLet_eq, mLet_eq, gu_ne _ _ _ (show 65 ≠ 77 by decide), a2.2.2.1, el, g2, mCall_some]
/-- a sign of two sides -/
theorem bin_step {σ τ s t : gS} {n : Nat} {b : Nat → Nat} {key st nx c pa l f : Nat} {no : Int32} {cs out pend B : List Int32} (ps : PS σ τ s t n b key st nx cs out (pend ++ B)) (e : out ++ pend = cs) (sg : SGN s t c) (hl : lvc c = l) (hl4 : l ≤ 4) (hx : ∀ x, x ∈ pend → x ≠ -11 ∧ l + 1 ≤ rk x) (hB : TOP (l + 1) B) (hpa : pa ≤ 8) (hf : t 78 pa = 0 ∨ t 78 pa = 1) (hf2 : l = 2 → t 78 pa = 0) : ∃ s2 t2 st2 nx2, F_X3_goOn Z s = some (0, s2) ∧ F_X10_takesE_L28 Z (f + 1) (Int32.ofNat pa) no 0 t = F_X10_takesE_L28 Z f (Int32.ofNat pa) no 1 t2 ∧ st < st2 ∧ PS σ τ s2 t2 n b key st2 nx2 cs cs (sgc c :: B) ∧ t2 78 pa = (if l = 2 then 1 else if l < 2 then 0 else t 78 pa) ∧ ∀ j, j ≠ pa → t2 78 j = t 78 j := by
  rcases sg_all c (by have := sg.1; omega) with ⟨-, r1, r2, r3, r4, r5, -, -, n41, -⟩ | ⟨r1, -⟩
  rotate_left
  · omega
  have k3 := sg.2.2.1
  have n14 : ¬ t 65 14 = 41 := by
    rw [sg.2.2.2]
    exact fun q => n41 ((eqk (b := 41) (by have := sg.1; omega) (by decide)).mp q)
  have i10 : ∀ {α : Type} {a : Option α}, mIn 10 (Int32.ofNat pa) a = a := mInk (k := pa) (by omega) (by decide)
  have go : ∀ v : Int32, (v = 0 ∨ v = 1) → (v = if l = 2 then 1 else if l < 2 then 0 else t 78 pa) → F_X10_takesE_L28 Z (f + 1) (Int32.ofNat pa) no 0 t = F_X10_takesE_J305 Z (F_X10_takesE_L28 Z f) (Int32.ofNat pa) no (sgc c) v (Int32.ofNat pa) t → ∃ s2 t2 st2 nx2, F_X3_goOn Z s = some (0, s2) ∧ F_X10_takesE_L28 Z (f + 1) (Int32.ofNat pa) no 0 t = F_X10_takesE_L28 Z f (Int32.ofNat pa) no 1 t2 ∧ st < st2 ∧ PS σ τ s2 t2 n b key st2 nx2 cs cs (sgc c :: B) ∧ t2 78 pa = (if l = 2 then 1 else if l < 2 then 0 else t 78 pa) ∧ ∀ j, j ≠ pa → t2 78 j = t 78 j := fun v h1 h2 h3 => by
    obtain ⟨s2, t2, st2, nx2, a1, a2, a3, a4, a5, a6⟩ := J305_eq (Z := Z) (v := v) (no := no) (k28 := F_X10_takesE_L28 Z f) ps e sg hl hl4 hx hB hpa h1
    exact ⟨s2, t2, st2, nx2, a1, by rw [h3, a2], a3, a4, by rw [a5, h2], a6⟩
  have base : F_X10_takesE_L28 Z (f + 1) (Int32.ofNat pa) no 0 t = F_X10_takesE_J237 Z (F_X10_takesE_L28 Z f) (Int32.ofNat pa) no t := by
    rw [F_X10_takesE_L28, if00, if_neg (by rw [k3]; decide)]
    unfold F_X10_takesE_J39
    rw [if00, if_pos k3, if_neg n14]
  have b2 : F_X10_takesE_J237 Z (F_X10_takesE_L28 Z f) (Int32.ofNat pa) no t = (if Int32.ofNat (l + 1) = 3 then (if t 78 pa = 0 then F_X10_takesE_J268 Z (F_X10_takesE_L28 Z f) (Int32.ofNat pa) no (sgc c) t else mZ 0 t) else F_X10_takesE_J268 Z (F_X10_takesE_L28 Z f) (Int32.ofNat pa) no (sgc c) t) := by
    unfold F_X10_takesE_J237
    rw [here_eq sg.1 k3 sg.2.2.2, mCall_some, if_neg r2, rank_eq, mCall_some, r1, hl, i10, nnk (k := pa) (by omega)]
  have b3 : F_X10_takesE_J268 Z (F_X10_takesE_L28 Z f) (Int32.ofNat pa) no (sgc c) t = (if Int32.ofNat (l + 1) = 3 then F_X10_takesE_J305 Z (F_X10_takesE_L28 Z f) (Int32.ofNat pa) no (sgc c) 1 (Int32.ofNat pa) t else if Int32.ofNat (l + 1) ≤ 3 then F_X10_takesE_J305 Z (F_X10_takesE_L28 Z f) (Int32.ofNat pa) no (sgc c) 0 (Int32.ofNat pa) t else (if t 78 pa = 0 then F_X10_takesE_J305 Z (F_X10_takesE_L28 Z f) (Int32.ofNat pa) no (sgc c) 0 (Int32.ofNat pa) t else F_X10_takesE_J305 Z (F_X10_takesE_L28 Z f) (Int32.ofNat pa) no (sgc c) 1 (Int32.ofNat pa) t)) := by
    unfold F_X10_takesE_J268
    rw [rank_eq, mCall_some, r1, hl, rank_eq, mCall_some, r1, hl, i10, nnk (k := pa) (by omega)]
  by_cases l2 : l = 2
  · have q : Int32.ofNat (l + 1) = 3 := by rw [l2]; rfl
    refine go 1 (Or.inr rfl) (if_pos l2).symm ?_
    rw [base, b2, if_pos q, if_pos (hf2 l2), b3, if_pos q]
  · have q : ¬ Int32.ofNat (l + 1) = 3 := fun w => l2 (by have := (eqk (b := 3) (by omega) (by decide)).mp w; omega)
    by_cases l1 : l < 2
    · have q2 : Int32.ofNat (l + 1) ≤ 3 := (lek (b := 3) (by omega) (by decide)).mpr (by omega)
      refine go 0 (Or.inl rfl) (by rw [if_neg l2, if_pos l1]) ?_
      rw [base, b2, if_neg q, b3, if_neg q, if_pos q2]
    · have q2 : ¬ Int32.ofNat (l + 1) ≤ 3 := fun w => by have := (lek (b := 3) (by omega) (by decide)).mp w; omega
      rcases hf with hf | hf
      · refine go 0 (Or.inl rfl) (by rw [if_neg l2, if_neg l1, hf]) ?_
        rw [base, b2, if_neg q, b3, if_neg q, if_neg q2, if_pos hf]
      · refine go 1 (Or.inr rfl) (by rw [if_neg l2, if_neg l1, hf]) ?_
        rw [base, b2, if_neg q, b3, if_neg q, if_neg q2, if_neg (by rw [hf]; decide)]
/-- the model takes no more: neither an end, nor a closing sign that fits, nor a sign of two sides that may stand -/
theorem no_step {s t : gS} {n : Nat} {b : Nat → Nat} {st nx pa f : Nat} {no : Int32} (tk : TOK s t n b st nx) (hpa : pa ≤ 8) (h0 : ¬ t 65 13 = 0) (h41 : SGN s t 41 → pa = 0) (hs : ∀ c, SGN s t c → lvc c ≤ 4 → lvc c = 2 ∧ ¬ t 78 pa = 0) : F_X10_takesE_L28 Z (f + 1) (Int32.ofNat pa) no 0 t = some (0, t) := by
  have i10 : ∀ {α : Type} {a : Option α}, mIn 10 (Int32.ofNat pa) a = a := mInk (k := pa) (by omega) (by decide)
  rw [F_X10_takesE_L28, if00, if_neg h0]
  unfold F_X10_takesE_J39
  rw [if00]
  have j237 : F_X10_takesE_J237 Z (F_X10_takesE_L28 Z f) (Int32.ofNat pa) no t = some (0, t) := by
    unfold F_X10_takesE_J237
    rcases tk.cases with ⟨c, sg⟩ | ⟨k3, -⟩
    · rw [here_eq sg.1 sg.2.2.1 sg.2.2.2, mCall_some]
      rcases sg_all c (by have := sg.1; omega) with ⟨r0, r1, r2, -⟩ | ⟨-, r1⟩
      · obtain ⟨l2, fl⟩ := hs c sg r0
        have q : Int32.ofNat (rk (sgc c)) = 3 := by rw [r1, l2]; rfl
        rw [if_neg r2, rank_eq, mCall_some, if_pos q, i10, nnk (k := pa) (by omega), if_neg fl]; rfl
      · rw [if_pos r1]; rfl
    · rw [here_no k3, mCall_some, if00]; rfl
  by_cases k3 : t 65 13 = 3
  · rw [if_pos k3]
    by_cases k41 : t 65 14 = 41
    · rw [if_pos k41]
      rcases tk.cases with ⟨c, sg⟩ | ⟨k, -⟩
      · have e : c = 41 := (eqk (b := 41) (by have := sg.1; omega) (by decide)).mp (sg.2.2.2.symm.trans k41)
        rw [h41 (e ▸ sg), if_pos (by decide)]
        rw [h41 (e ▸ sg)] at j237
        exact j237
      · exact absurd k3 k
    · rw [if_neg k41]; exact j237
  · rw [if_neg k3]; exact j237
end
