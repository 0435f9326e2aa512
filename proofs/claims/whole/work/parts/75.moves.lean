section
variable {Z : List gH}
theorem ce_nat {q : Nat} (h : q < 2 ^ 31) : ce (Int32.ofNat q) = Int32.ofNat q := if_pos ((lek (a := 0) (by decide) h).mpr (Nat.zero_le q))
theorem PS.st96 {σ τ s t : gS} {n : Nat} {b : Nat → Nat} {key st nx : Nat} {cs out stk : List Int32} (h : PS σ τ s t n b key st nx cs out stk) : st ≤ nx ∧ nx ≤ n ∧ n ≤ 96 := by
  have h1 := h.1.1.1
  have h2 := h.1.2.2.2.2.2.1
  refine ⟨?_, h2, h1⟩
  rcases h.1.2.2.2.2.2.2 with q | q | q | q | q <;> omega
theorem nots_ok {k : Nat} : ∀ x, x ∈ List.replicate k (-10 : Int32) → x ≠ -11 ∧ 6 ≤ rk x := fun x hx => by
  rw [List.eq_of_mem_replicate hx]; decide
/-- an operand taken -/
theorem opd {σ τ s t : gS} {n : Nat} {b : Nat → Nat} {key st nx q k : Nat} {cs B : List Int32} (ps : PS σ τ s t n b key st nx cs cs (List.replicate k (-10) ++ B)) (ht : ¬ s 36 5 = -1 ∧ ¬ s 36 5 = -4) (hB : TOP 6 B) (hq : q < 20000) : ∃ s2 t2 st2 nx2, F_X3_addOperand Z (Int32.ofNat q) s = some (0, s2) ∧ F_X10_takesPart_J87 Z (Int32.ofNat q) (t 65 20) t = some (1, t2) ∧ st < st2 ∧ PS σ τ s2 t2 n b key st2 nx2 (cs ++ [Int32.ofNat q]) ((cs ++ [Int32.ofNat q]) ++ List.replicate k (-10)) B ∧ t2 78 = t 78 := by
  have ps0 := ps
  have hs := ps.st96
  obtain ⟨tk, c1, ms, e3, k1, k2, e8, b1, b2, fr, fm⟩ := ps
  obtain ⟨s1, a1, a2, a3, a4⟩ := c1.add (Z := Z) (Int32.ofNat q) (by omega)
  rw [ce_nat (by omega)] at a1
  obtain ⟨m1, m2⟩ := ms.tell (Int32.ofNat q)
  have el : Int32.ofNat cs.length + 1 = Int32.ofNat (cs.length + 1) := addk _ 1
  have m3 : MS (gu (gu (gu t 76 cs.length (Int32.ofNat q)) 65 20 (Int32.ofNat (cs.length + 1))) 65 21 (t 65 21 + 1)) (cs ++ [Int32.ofNat q]) (List.replicate k (-10) ++ B) := m1.fr (by rw [gu_off _ _ (Or.inr (by decide))]) (by rw [gu_off _ _ (Or.inr (by decide))]) (gu_ne _ _ _ (by decide)) (gu_ne _ _ _ (by decide))
  obtain ⟨t2, d1, d2, d3, d4⟩ := settle_eq (Z := Z) (r := 6) (by omega) hB m3 nots_ok (by simp at b1 ⊢; omega)
  have d1 : F_X10_settle Z 6 _ = some (0, t2) := d1
  have f21 : gu (gu t 76 cs.length (Int32.ofNat q)) 65 20 (Int32.ofNat (cs.length + 1)) 65 21 = t 65 21 := by rw [gu_off _ _ (Or.inr (by decide)), gu_ne _ _ _ (by decide)]
  have cf : CF s (gu s1 36 3 (s1 36 3 + 1)) := ⟨fun c p q => by rw [gu_ne _ _ _ p]; exact a3.1 c p q, fun k p q => by rw [gu_off _ _ (Or.inr q)]; exact a3.2 k p q⟩
  obtain ⟨lt, s5, t5, st5, nx5, g1, g2, g3, g4, g5⟩ := ps0.adv (Z := Z) (s1 := gu s1 36 3 (s1 36 3 + 1)) (t1 := t2) (cs := cs ++ [Int32.ofNat q]) (out := (cs ++ [Int32.ofNat q]) ++ List.replicate k (-10)) (stk := B) ht cf ⟨fun x p q r w => by rw [d3.1 x p q r, gu_ne _ _ _ p, m2.1 x p q r], fun k p q r => by rw [d3.2 k p q r, gu_off _ _ (Or.inr q), m2.2 k p q r]⟩ ⟨by rw [gu_off _ _ (Or.inr (by decide))]; exact a2.1, by rw [gu_ne _ _ _ (by decide)]; exact a2.2⟩ d2 (by rw [gu_self, d4, gu_self, a4, e3]) (by simp; omega) (by simp)
  refine ⟨s5, t5, st5, nx5, ?_, ?_, by omega, g4, ?_⟩
  · unfold F_X3_addOperand
    rw [a1, mCall_some, mLet_eq, g1, mCall_some]
  · unfold F_X10_takesPart_J87
    rw [ms.1, mInk (k := cs.length) (by omega) (by decide), nnk (k := cs.length) (by omega), mLet_eq, mLet_eq, gu_ne _ _ _ (show 65 ≠ 76 by decide), ms.1, el, mLet_eq, f21, d1, mCall_some, g2, mCall_some]
    rfl
  · rw [g5, d3.1 78 (by decide) (by decide) (by decide), gu_ne _ _ _ (by decide), m2.1 78 (by decide) (by decide) (by decide)]
theorem L28_1 {f : Nat} {l1 l2 : Int32} {t : gS} (h : ¬ (t 65 13 = 3 ∧ t 65 14 = 33 ∧ ¬ 8 ≤ l2)) : F_X10_takesE_L28 Z (f + 1) l1 l2 1 t = F_X10_takesE_J97 Z (F_X10_takesE_L28 Z f) l1 1 t := by
  rw [F_X10_takesE_L28, if10]
  unfold F_X10_takesE_J39
  rw [if10]
  by_cases c1 : t 65 13 = 3
  · rw [if_pos c1]
    by_cases c2 : t 65 14 = 33
    · rw [if_pos c2]
      by_cases c3 : 8 ≤ l2
      · rw [if_pos c3]
      · exact absurd ⟨c1, c2, c3⟩ h
    · rw [if_neg c2]
  · rw [if_neg c1]
theorem J97_no {k28 : Int32 → Int32 → Int32 → gS → Option (Int32 × gS)} {l1 l3 : Int32} {t : gS} (h : ¬ (t 65 13 = 3 ∧ t 65 14 = 40 ∧ ¬ 8 ≤ l1)) : F_X10_takesE_J97 Z k28 l1 l3 t = F_X10_takesE_J158 Z k28 l1 t := by
  unfold F_X10_takesE_J97
  by_cases c1 : t 65 13 = 3
  · rw [if_pos c1]
    by_cases c2 : t 65 14 = 40
    · rw [if_pos c2]
      by_cases c3 : 8 ≤ l1
      · rw [if_pos c3]
      · exact absurd ⟨c1, c2, c3⟩ h
    · rw [if_neg c2]
  · rw [if_neg c1]
/-- a sign ! -/
theorem not_step {σ τ s t : gS} {n : Nat} {b : Nat → Nat} {key st nx pa no f : Nat} {cs stk : List Int32} (ps : PS σ τ s t n b key st nx cs cs stk) (sg : SGN s t 33) (hno : no < 8) : ∃ s2 t2 st2 nx2, F_X3_goOn Z s = some (0, s2) ∧ F_X10_takesE_L28 Z (f + 1) (Int32.ofNat pa) (Int32.ofNat no) 1 t = F_X10_takesE_L28 Z f (Int32.ofNat pa) (Int32.ofNat (cb (-10 :: stk))) 1 t2 ∧ st < st2 ∧ PS σ τ s2 t2 n b key st2 nx2 cs cs (-10 :: stk) ∧ t2 78 = t 78 := by
  have hs := ps.st96
  have ps0 := ps
  obtain ⟨tk, c1, ms, e3, k1, k2, e8, b1, b2, fr, fm⟩ := ps
  obtain ⟨m3, m4⟩ := ms.push (-10) (by omega)
  have el : Int32.ofNat stk.length + 1 = Int32.ofNat (stk.length + 1) := addk _ 1
  obtain ⟨lt, s5, t5, st5, nx5, g1, g2, g3, g4, g5⟩ := ps0.adv (Z := Z) (s1 := s) (t1 := gu (gu t 77 stk.length (-10)) 65 23 (Int32.ofNat (stk.length + 1))) (cs := cs) (out := cs) (stk := -10 :: stk) sg.tk CF.rf ⟨fun x p q r w => m4.1 x p q r, m4.2⟩ c1 m3 (by rw [e3, gu_off _ _ (Or.inr (by decide)), gu_ne _ _ _ (by decide)]) (by simp; omega) (by omega)
  have h5 := g4.st96
  have n8 : ¬ (8 : Int32) ≤ Int32.ofNat no := fun q => by have := (lek (a := 8) (by decide) (by omega)).mp q; omega
  refine ⟨s5, t5, st5, nx5, g1, ?_, by omega, g4, by rw [g5, m4.1 78 (by decide) (by decide) (by decide)]⟩
  rw [F_X10_takesE_L28, if10]
  unfold F_X10_takesE_J39
  rw [if10, if_pos sg.2.2.1, if_pos (show t 65 14 = 33 from sg.2.2.2), if_neg n8, ms.2.2.1, mInk (k := stk.length) (by omega) (by decide), nnk (k := stk.length) (by omega), mLet_eq, mLet_eq, gu_ne _ _ _ (show 65 ≠ 77 by decide), ms.2.2.1, el, g2, mCall_some, nots_eq g4.2.2.1 (by have := g4.2.2.2.2.2.2.2.1; omega), mCall_some]
/-- a sign ( -/
theorem open_step {σ τ s t : gS} {n : Nat} {b : Nat → Nat} {key st nx pa f : Nat} {no : Int32} {cs stk : List Int32} (ps : PS σ τ s t n b key st nx cs cs stk) (sg : SGN s t 40) (hpa : pa < 8) : ∃ s2 t2 st2 nx2, F_X3_goOn Z s = some (0, s2) ∧ F_X10_takesE_L28 Z (f + 1) (Int32.ofNat pa) no 1 t = F_X10_takesE_L28 Z f (Int32.ofNat (pa + 1)) (Int32.ofNat (cb (-11 :: stk))) 1 t2 ∧ st < st2 ∧ PS σ τ s2 t2 n b key st2 nx2 cs cs (-11 :: stk) ∧ t2 78 (pa + 1) = 0 ∧ ∀ j, j ≠ pa + 1 → t2 78 j = t 78 j := by
  have hs := ps.st96
  have ps0 := ps
  obtain ⟨tk, c1, ms, e3, k1, k2, e8, b1, b2, fr, fm⟩ := ps
  obtain ⟨m3, m4⟩ := ms.push (-11) (by omega)
  have el : Int32.ofNat stk.length + 1 = Int32.ofNat (stk.length + 1) := addk _ 1
  have ep : Int32.ofNat pa + 1 = Int32.ofNat (pa + 1) := addk _ 1
  have m5 : MS (gu (gu (gu t 77 stk.length (-11)) 65 23 (Int32.ofNat (stk.length + 1))) 78 (pa + 1) 0) cs (-11 :: stk) := m3.fr (by rw [gu_ne _ _ _ (by decide)]) (by rw [gu_ne _ _ _ (by decide)]) (gu_ne _ _ _ (by decide)) (gu_ne _ _ _ (by decide))
  obtain ⟨lt, s5, t5, st5, nx5, g1, g2, g3, g4, g5⟩ := ps0.adv (Z := Z) (s1 := s) (t1 := gu (gu (gu t 77 stk.length (-11)) 65 23 (Int32.ofNat (stk.length + 1))) 78 (pa + 1) 0) (cs := cs) (out := cs) (stk := -11 :: stk) sg.tk CF.rf ⟨fun x p q r w => by rw [gu_ne _ _ _ w]; exact m4.1 x p q r, fun k p q r => by rw [gu_ne _ _ _ (by decide)]; exact m4.2 k p q r⟩ c1 m5 (by rw [e3, gu_ne _ _ _ (by decide), gu_off _ _ (Or.inr (by decide)), gu_ne _ _ _ (by decide)]) (by simp; omega) (by omega)
  have h5 := g4.st96
  have n8 : ¬ (8 : Int32) ≤ Int32.ofNat pa := fun q => by have := (lek (a := 8) (by decide) (by omega)).mp q; omega
  have e14 : t 65 14 = 40 := sg.2.2.2
  refine ⟨s5, t5, st5, nx5, g1, ?_, by omega, g4, by rw [g5, gu_self], fun j hj => by rw [g5, gu_off _ _ (Or.inr hj), m4.1 78 (by decide) (by decide) (by decide)]⟩
  rw [L28_1 (fun q => by rw [e14] at q; exact absurd q.2.1 (by decide))]
  unfold F_X10_takesE_J97
  rw [if_pos sg.2.2.1, if_pos e14, if_neg n8, ms.2.2.1, mInk (k := stk.length) (by omega) (by decide), nnk (k := stk.length) (by omega), mLet_eq, mLet_eq, gu_ne _ _ _ (show 65 ≠ 77 by decide), ms.2.2.1, el, ep, mInk (k := pa + 1) (by omega) (by decide), nnk (k := pa + 1) (by omega), nar0, mLet_eq, g2, mCall_some, nots_eq g4.2.2.1 (by have := g4.2.2.2.2.2.2.2.1; omega), mCall_some]
/-- a sign ) that fits -/
theorem close_step {σ τ s t : gS} {n : Nat} {b : Nat → Nat} {key st nx pa k f : Nat} {no : Int32} {cs out pend B : List Int32} (ps : PS σ τ s t n b key st nx cs out (pend ++ (-11 :: (List.replicate k (-10) ++ B)))) (e : out ++ pend = cs) (sg : SGN s t 41) (hpa : 1 ≤ pa) (hpa8 : pa ≤ 8) (hx : ∀ x, x ∈ pend → x ≠ -11) (hB : TOP 6 B) : ∃ s2 t2 st2 nx2, F_X3_goOn Z s = some (0, s2) ∧ F_X10_takesE_L28 Z (f + 1) (Int32.ofNat pa) no 0 t = F_X10_takesE_L28 Z f (Int32.ofNat (pa - 1)) (Int32.ofNat (cb B)) 0 t2 ∧ st < st2 ∧ PS σ τ s2 t2 n b key st2 nx2 cs (cs ++ List.replicate k (-10)) B ∧ t2 78 = t 78 := by
  have hs := ps.st96
  have ps0 := ps
  obtain ⟨tk, c1, ms, e3, k1, k2, e8, b1, b2, fr, fm⟩ := ps
  obtain ⟨t1, a1, a2, a3, a4⟩ := settle_eq (Z := Z) (r := 0) (by omega) (Or.inr ⟨-11, _, rfl, Or.inl rfl⟩) ms (fun x h => ⟨hx x h, Nat.zero_le _⟩) (by omega)
  have a1 : F_X10_settle Z 0 t = some (0, t1) := a1
  rw [e] at a2
  obtain ⟨-, m1, m2⟩ := MS.top a2
  have len : out.length + (pend ++ (-11 :: (List.replicate k (-10) ++ B))).length = cs.length + ((List.replicate k (-10) ++ B).length + 1) := by rw [← e]; simp; omega
  have es : Int32.ofNat ((-11 : Int32) :: (List.replicate k (-10) ++ B)).length - 1 = Int32.ofNat (List.replicate k (-10) ++ B).length := subk (a := (List.replicate k (-10 : Int32) ++ B).length + 1) (b := 1) (by omega)
  obtain ⟨t2, d1, d2, d3, d4⟩ := settle_eq (Z := Z) (r := 6) (by omega) hB m1 nots_ok (by omega)
  have d1 : F_X10_settle Z 6 _ = some (0, t2) := d1
  obtain ⟨lt, s5, t5, st5, nx5, g1, g2, g3, g4, g5⟩ := ps0.adv (Z := Z) (s1 := s) (t1 := t2) (cs := cs) (out := cs ++ List.replicate k (-10)) (stk := B) sg.tk CF.rf ⟨fun x p q r w => by rw [d3.1 x p q r, m2.1 x p q r, a3.1 x p q r], fun k p q r => by rw [d3.2 k p q r, m2.2 k p q r, a3.2 k p q r]⟩ c1 d2 (by rw [e3, d4, gu_off _ _ (Or.inr (by decide)), a4]) (by simp at len ⊢; omega) (by omega)
  have lB : B.length ≤ 96 := by
    have l2 : B.length ≤ (List.replicate k (-10 : Int32) ++ B).length := by simp
    omega
  have e14 : t 65 14 = 41 := sg.2.2.2
  have n0 : ¬ Int32.ofNat pa ≤ 0 := fun q => by have := (lek (b := 0) (by omega) (by decide)).mp q; omega
  have ep : Int32.ofNat pa + -1 = Int32.ofNat (pa - 1) := by
    rw [← Int32.sub_eq_add_neg]; exact subk (b := 1) (by omega)
  refine ⟨s5, t5, st5, nx5, g1, ?_, by omega, g4, by rw [g5, d3.1 78 (by decide) (by decide) (by decide), m2.1 78 (by decide) (by decide) (by decide), a3.1 78 (by decide) (by decide) (by decide)]⟩
  rw [F_X10_takesE_L28, if00, if_neg (by rw [sg.2.2.1]; decide)]
  unfold F_X10_takesE_J39
  rw [if00, if_pos sg.2.2.1, if_pos e14, if_neg n0, a1, mCall_some, a2.2.2.1, es, mLet_eq, d1, mCall_some, nots_eq d2 lB, mCall_some, g2, mCall_some, ep]
/-- the end of a text -/
theorem end_step {σ τ s t : gS} {n : Nat} {b : Nat → Nat} {key st nx pa f : Nat} {no : Int32} {cs out pend B : List Int32} (ps : PS σ τ s t n b key st nx cs out (pend ++ B)) (e : out ++ pend = cs) (h0 : t 65 13 = 0) (hpa8 : pa ≤ 8) (hx : ∀ x, x ∈ pend → x ≠ -11) (hB : TOP 0 B) : ∃ t2, F_X10_takesE_L28 Z (f + 1) (Int32.ofNat pa) no 0 t = some (if pa = 0 then 1 else 0, t2) ∧ MS t2 cs B ∧ MF2 t t2 ∧ t2 65 21 = t 65 21 := by
  have hs := ps.st96
  obtain ⟨tk, c1, ms, e3, k1, k2, e8, b1, b2, fr, fm⟩ := ps
  obtain ⟨t1, a1, a2, a3, a4⟩ := settle_eq (Z := Z) (r := 0) (by omega) hB ms (fun x h => ⟨hx x h, Nat.zero_le _⟩) (by omega)
  have a1 : F_X10_settle Z 0 t = some (0, t1) := a1
  rw [e] at a2
  refine ⟨t1, ?_, a2, a3, a4⟩
  rw [F_X10_takesE_L28, if00, if_pos h0, a1, mCall_some]
  by_cases c : pa = 0
  · subst c; rfl
  · have n0 : ¬ Int32.ofNat pa = 0 := fun q => c ((eqk (b := 0) (by omega) (by decide)).mp q)
    rw [if_neg n0, if_neg c]; rfl
end
