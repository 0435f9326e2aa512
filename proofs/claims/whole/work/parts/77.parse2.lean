section
variable {Z : List gH}
/-- what a piece owes, with k signs ! ahead of it -/
def PV (Z : List gH) (σ τ : gS) (n : Nat) (b : Nat → Nat) (key pa no : Nat) (rP : gS → Option (Int32 × gS)) : Prop := ∀ (k : Nat) (s t : gS) (f st nx : Nat) (cs B : List Int32), PS σ τ s t n b key st nx cs cs (List.replicate k (-10) ++ B) → TOP 6 B → cb B + k = no → 97 - st < f → FAIL σ τ (rP s) (F_X10_takesE_L28 Z f (Int32.ofNat pa) (Int32.ofNat no) 1 t) ∨ POK Z σ τ n b key pa k (rP s) (F_X10_takesE_L28 Z f (Int32.ofNat pa) (Int32.ofNat no) 1 t) t st cs B
theorem piece_no {rL : Int32 → Int32 → Int32 → gS → Option (Int32 × gS)} {rP : Int32 → Int32 → gS → Option (Int32 × gS)} {l1 l2 : Int32} {s : gS} (hn : F_X3_nameRead Z s = some (-1, s)) (h3 : s 36 5 = -3 → 4 < (s 36 7 - s 36 6)) (h33 : ¬ (s 36 5 = 33 ∧ ¬ 8 ≤ l2)) (h40 : ¬ (s 36 5 = 40 ∧ ¬ 8 ≤ l1)) : F_X3_readPiece Z rL rP l1 l2 s = mCall (F_X3_stop Z s) (fun r3 s4 => some (0, s4)) := by
  have j90 : F_X3_readPiece_J90 Z rL rP l1 l2 s = mCall (F_X3_stop Z s) (fun r3 s4 => some (0, s4)) := by
    unfold F_X3_readPiece_J90
    by_cases c : s 36 5 = 40
    · rw [if_pos c]
      by_cases c2 : 8 ≤ l1
      · rw [if_pos c2]
      · exact absurd ⟨c, c2⟩ h40
    · rw [if_neg c]
  have j54 : F_X3_readPiece_J54 Z rL rP l1 l2 s = mCall (F_X3_stop Z s) (fun r3 s4 => some (0, s4)) := by
    unfold F_X3_readPiece_J54
    by_cases c : s 36 5 = 33
    · rw [if_pos c]
      by_cases c2 : 8 ≤ l2
      · rw [if_pos c2]; exact j90
      · exact absurd ⟨c, c2⟩ h33
    · rw [if_neg c]; exact j90
  unfold F_X3_readPiece
  rw [hn, mCall_some, if_pos (by decide)]
  by_cases c : s 36 5 = -3
  · rw [if_pos c, if_pos (h3 c)]; exact j54
  · rw [if_neg c]; exact j54
theorem part_no {t : gS} {key : Nat} (hk : key ≤ 2) (k2 : t 65 16 = Int32.ofNat key) (h2 : ¬ t 65 13 = 2) (h1 : t 65 13 = 1 → ¬ t 65 11 - t 65 12 = 1 ∨ ∃ c, c ≤ 255 ∧ t 65 14 = Int32.ofNat c ∧ nmi key c = -1) : F_X10_takesPart Z t = some (0, t) := by
  have j36 : F_X10_takesPart_J36 Z t = some (0, t) := by
    unfold F_X10_takesPart_J36; rw [if_neg h2]; rfl
  unfold F_X10_takesPart
  by_cases c : t 65 13 = 1
  · rw [if_pos c]
    rcases h1 c with q | ⟨d, q1, q2, q3⟩
    · rw [if_neg q]; exact j36
    · by_cases c2 : t 65 11 - t 65 12 = 1
      · rw [if_pos c2, q2, nameOf_eq hk q1 k2, mCall_some, q3, if_pos (by decide)]; exact j36
      · rw [if_neg c2]; exact j36
  · rw [if_neg c]; exact j36
theorem fail_piece {σ τ s t : gS} {n : Nat} {b : Nat → Nat} {key st nx pa no f : Nat} {cs stk : List Int32} {rL : Int32 → Int32 → Int32 → gS → Option (Int32 × gS)} {rP : Int32 → Int32 → gS → Option (Int32 × gS)} (ps : PS σ τ s t n b key st nx cs cs stk) (hk : key ≤ 2) (hpa : pa ≤ 8) (hno : no ≤ 8) (hn : F_X3_nameRead Z s = some (-1, s)) (h3 : s 36 5 = -3 → 4 < (s 36 7 - s 36 6)) (h33 : SGN s t 33 → 8 ≤ no) (h40 : SGN s t 40 → 8 ≤ pa) (h2 : ¬ t 65 13 = 2) (h1 : t 65 13 = 1 → ¬ t 65 11 - t 65 12 = 1 ∨ ∃ c, c ≤ 255 ∧ t 65 14 = Int32.ofNat c ∧ nmi key c = -1) : FAIL σ τ (F_X3_readPiece Z rL rP (Int32.ofNat pa) (Int32.ofNat no) s) (F_X10_takesE_L28 Z (f + 1) (Int32.ofNat pa) (Int32.ofNat no) 1 t) := by
  have hs := ps.st96
  obtain ⟨s2, a1, a2⟩ := ps.stop (Z := Z) (by omega)
  -- a sign as a number is the sign itself
  have sgt : ∀ c : Nat, c < 256 → t 65 13 = 3 → t 65 14 = Int32.ofNat c → SGN s t c := fun c hc q1 q2 => by
    rcases ps.1.cases with ⟨d, sg⟩ | ⟨q, -⟩
    · have e : d = c := (eqk (by have := sg.1; omega) (by omega)).mp (sg.2.2.2.symm.trans q2)
      exact e ▸ sg
    · exact absurd q1 q
  have sgs : ∀ c : Nat, c < 256 → s 36 5 = Int32.ofNat c → SGN s t c := fun c hc q1 => by
    rcases ps.1.cases with ⟨d, sg⟩ | ⟨-, q⟩
    · have e : d = c := (eqk (by have := sg.1; omega) (by omega)).mp (sg.2.1.symm.trans q1)
      exact e ▸ sg
    · exfalso
      have := neg_ne c (by omega)
      rw [q1] at q
      rcases q with q | q | q | q
      · exact this.1 q
      · exact this.2.1 q
      · exact this.2.2.1 q
      · exact this.2.2.2.1 q
  refine ⟨s2, t, st, by omega, ?_, a2, ?_, ps.1.2.2.2.2.1, ps.2.2.2.2.2.2.2.2.2.2⟩
  · rw [piece_no hn h3 (fun q => q.2 ?_) (fun q => q.2 ?_), a1, mCall_some]
    · exact (lek (a := 8) (by decide) (by omega)).mpr (h33 (sgs 33 (by decide) q.1))
    · exact (lek (a := 8) (by decide) (by omega)).mpr (h40 (sgs 40 (by decide) q.1))
  · rw [L28_1 (fun q => q.2.2 ?_), J97_no (fun q => q.2.2 ?_)]
    · unfold F_X10_takesE_J158
      rw [part_no hk ps.2.2.2.2.2.1 h2 h1, mCall_some, if00]; rfl
    · exact (lek (a := 8) (by decide) (by omega)).mpr (h40 (sgt 40 (by decide) q.1 q.2.1))
    · exact (lek (a := 8) (by decide) (by omega)).mpr (h33 (sgt 33 (by decide) q.1 q.2.1))
theorem ok_opd {σ τ s t : gS} {n : Nat} {b : Nat → Nat} {key st nx pa no f q k : Nat} {cs B : List Int32} {R : Option (Int32 × gS)} (ps : PS σ τ s t n b key st nx cs cs (List.replicate k (-10) ++ B)) (hB : TOP 6 B) (ht : ¬ s 36 5 = -1 ∧ ¬ s 36 5 = -4) (hf : 97 - st < f + 1) (hq : q < 10000 + nmn key) (hR : R = mCall (F_X3_addOperand Z (Int32.ofNat q) s) (fun r5 s6 => some (0, s6))) (h3 : ¬ t 65 13 = 3) (hM : F_X10_takesPart Z t = F_X10_takesPart_J87 Z (Int32.ofNat q) (t 65 20) t) : POK Z σ τ n b key pa k R (F_X10_takesE_L28 Z (f + 1) (Int32.ofNat pa) (Int32.ofNat no) 1 t) t st cs B := by
  have hs := ps.st96
  have nm3 : nmn key ≤ 3 := by unfold nmn; split <;> omega
  obtain ⟨s2, t2, st2, nx2, a1, a2, a3, a4, a5⟩ := opd (Z := Z) ps ht hB (q := q) (by omega)
  refine ⟨s2, t2, f, st2, nx2, [Int32.ofNat q], by rw [hR, a1, mCall_some], ?_, by omega, a3, a4, EX.op hq, fun j _ => by rw [a5]⟩
  rw [L28_1 (fun w => h3 w.1), J97_no (fun w => h3 w.1)]
  unfold F_X10_takesE_J158
  rw [hM, a2, mCall_some, if10, nots_eq a4.2.2.1 (by have := a4.2.2.2.2.2.2.2.1; have := a4.st96; omega), mCall_some]
theorem piece_L {σ τ : gS} {n : Nat} {b : Nat → Nat} {key pa no : Nat} {rL : Int32 → Int32 → Int32 → gS → Option (Int32 × gS)} {rP : Int32 → Int32 → gS → Option (Int32 × gS)} (hk : key ≤ 2) (hpa : pa ≤ 8) (hno : no ≤ 8) (hP : no < 8 → PV Z σ τ n b key pa (no + 1) (rP (Int32.ofNat pa) (Int32.ofNat (no + 1)))) (hL : pa < 8 → LV Z σ τ n b key 0 (pa + 1) no (rL (Int32.ofNat 0) (Int32.ofNat (pa + 1)) (Int32.ofNat no))) : PV Z σ τ n b key pa no (F_X3_readPiece Z rL rP (Int32.ofNat pa) (Int32.ofNat no)) := by
  intro k s t f st nx cs B ps hB hcb hf
  have hs := ps.st96
  obtain ⟨f, rfl⟩ : ∃ g, f = g + 1 := ⟨f - 1, by omega⟩
  have n2 : ∀ x : Int32, ¬ x = -2 → s 36 5 = x → F_X3_nameRead Z s = some (-1, s) := fun x hx q => by
    unfold F_X3_nameRead; rw [if_neg (by rw [q]; exact hx)]
  rcases ps.1.2.2.2.2.2.2 with ⟨-, -, q, w⟩ | ⟨l, q, w, w2, -, c1, c2⟩ | ⟨l, q, -, dg, w⟩ | ⟨-, q, w⟩ | ⟨l, q, q2, w, w2, -⟩
  · -- the end
    left
    exact fail_piece ps hk hpa hno (n2 (-1) (by decide) q) (fun h => by rw [q] at h; exact absurd h (by decide)) (fun sg => by have := sg.2.2.1; rw [w] at this; exact absurd this (by decide)) (fun sg => by have := sg.2.2.1; rw [w] at this; exact absurd this (by decide)) (by rw [w]; decide) (fun h => by rw [w] at h; exact absurd h (by decide))
  · -- letters
    have s33 : ∀ c, SGN s t c → False := fun c sg => by have := sg.2.2.1; rw [w] at this; exact absurd this (by decide)
    have e11 : t 65 11 - t 65 12 = Int32.ofNat (nx - st) := by rw [ps.1.2.2.2.1, ps.1.2.2.2.2.1]; exact subk (by omega)
    have e76 : s 36 7 - s 36 6 = Int32.ofNat (nx - st) := by rw [ps.1.2.1, ps.1.2.2.1]; exact subk (by omega)
    by_cases one : nx - st = 1
    · have nm := name_eq (Z := Z) (s := s) (n := n) (st := st) (nx := nx) (key := key) (c := b st) (by omega) hs.2.2 hk (by omega) ps.2.2.2.2.1 q ps.1.2.1 ps.1.2.2.1 (by omega) ((ps.1.1.2.2.2 st (by omega)).1)
      have no2 := nameOf_eq (Z := Z) (t := t) (key := key) (c := b st) hk (by omega) ps.2.2.2.2.2.1
      rcases nmi_cases (key := key) (c := b st) hk with m1 | ⟨i, i1, i2⟩
      · left
        rw [m1] at nm
        exact fail_piece ps hk hpa hno nm (fun h => by rw [q] at h; exact absurd h (by decide)) (fun sg => (s33 _ sg).elim) (fun sg => (s33 _ sg).elim) (by rw [w]; decide) (fun _ => Or.inr ⟨b st, by omega, w2, m1⟩)
      · right
        have nm3 : nmn key ≤ 3 := by unfold nmn; split <;> omega
        rw [i2] at nm no2
        have ni : ¬ Int32.ofNat i < 0 := lt0k (by omega)
        have e1 : (10000 : Int32) + Int32.ofNat i = Int32.ofNat (10000 + i) := addk 10000 i
        refine ok_opd (q := 10000 + i) ps hB (by rw [q]; decide) hf (by omega) ?_ (by rw [w]; decide) ?_
        · unfold F_X3_readPiece
          rw [nm, mCall_some, if_neg ni, e1]
        · unfold F_X10_takesPart
          rw [if_pos w, e11, one, if_pos (show Int32.ofNat 1 = 1 from rfl), w2, no2, mCall_some, if_neg ni, ite_self]
          unfold F_X10_takesPart_J52
          rw [if_neg (by rw [w]; decide), w2, no2, mCall_some, e1]
    · left
      have n1 : ¬ Int32.ofNat (nx - st) = 1 := fun h => one ((eqk (b := 1) (by omega) (by decide)).mp h)
      have nm : F_X3_nameRead Z s = some (-1, s) := by
        unfold F_X3_nameRead; rw [if_pos q, e76, if_neg n1]
      exact fail_piece ps hk hpa hno nm (fun h => by rw [q] at h; exact absurd h (by decide)) (fun sg => (s33 _ sg).elim) (fun sg => (s33 _ sg).elim) (by rw [w]; decide) (fun _ => Or.inl (by rw [e11]; exact n1))
  · -- figures
    have e76 : s 36 7 - s 36 6 = Int32.ofNat (nx - st) := by rw [ps.1.2.1, ps.1.2.2.1]; exact subk (by omega)
    have nm := n2 (-3) (by decide) q
    rcases w with ⟨l4, w, w2⟩ | ⟨l4, w⟩
    · right
      have nu := num_eq (Z := Z) ps.1.1 ps.1.2.1 ps.1.2.2.1 hs.2.1 hs.1 dg
      have dl := dv_lt (b := b) (p := st) (nx - st) (fun j hj => dg (st + j) (by omega) (by omega))
      have dl2 : dv b st (nx - st) < 10000 := Nat.lt_of_lt_of_le dl (Nat.pow_le_pow_right (by decide) l4)
      have n4 : ¬ (4 : Int32) < Int32.ofNat (nx - st) := fun h => by have := (ltk (a := 4) (by decide) (by omega)).mp h; omega
      refine ok_opd (q := dv b st (nx - st)) ps hB (by rw [q]; decide) hf (by omega) ?_ (by rw [w]; decide) ?_
      · unfold F_X3_readPiece
        rw [nm, mCall_some, if_pos (by decide), if_pos q, e76, if_neg n4, nu, mCall_some]
      · unfold F_X10_takesPart F_X10_takesPart_J36 F_X10_takesPart_J52
        rw [if_neg (by rw [w]; decide), if_pos w, if_pos w, w2]
    · left
      have n4 : (4 : Int32) < Int32.ofNat (nx - st) := (ltk (a := 4) (by decide) (by omega)).mpr l4
      exact fail_piece ps hk hpa hno nm (fun _ => by rw [e76]; exact n4) (fun sg => by have := sg.2.2.1; rw [w] at this; exact absurd this (by decide)) (fun sg => by have := sg.2.2.1; rw [w] at this; exact absurd this (by decide)) (by rw [w]; decide) (fun h => by rw [w] at h; exact absurd h (by decide))
  · -- a word that lacks its blank
    left
    exact fail_piece ps hk hpa hno (n2 (-4) (by decide) q) (fun h => by rw [q] at h; exact absurd h (by decide)) (fun sg => by have := sg.2.2.1; rw [w] at this; exact absurd this (by decide)) (fun sg => by have := sg.2.2.1; rw [w] at this; exact absurd this (by decide)) (by rw [w]; decide) (fun h => by rw [w] at h; exact absurd h (by decide))
  · -- a sign
    have sg : SGN s t (b st) := ⟨q2, q, w, w2⟩
    have nn5 := neg_ne (b st) (by omega)
    have nm := n2 _ nn5.2.1 q
    have ne3 : ¬ s 36 5 = -3 := by rw [q]; exact nn5.2.2.1
    have uq : ∀ c, SGN s t c → c = b st := fun c s' => (eqk (by have := s'.1; omega) (by omega)).mp (s'.2.1.symm.trans q)
    by_cases c33 : b st = 33 ∧ no < 8
    · have sg33 : SGN s t 33 := c33.1 ▸ sg
      obtain ⟨s2, t2, st2, nx2, a1, a2, a3, a4, a5⟩ := not_step (Z := Z) (f := f) (pa := pa) ps sg33 c33.2
      have e1 : Int32.ofNat no + 1 = Int32.ofNat (no + 1) := addk no 1
      have n8 : ¬ (8 : Int32) ≤ Int32.ofNat no := fun h => by have := (lek (a := 8) (by decide) (by omega)).mp h; omega
      have rep : (-10 : Int32) :: (List.replicate k (-10) ++ B) = List.replicate (k + 1) (-10) ++ B := rfl
      have cbr : ∀ m, cb (List.replicate m (-10 : Int32) ++ B) = m + cb B := fun m => by
        induction m with
        | zero => show cb B = 0 + cb B; omega
        | succ m ihm =>
          show 1 + cb (List.replicate m (-10 : Int32) ++ B) = _
          omega
      rw [rep] at a2 a4
      rw [a2, cbr (k + 1), show k + 1 + cb B = no + 1 by omega]
      have unf : ∀ s4, rP (Int32.ofNat pa) (Int32.ofNat (no + 1)) s2 = some (0, s4) → F_X3_readPiece Z rL rP (Int32.ofNat pa) (Int32.ofNat no) s = mCall (F_X3_addStep Z (-33) s4) (fun r5 s6 => some (0, s6)) := fun s4 h4 => by
        unfold F_X3_readPiece
        rw [nm, mCall_some, if_pos (by decide), if_neg ne3]
        unfold F_X3_readPiece_J54
        rw [if_pos (show s 36 5 = 33 from sg33.2.1), if_neg n8, a1, mCall_some, e1, h4, mCall_some]
      rcases hP c33.2 (k + 1) s2 t2 f st2 nx2 cs B a4 hB (by omega) (by omega) with ⟨s', t', q', q1, q2, q3, q4, q5, q6⟩ | ⟨s', t', f', st', nx', w', q1, q2, q3, q4, q5, q6, q7⟩
      · left
        obtain ⟨s9, d1, d2⟩ := q3.add (Z := Z) (-33)
        exact ⟨s9, t', q', q1, by rw [unf s' q2, d1, mCall_some], d2, q4, q5, q6⟩
      · right
        have bb := q5.2.2.2.2.2.2.2.1
        obtain ⟨s9, d1, d2, d3⟩ := q5.add (Z := Z) (-10) (by simp at bb ⊢; omega)
        have d1 : F_X3_addStep Z (-33) s' = some (0, s9) := d1
        have e2 : (cs ++ w') ++ [-10] = cs ++ (w' ++ [-10]) := by simp
        have e3 : (cs ++ w') ++ List.replicate (k + 1) (-10) = (cs ++ (w' ++ [-10])) ++ List.replicate k (-10) := by simp [List.replicate_succ]
        rw [e2, e3] at d2
        exact ⟨s9, t', f', st', nx', w' ++ [-10], by rw [unf s' q1, d1, mCall_some], q2, q3, by omega, d2, EX.not q6, fun j hj => by rw [q7 j hj, a5]⟩
    by_cases c40 : b st = 40 ∧ pa < 8
    rotate_left
    · left
      exact fail_piece ps hk hpa hno nm (fun h => absurd h ne3) (fun s' => by
        have := uq 33 s'
        rcases Nat.lt_or_ge no 8 with h | h
        · exact absurd ⟨this.symm, h⟩ c33
        · exact h) (fun s' => by
        have := uq 40 s'
        rcases Nat.lt_or_ge pa 8 with h | h
        · exact absurd ⟨this.symm, h⟩ c40
        · exact h) (by rw [w]; decide) (fun h => by rw [w] at h; exact absurd h (by decide))
    have sg40 : SGN s t 40 := c40.1 ▸ sg
    obtain ⟨s2, t2, st2, nx2, a1, a2, a3, a4, a5, a6⟩ := open_step (Z := Z) (f := f) (pa := pa) (no := Int32.ofNat no) ps sg40 c40.2
    have cbr : ∀ m, cb (List.replicate m (-10 : Int32) ++ B) = m + cb B := fun m => by
      induction m with
      | zero => show cb B = 0 + cb B; omega
      | succ m ihm =>
        show 1 + cb (List.replicate m (-10 : Int32) ++ B) = _
        omega
    have cb11 : cb (-11 :: (List.replicate k (-10) ++ B)) = no := by
      show 0 + cb (List.replicate k (-10 : Int32) ++ B) = no
      rw [cbr k]; omega
    have e1 : Int32.ofNat pa + 1 = Int32.ofNat (pa + 1) := addk pa 1
    have n8 : ¬ (8 : Int32) ≤ Int32.ofNat pa := fun h => by have := (lek (a := 8) (by decide) (by omega)).mp h; omega
    rw [a2, cb11]
    have unf : ∀ s8, rL (Int32.ofNat 0) (Int32.ofNat (pa + 1)) (Int32.ofNat no) s2 = some (0, s8) → F_X3_readPiece Z rL rP (Int32.ofNat pa) (Int32.ofNat no) s = if s8 36 5 = 41 then mCall (F_X3_goOn Z s8) (fun r11 s12 => some (0, s12)) else mCall (F_X3_stop Z s8) (fun r9 s10 => some (0, s10)) := fun s8 h8 => by
      have h8 : rL 0 (Int32.ofNat (pa + 1)) (Int32.ofNat no) s2 = some (0, s8) := h8
      have t40 : s 36 5 = 40 := sg40.2.1
      unfold F_X3_readPiece
      rw [nm, mCall_some, if_pos (by decide), if_neg ne3]
      unfold F_X3_readPiece_J54
      rw [if_neg (by rw [t40]; decide)]
      unfold F_X3_readPiece_J90
      rw [if_pos t40, if_neg n8, a1, mCall_some, e1, h8, mCall_some]
    rcases hL c40.2 s2 t2 f st2 nx2 cs (-11 :: (List.replicate k (-10) ++ B)) a4 (Or.inr ⟨-11, _, rfl, Or.inl rfl⟩) cb11 (by omega) (Or.inl a5) (fun _ => a5) with ⟨s', t', q', q1, q2, q3, q4, q5, q6⟩ | ⟨s', t', f', st', nx', w', pend, out, q1, q2, q3, q4, q5, q6, q7, q8, q9, q10, q11, q12⟩
    · left
      obtain ⟨s9, d1, d2⟩ := q3.stop (Z := Z) q1
      exact ⟨s9, t', q', q1, by rw [unf s' q2, if_neg (by rw [q3.1]; decide), d1, mCall_some], d2, q4, q5, q6⟩
    · have hs' := q5.st96
      obtain ⟨f', rfl⟩ : ∃ g, f' = g + 1 := ⟨f' - 1, by omega⟩
      by_cases c41 : SGN s' t' 41
      · right
        obtain ⟨s9, t9, st9, nx9, b1, b2, b3, b4, b5⟩ := close_step (Z := Z) (f := f') (pa := pa + 1) (no := Int32.ofNat no) q5 q6 c41 (by omega) (by omega) (fun x h => (q8 x h).1) hB
        have t41 : s' 36 5 = 41 := c41.2.1
        exact ⟨s9, t9, f', st9, nx9, w', by rw [unf s' q1, if_pos t41, b1, mCall_some], by rw [q2, b2]; rfl, by omega, by omega, b4, q7, fun j hj => by rw [b5, q12 j (by omega), a6 j (by omega)]⟩
      · left
        have n41 : ¬ s' 36 5 = 41 := fun h => by
          rcases q5.1.cases with ⟨d, sgd⟩ | ⟨-, q⟩
          · have e : d = 41 := (eqk (b := 41) (by have := sgd.1; omega) (by decide)).mp (sgd.2.1.symm.trans h)
            exact c41 (e ▸ sgd)
          · rw [h] at q
            rcases q with q | q | q | q <;> exact absurd q (by decide)
        obtain ⟨s9, d1, d2⟩ := q5.stop (Z := Z) (by omega)
        by_cases k0 : t' 65 13 = 0
        · obtain ⟨t9, b1, b2, b3, b4⟩ := end_step (Z := Z) (f := f') (pa := pa + 1) (no := Int32.ofNat no) q5 q6 k0 (by omega) (fun x h => (q8 x h).1) (Or.inr ⟨-11, _, rfl, Or.inl rfl⟩)
          rw [if_neg (by omega)] at b1
          exact ⟨s9, t9, st', by omega, by rw [unf s' q1, if_neg n41, d1, mCall_some], d2, by rw [q2, b1], by rw [b3.2 12 (by decide) (by decide) (by decide)]; exact q5.1.2.2.2.2.1, q5.2.2.2.2.2.2.2.2.2.2.mf b3⟩
        · have ns := no_step (Z := Z) (f := f') (pa := pa + 1) (no := Int32.ofNat no) q5.1 (by omega) k0 (fun h => absurd h c41) (fun c' sg' hc' => by
            rcases q9 c' sg' hc' with h | h
            · omega
            · exact ⟨h.1, h.2.2⟩)
          exact ⟨s9, t', st', by omega, by rw [unf s' q1, if_neg n41, d1, mCall_some], d2, by rw [q2, ns], q5.1.2.2.2.2.1, q5.2.2.2.2.2.2.2.2.2.2⟩
theorem TOP.mono {r r2 : Nat} {B : List Int32} (h : TOP r B) (h2 : r ≤ r2) : TOP r2 B := by
  rcases h with h | ⟨x, B', h, hx⟩
  · exact Or.inl h
  · refine Or.inr ⟨x, B', h, ?_⟩
    rcases hx with hx | hx
    · exact Or.inl hx
    · exact Or.inr (by omega)
/-- all levels, all pieces -/
theorem parse_all {σ τ : gS} {n : Nat} {b : Nat → Nat} {key : Nat} (hk : key ≤ 2) : ∀ d, (∀ level pa no, level ≤ 5 → pa ≤ 8 → no ≤ 8 → (5 - level) + 2 + 7 * (8 - pa) + (8 - no) ≤ d → LV Z σ τ n b key level pa no ((F_RD Z d).1 (Int32.ofNat level) (Int32.ofNat pa) (Int32.ofNat no))) ∧ (∀ pa no, pa ≤ 8 → no ≤ 8 → 1 + 7 * (8 - pa) + (8 - no) ≤ d → PV Z σ τ n b key pa no ((F_RD Z d).2 (Int32.ofNat pa) (Int32.ofNat no))) := by
  have m5 : mFuel = 5000 := rfl
  intro d
  induction d with
  | zero => exact ⟨fun level pa no h1 h2 h3 h4 => by omega, fun pa no h1 h2 h3 => by omega⟩
  | succ d ih =>
    refine ⟨fun level pa no h1 h2 h3 h4 => ?_, fun pa no h1 h2 h3 => ?_⟩
    · intro s t f st nx cs B ps hB hcb hf fl f2
      have el : Int32.ofNat level + 1 = Int32.ofNat (level + 1) := addk level 1
      show FAIL σ τ (F_X3_readLevel Z (F_RD Z d).1 (F_RD Z d).2 (Int32.ofNat level) (Int32.ofNat pa) (Int32.ofNat no) s) _ ∨ LOK Z σ τ n b key level pa no (F_X3_readLevel Z (F_RD Z d).1 (F_RD Z d).2 (Int32.ofNat level) (Int32.ofNat pa) (Int32.ofNat no) s) _ t st cs B
      by_cases l5 : level < 5
      · have c5 : Int32.ofNat level < 5 := (ltk (b := 5) (by omega) (by decide)).mpr l5
        have hL := ih.1 (level + 1) pa no (by omega) h2 h3 (by omega)
        have unf : ∀ s2, (F_RD Z d).1 (Int32.ofNat (level + 1)) (Int32.ofNat pa) (Int32.ofNat no) s = some (0, s2) → F_X3_readLevel Z (F_RD Z d).1 (F_RD Z d).2 (Int32.ofNat level) (Int32.ofNat pa) (Int32.ofNat no) s = F_X3_readLevel_L37 Z (F_RD Z d).1 (F_RD Z d).2 (Int32.ofNat level) (Int32.ofNat pa) (Int32.ofNat no) mFuel (if level = 2 then 1 else 96) (Int32.ofNat 0) s2 := fun s2 h => by
          unfold F_X3_readLevel
          rw [if_pos c5, el, h, mCall_some]
          by_cases q : level = 2
          · have q1 : Int32.ofNat level = 2 := by rw [q]; rfl
            rw [if_pos q1, if_pos q]; rfl
          · have q1 : ¬ Int32.ofNat level = 2 := fun h => q ((eqk (b := 2) (by omega) (by decide)).mp h)
            rw [if_neg q1, if_neg q]; rfl
        rcases hL s t f st nx cs B ps (hB.mono (by omega)) hcb hf fl (fun h => f2 (by omega)) with ⟨s', t', q, q1, q2, q3, q4, q5, q6⟩ | ⟨s', t', f', st', nx', w, pend, out, q1, q2, q3, q4, q5, q6, q7, q8, q9, q10, q11, q12⟩
        · left
          refine ⟨s', t', q, q1, ?_, q3, q4, q5, q6⟩
          rw [unf s' q2]
          show F_X3_readLevel_L37 Z _ _ _ _ _ (4999 + 1) _ _ s' = _
          rw [F_X3_readLevel_L37, sign_no (by omega) (Or.inr (Or.inr (Or.inr (Or.inr q3.1)))), mCall_some, if00, ite_self]
        · rw [unf s' q1, q2]
          have b8 := q5.2.2.2.2.2.2.2.1
          exact loop_L (Z := Z) l5 h2 hL hB hcb t st mFuel 0 s' t' f' st' nx' w pend out q5 q6 q7 (fun x h => ⟨(q8 x h).1, by have := (q8 x h).2.1; omega, (q8 x h).2.2⟩) q9 q10 (fun h => q11 (by omega)) (fun h _ => by rw [q11 (by omega)]; exact f2 (by omega)) (fun _ h => by omega) q12 q4 q3 (by omega) (by omega)
      · obtain rfl : level = 5 := by omega
        have c5 : ¬ Int32.ofNat 5 < 5 := by decide
        have hP := ih.2 pa no h2 h3 (by omega)
        have unf : ∀ s4, (F_RD Z d).2 (Int32.ofNat pa) (Int32.ofNat no) s = some (0, s4) → F_X3_readLevel Z (F_RD Z d).1 (F_RD Z d).2 (Int32.ofNat 5) (Int32.ofNat pa) (Int32.ofNat no) s = some (0, s4) := fun s4 h => by
          unfold F_X3_readLevel
          rw [if_neg c5, h, mCall_some]
        rcases hP 0 s t f st nx cs B ps hB (by omega) hf with ⟨s', t', q, q1, q2, q3, q4, q5, q6⟩ | ⟨s', t', f', st', nx', w, q1, q2, q3, q4, q5, q6, q7⟩
        · exact Or.inl ⟨s', t', q, q1, unf s' q2, q3, q4, q5, q6⟩
        · right
          have e0 : (cs ++ w) ++ List.replicate 0 (-10) = cs ++ w := by simp
          rw [e0] at q5
          exact ⟨s', t', f', st', nx', w, [], cs ++ w, unf s' q1, by rw [q2, hcb], q3, q4, q5, by simp, q6, fun x h => by simp at h, fun c _ hc => Or.inl (by omega), by rw [q7 pa (Nat.le_refl pa)]; exact fl, fun _ => q7 pa (Nat.le_refl pa), fun j hj => q7 j (by omega)⟩
    · show PV Z σ τ n b key pa no (F_X3_readPiece Z (F_RD Z d).1 (F_RD Z d).2 (Int32.ofNat pa) (Int32.ofNat no))
      exact piece_L hk h1 h2 (fun h => ih.2 pa (no + 1) h1 (by omega) (by omega)) (fun h => ih.1 0 (pa + 1) no (by omega) (by omega) h2 (by omega))
end
