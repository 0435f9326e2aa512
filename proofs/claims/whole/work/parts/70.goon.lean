section
variable {Z : List gH}
/-- what the class's reading may change -/
def RDF (s s2 : gS) : Prop := (∀ c, c ≠ 36 → s2 c = s c) ∧ ∀ k, k < 5 ∨ 7 < k → s2 36 k = s 36 k
theorem RDF.rf {t : gS} : RDF t t := ⟨fun _ _ => rfl, fun _ _ => rfl⟩
theorem RDF.put {t t2 : gS} (h : RDF t t2) {k : Nat} {v : Int32} (h1 : 5 ≤ k) (h2 : k ≤ 7) : RDF t (gu t2 36 k v) := ⟨fun c hc => by rw [gu_ne _ _ _ hc]; exact h.1 c hc, fun j hj => by rw [gu_off _ _ (Or.inr (by omega))]; exact h.2 j hj⟩
theorem TAPE.rd {s s2 t : gS} {n : Nat} {b : Nat → Nat} (tp : TAPE s t n b) (h : RDF s s2) : TAPE s2 t n b := by
  obtain ⟨a1, a2, a3, a4⟩ := tp
  exact ⟨a1, by rw [h.1 34 (by decide)]; exact a2, a3, by rw [h.1 35 (by decide)]; exact a4⟩
/-- what stands here: start st, next nx -/
def TKN (s t : gS) (n : Nat) (b : Nat → Nat) (st nx : Nat) : Prop :=
  (st = n ∧ nx = st ∧ s 36 5 = -1 ∧ t 65 13 = 0) ∨
  (st < nx ∧ s 36 5 = -2 ∧ t 65 13 = 1 ∧ t 65 14 = Int32.ofNat (b st) ∧ t 65 15 = Int32.ofNat nx ∧ 97 ≤ b st ∧ b st ≤ 122) ∨
  (st < nx ∧ s 36 5 = -3 ∧ t 65 15 = Int32.ofNat nx ∧ (∀ k, st ≤ k → k < nx → 48 ≤ b k ∧ b k ≤ 57) ∧ ((nx - st ≤ 4 ∧ t 65 13 = 2 ∧ t 65 14 = Int32.ofNat (dv b st (nx - st))) ∨ (4 < nx - st ∧ t 65 13 = 4))) ∨
  (st < nx ∧ s 36 5 = -4 ∧ t 65 13 = 4) ∨
  (st + 1 = nx ∧ s 36 5 = Int32.ofNat (b st) ∧ b st ≤ 255 ∧ t 65 13 = 3 ∧ t 65 14 = Int32.ofNat (b st) ∧ (t 65 15 = -1 ∨ ∃ e, e ≤ st ∧ t 65 15 = Int32.ofNat e))
def TOK (s t : gS) (n : Nat) (b : Nat → Nat) (st nx : Nat) : Prop := TAPE s t n b ∧ s 36 6 = Int32.ofNat st ∧ s 36 7 = Int32.ofNat nx ∧ t 65 11 = Int32.ofNat nx ∧ t 65 12 = Int32.ofNat st ∧ nx ≤ n ∧ TKN s t n b st nx
/-- ahead of reading on, at p -/
def PRE (s t : gS) (n : Nat) (b : Nat → Nat) (p : Nat) : Prop := TAPE s t n b ∧ s 36 7 = Int32.ofNat p ∧ t 65 11 = Int32.ofNat p ∧ p ≤ n ∧ (((s 36 5 = -2 ∨ s 36 5 = -3) ∧ t 65 15 = Int32.ofNat p) ∨ (¬ s 36 5 = -2 ∧ ¬ s 36 5 = -3 ∧ (t 65 15 = -1 ∨ ∃ e, e < p ∧ t 65 15 = Int32.ofNat e)))
theorem neg_ne (k : Nat) (hk : k < 2 ^ 31) : ¬ Int32.ofNat k = -1 ∧ ¬ Int32.ofNat k = -2 ∧ ¬ Int32.ofNat k = -3 ∧ ¬ Int32.ofNat k = -4 ∧ ¬ Int32.ofNat k = -5 := by
  refine ⟨?_, ?_, ?_, ?_, ?_⟩ <;> exact fun e => lt0k hk (by rw [e]; decide)
/-- the class, from the first byte on -/
theorem goJ87 {s t : gS} {n st : Nat} {b : Nat → Nat} {w : Int32} (tp : TAPE s t n b) (h6 : s 36 6 = Int32.ofNat st) (hst : st < n) : ∃ s2 nx tk, F_X3_goOn_J87 Z w s = some (0, s2) ∧ RDF s s2 ∧ s2 36 6 = Int32.ofNat st ∧ s2 36 7 = Int32.ofNat nx ∧ s2 36 5 = tk ∧ ((97 ≤ b st ∧ b st ≤ 122 ∧ ROW b n st nx 97 122 ∧ tk = (if w = 0 then -2 else -4)) ∨ (48 ≤ b st ∧ b st ≤ 57 ∧ ROW b n st nx 48 57 ∧ tk = (if w = 0 then -3 else -4)) ∨ (¬ (97 ≤ b st ∧ b st ≤ 122) ∧ ¬ (48 ≤ b st ∧ b st ≤ 57) ∧ nx = st + 1 ∧ tk = Int32.ofNat (b st))) := by
  have hn := tp.1
  have eb := tp.2.2.2 st hst
  have w1 : wi (Int32.ofNat (b st)) 97 122 = if 97 ≤ b st ∧ b st ≤ 122 then 1 else 0 := wi_k (a := 97) (c := 122) (by omega) (by decide) (by decide)
  have w2 : wi (Int32.ofNat (b st)) 48 57 = if 48 ≤ b st ∧ b st ≤ 57 then 1 else 0 := wi_k (a := 48) (c := 57) (by omega) (by decide) (by decide)
  unfold F_X3_goOn_J87
  simp only [x9_within, mCall_some, mLet_eq]
  rw [h6, mInk (k := st) (by omega) (by decide), nnk (k := st) (by omega), eb.1, w1, w2]
  have key : ∀ (v : Int32) (lo hi : Nat), lo < 2 ^ 31 → hi < 2 ^ 31 → ∃ nx, ROW b n st nx lo hi ∧ ∃ s2, mCall (F_X3_endOfRow Z (gu s 36 5 v 36 6) (Int32.ofNat lo) (Int32.ofNat hi) (gu s 36 5 v)) (fun r s10 => some ((0 : Int32), gu s10 36 7 r)) = some (0, s2) ∧ RDF s s2 ∧ s2 36 6 = Int32.ofNat st ∧ s2 36 7 = Int32.ofNat nx ∧ s2 36 5 = v := fun v lo hi hlo hhi => by
    have f1 : RDF s (gu s 36 5 v) := RDF.rf.put (by omega) (by omega)
    obtain ⟨nx, r1, r2⟩ := row_eq (Z := Z) (tp.rd f1) (p := st) hlo hhi (by omega)
    refine ⟨nx, r1, gu (gu s 36 5 v) 36 7 (Int32.ofNat nx), ?_, f1.put (by omega) (by omega), ?_, gu_self _ _ _ _, ?_⟩
    · rw [gu_off _ _ (Or.inr (by decide)), h6, r2, mCall_some]
    · rw [gu_off _ _ (Or.inr (by decide)), gu_off _ _ (Or.inr (by decide)), h6]
    · rw [gu_off _ _ (Or.inr (by decide)), gu_self]
  by_cases c1 : 97 ≤ b st ∧ b st ≤ 122
  · rw [if_pos c1, if10]
    by_cases cw : w = 0
    · obtain ⟨nx, r1, s2, r2, r3, r4, r5, r6⟩ := key (-2) 97 122 (by decide) (by decide)
      rw [if_pos cw]
      exact ⟨s2, nx, -2, r2, r3, r4, r5, r6, Or.inl ⟨c1.1, c1.2, r1, (if_pos cw).symm⟩⟩
    · obtain ⟨nx, r1, s2, r2, r3, r4, r5, r6⟩ := key (-4) 97 122 (by decide) (by decide)
      rw [if_neg cw]
      exact ⟨s2, nx, -4, r2, r3, r4, r5, r6, Or.inl ⟨c1.1, c1.2, r1, (if_neg cw).symm⟩⟩
  · rw [if_neg c1, if00]
    by_cases c2 : 48 ≤ b st ∧ b st ≤ 57
    · rw [if_pos c2, if10]
      by_cases cw : w = 0
      · obtain ⟨nx, r1, s2, r2, r3, r4, r5, r6⟩ := key (-3) 48 57 (by decide) (by decide)
        rw [if_pos cw]
        exact ⟨s2, nx, -3, r2, r3, r4, r5, r6, Or.inr (Or.inl ⟨c2.1, c2.2, r1, (if_pos cw).symm⟩)⟩
      · obtain ⟨nx, r1, s2, r2, r3, r4, r5, r6⟩ := key (-4) 48 57 (by decide) (by decide)
        rw [if_neg cw]
        exact ⟨s2, nx, -4, r2, r3, r4, r5, r6, Or.inr (Or.inl ⟨c2.1, c2.2, r1, (if_neg cw).symm⟩)⟩
    · have es : Int32.ofNat st + 1 = Int32.ofNat (st + 1) := addk st 1
      rw [if_neg c2, if00, gu_off _ _ (Or.inr (by decide)), h6, es]
      refine ⟨_, st + 1, Int32.ofNat (b st), rfl, (RDF.rf.put (by omega) (by omega)).put (by omega) (by omega), ?_, gu_self _ _ _ _, ?_, Or.inr (Or.inr ⟨c1, c2, rfl, rfl⟩)⟩
      · rw [gu_off _ _ (Or.inr (by decide)), gu_off _ _ (Or.inr (by decide)), h6]
      · rw [gu_off _ _ (Or.inr (by decide)), gu_self]
def GCP (s : gS) (n p : Nat) (b : Nat → Nat) (s2 : gS) (st nx : Nat) : Prop := RDF s s2 ∧ s2 36 6 = Int32.ofNat st ∧ s2 36 7 = Int32.ofNat nx ∧ ROW b n p st 32 32 ∧ ((st = n ∧ nx = st ∧ s2 36 5 = -1) ∨ (st < n ∧ ∃ w : Int32, (w = if (s 36 5 = -2 ∨ s 36 5 = -3) ∧ st = p then 1 else 0) ∧ ((97 ≤ b st ∧ b st ≤ 122 ∧ ROW b n st nx 97 122 ∧ s2 36 5 = (if w = 0 then -2 else -4)) ∨ (48 ≤ b st ∧ b st ≤ 57 ∧ ROW b n st nx 48 57 ∧ s2 36 5 = (if w = 0 then -3 else -4)) ∨ (¬ (97 ≤ b st ∧ b st ≤ 122) ∧ ¬ (48 ≤ b st ∧ b st ≤ 57) ∧ nx = st + 1 ∧ s2 36 5 = Int32.ofNat (b st)))))
theorem goC {s t : gS} {n p : Nat} {b : Nat → Nat} (tp : TAPE s t n b) (h7 : s 36 7 = Int32.ofNat p) (hp : p ≤ n) : ∃ s2 st nx, F_X3_goOn Z s = some (0, s2) ∧ GCP s n p b s2 st nx := by
  have hn := tp.1
  obtain ⟨st, r1, r2⟩ := row_eq (Z := Z) tp (p := p) (lo := 32) (hi := 32) (by decide) (by decide) hp
  have r2 : F_X3_endOfRow Z (Int32.ofNat p) 32 32 s = some (Int32.ofNat st, s) := r2
  have f1 : RDF s (gu s 36 6 (Int32.ofNat st)) := RDF.rf.put (by omega) (by omega)
  have tp1 := tp.rd f1
  have l1 := r1.2.1
  -- with the word behind
  have key : ∀ (w0 : Int32), (w0 = if s 36 5 = -2 ∨ s 36 5 = -3 then 1 else 0) → F_X3_goOn Z s = F_X3_goOn_J23 Z w0 s → ∃ s2 st nx, F_X3_goOn Z s = some (0, s2) ∧ GCP s n p b s2 st nx := by
    intro w0 hw0 e0
    rw [e0]
    unfold F_X3_goOn_J23
    simp only [mLet_eq]
    rw [h7, r2, mCall_some, gu_self, tp1.2.1]
    by_cases c : st < n
    · rw [if_pos ((ltk (by omega) (by omega)).mpr c)]
      have fin : ∀ w : Int32, (w = if (s 36 5 = -2 ∨ s 36 5 = -3) ∧ st = p then 1 else 0) → ∃ s2 z nx, F_X3_goOn_J87 Z w (gu s 36 6 (Int32.ofNat st)) = some (0, s2) ∧ GCP s n p b s2 z nx := fun w hw => by
        obtain ⟨s2, nx, tk, a1, a2, a3, a4, a5, a6⟩ := goJ87 (Z := Z) (w := w) tp1 (gu_self _ _ _ _) c
        subst a5
        exact ⟨s2, st, nx, a1, ⟨fun c hc => (a2.1 c hc).trans (f1.1 c hc), fun k hk => (a2.2 k hk).trans (f1.2 k hk)⟩, a3, a4, r1, Or.inr ⟨c, w, hw, a6⟩⟩
      by_cases cb : s 36 5 = -2 ∨ s 36 5 = -3
      · rw [if_pos cb] at hw0
        rw [hw0, if10]
        by_cases cp : st = p
        · rw [if_pos (by rw [cp])]
          exact fin 1 (if_pos ⟨cb, cp⟩).symm
        · rw [if_neg (fun q => cp ((eqk (by omega) (by omega)).mp q))]
          exact fin 0 (if_neg (fun q => cp q.2)).symm
      · rw [if_neg cb] at hw0
        rw [hw0, if00]
        exact fin 0 (if_neg (fun q => cb q.1)).symm
    · obtain rfl : st = n := by omega
      rw [if_neg (fun q => c ((ltk (by omega) (by omega)).mp q)), gu_off _ _ (Or.inr (by decide)), gu_self]
      refine ⟨_, st, st, rfl, (f1.put (by omega) (by omega)).put (by omega) (by omega), ?_, gu_self _ _ _ _, r1, Or.inl ⟨rfl, rfl, ?_⟩⟩
      · rw [gu_off _ _ (Or.inr (by decide)), gu_off _ _ (Or.inr (by decide)), gu_self]
      · rw [gu_off _ _ (Or.inr (by decide)), gu_self]
  by_cases c2 : s 36 5 = -2
  · refine key 1 (if_pos (Or.inl c2)).symm ?_
    unfold F_X3_goOn; rw [if_pos c2]
  · by_cases c3 : s 36 5 = -3
    · refine key 1 (if_pos (Or.inr c3)).symm ?_
      unfold F_X3_goOn; rw [if_neg c2, if_pos c3]
    · refine key 0 (if_neg (fun q => q.elim c2 c3)).symm ?_
      unfold F_X3_goOn; rw [if_neg c2, if_neg c3]
/-- both read on -/
theorem go_eq {s t : gS} {n p : Nat} {b : Nat → Nat} (pr : PRE s t n b p) : ∃ s2 t2 st nx, F_X3_goOn Z s = some (0, s2) ∧ F_X10_go Z t = some (0, t2) ∧ RDF s s2 ∧ GO t t2 ∧ p ≤ st ∧ TOK s2 t2 n b st nx := by
  obtain ⟨tp, h7, h11, hp, bw⟩ := pr
  have hn := tp.1
  have m5 : mFuel = 5000 := rfl
  obtain ⟨s2, st, nx, a1, a2, a3, a4, ⟨b1, b2, b3, b4⟩, a6⟩ := goC (Z := Z) tp h7 hp
  obtain ⟨t1, c1, c2, c3, c4⟩ := blank_L (Z := Z) t tp b2 b4 (mFuel + 1) p t GO.rf h11 (fun _ _ => rfl) b1 (by omega) b3
  have c1 : F_X10_go Z t = F_X10_go_J38 Z t1 := c1
  rw [c1]
  unfold F_X10_go_J38
  rw [mLet_eq, c3, gu_self, gu_off _ _ (Or.inr (by decide)), c4 15 (by omega)]
  have g1 : GO t (gu t1 65 12 (Int32.ofNat st)) := c2.put (by omega) (by omega)
  have tp1 := tp.go g1
  have tight : ∃ w : Int32, (if Int32.ofNat st = t 65 15 then F_X10_go_J62 Z 1 (gu t1 65 12 (Int32.ofNat st)) else F_X10_go_J62 Z 0 (gu t1 65 12 (Int32.ofNat st))) = F_X10_go_J62 Z w (gu t1 65 12 (Int32.ofNat st)) ∧ w = if (s 36 5 = -2 ∨ s 36 5 = -3) ∧ st = p then 1 else 0 := by
    rcases bw with ⟨q1, q2⟩ | ⟨q1, q2, q3⟩
    · rw [q2]
      by_cases e : st = p
      · exact ⟨1, by rw [if_pos (by rw [e])], (if_pos ⟨q1, e⟩).symm⟩
      · exact ⟨0, by rw [if_neg (fun q => e ((eqk (by omega) (by omega)).mp q))], (if_neg (fun q => e q.2)).symm⟩
    · refine ⟨0, ?_, (if_neg (fun q => q.1.elim q1 q2)).symm⟩
      rcases q3 with q3 | ⟨e, q3, q4⟩
      · rw [q3, if_neg (neg_ne st (by omega)).1]
      · rw [q4, if_neg (fun q => by have := (eqk (by omega) (by omega)).mp q; omega)]
  obtain ⟨w, w1, w2⟩ := tight
  have e12 : gu t1 65 12 (Int32.ofNat st) 65 12 = Int32.ofNat st := gu_self _ _ _ _
  have e11 : gu t1 65 12 (Int32.ofNat st) 65 11 = Int32.ofNat st := by rw [gu_off _ _ (Or.inr (by decide))]; exact c3
  have e15 : gu t1 65 12 (Int32.ofNat st) 65 15 = t 65 15 := by rw [gu_off _ _ (Or.inr (by decide))]; exact c4 15 (by omega)
  rw [w1]
  unfold F_X10_go_J62
  rw [e12, tp1.2.2.1]
  rcases a6 with ⟨rfl, rfl, a7⟩ | ⟨a7, w', a8, a9⟩
  · rw [if_pos rfl, mLet_eq]
    have g2 : GO t (gu (gu t1 65 12 (Int32.ofNat nx)) 65 13 0) := g1.put (by omega) (by omega)
    refine ⟨s2, _, nx, nx, a1, rfl, a2, g2, b1, (tp.rd a2).go g2, a3, a4, ?_, ?_, Nat.le_refl nx, Or.inl ⟨rfl, rfl, a7, gu_self _ _ _ _⟩⟩
    · rw [gu_off _ _ (Or.inr (by decide)), e11]
    · rw [gu_off _ _ (Or.inr (by decide)), e12]
  · rw [← w2] at a8
    subst a8
    rw [if_neg (fun q => by have := (eqk (by omega) (by omega)).mp q; omega), letter_k tp1 (by omega), mCall_some]
    rcases a9 with ⟨q1, q2, ⟨r1, r2, r3, r4⟩, q4⟩ | ⟨q1, q2, ⟨r1, r2, r3, r4⟩, q4⟩ | ⟨q1, q2, rfl, q4⟩
    · rw [show (if st < n ∧ 97 ≤ b st ∧ b st ≤ 122 then (1 : Int32) else 0) = 1 from if_pos ⟨a7, q1, q2⟩, if10]
      obtain ⟨t2, d1, d2, d3, d4, d5, d6, d7⟩ := let_L (Z := Z) (w := w') (gu t1 65 12 (Int32.ofNat st)) tp1 e12 a7 r2 r4 mFuel st _ GO.rf e11 rfl r1 (by omega) r3
      have g2 : GO t t2 := ⟨fun c hc => (d2.1 c hc).trans (g1.1 c hc), fun k hk => (d2.2 k hk).trans (g1.2 k hk)⟩
      have lt : st < nx := by
        rcases Nat.lt_or_ge st nx with l | l
        · exact l
        · exfalso
          obtain rfl : nx = st := by omega
          rcases r4 with r4 | r4
          · omega
          · exact r4 ⟨q1, q2⟩
      refine ⟨s2, t2, st, nx, a1, d1, a2, g2, b1, (tp.rd a2).go g2, a3, a4, d3, d4, r2, ?_⟩
      by_cases cw : w' = 0
      · rw [if_pos cw] at q4 d5
        exact Or.inr (Or.inl ⟨lt, q4, d5, d6, d7, q1, q2⟩)
      · rw [if_neg cw] at q4 d5
        exact Or.inr (Or.inr (Or.inr (Or.inl ⟨lt, q4, d5⟩)))
    · rw [show (if st < n ∧ 97 ≤ b st ∧ b st ≤ 122 then (1 : Int32) else 0) = 0 from if_neg (by omega), if00, e12, figure_k tp1 (by omega), mCall_some, show (if st < n ∧ 48 ≤ b st ∧ b st ≤ 57 then (1 : Int32) else 0) = 1 from if_pos ⟨a7, q1, q2⟩, if10, mLet_eq]
      have g14 : GO (gu t1 65 12 (Int32.ofNat st)) (gu (gu t1 65 12 (Int32.ofNat st)) 65 14 0) := GO.rf.put (by omega) (by omega)
      obtain ⟨t2, d1, d2, d3, d4, d5, d6, d7⟩ := fig_L (Z := Z) (w := w') (st := st) (gu t1 65 12 (Int32.ofNat st)) tp1 e12 r2 r4 r3 mFuel st _ g14 (by rw [gu_off _ _ (Or.inr (by decide))]; exact e11) (by rw [gu_off _ _ (Or.inr (by decide))]) (by rw [gu_self, show min 4 (st - st) = 0 by omega]; rfl) (Nat.le_refl st) r1 (by omega)
      have g2 : GO t t2 := ⟨fun c hc => (d2.1 c hc).trans (g1.1 c hc), fun k hk => (d2.2 k hk).trans (g1.2 k hk)⟩
      have lt : st < nx := by
        rcases Nat.lt_or_ge st nx with l | l
        · exact l
        · exfalso
          obtain rfl : nx = st := by omega
          rcases r4 with r4 | r4
          · omega
          · exact r4 ⟨q1, q2⟩
      refine ⟨s2, t2, st, nx, a1, d1, a2, g2, b1, (tp.rd a2).go g2, a3, a4, d3, d4, r2, ?_⟩
      by_cases cw : w' = 0
      · rw [if_pos cw] at q4 d5
        by_cases c4 : nx - st ≤ 4
        · rw [if_pos c4] at d5
          rw [show min 4 (nx - st) = nx - st by omega] at d6
          exact Or.inr (Or.inr (Or.inl ⟨lt, q4, d7, r3, Or.inl ⟨c4, d5, d6⟩⟩))
        · rw [if_neg c4] at d5
          exact Or.inr (Or.inr (Or.inl ⟨lt, q4, d7, r3, Or.inr ⟨by omega, d5⟩⟩))
      · rw [if_neg cw] at q4 d5
        exact Or.inr (Or.inr (Or.inr (Or.inl ⟨lt, q4, d5⟩)))
    · have es : Int32.ofNat st + 1 = Int32.ofNat (st + 1) := addk st 1
      have eb := tp1.2.2.2 st a7
      rw [show (if st < n ∧ 97 ≤ b st ∧ b st ≤ 122 then (1 : Int32) else 0) = 0 from if_neg (fun q => q1 q.2), if00, e12, figure_k tp1 (by omega), mCall_some, show (if st < n ∧ 48 ≤ b st ∧ b st ≤ 57 then (1 : Int32) else 0) = 0 from if_neg (fun q => q2 q.2), if00, mLet_eq, gu_off (gu t1 65 12 (Int32.ofNat st)) _ (Or.inr (by decide)), e12, mInk (k := st) (by omega) (by decide), nnk (k := st) (by omega), gu_ne (gu t1 65 12 (Int32.ofNat st)) _ _ (show 73 ≠ 65 by decide), eb.2.1, mLet_eq, mLet_eq, gu_off _ _ (Or.inr (by decide)), gu_off (gu t1 65 12 (Int32.ofNat st)) _ (Or.inr (by decide)), e11, es]
      have g2 : GO t (gu (gu (gu (gu t1 65 12 (Int32.ofNat st)) 65 13 3) 65 14 (Int32.ofNat (b st))) 65 11 (Int32.ofNat (st + 1))) := ((g1.put (by omega) (by omega)).put (by omega) (by omega)).put (by omega) (by omega)
      refine ⟨s2, _, st, st + 1, a1, rfl, a2, g2, b1, (tp.rd a2).go g2, a3, a4, gu_self _ _ _ _, ?_, by omega, Or.inr (Or.inr (Or.inr (Or.inr ⟨rfl, q4, eb.2.2, ?_, ?_, ?_⟩)))⟩
      · rw [gu_off _ _ (Or.inr (by decide)), gu_off _ _ (Or.inr (by decide)), gu_off _ _ (Or.inr (by decide)), e12]
      · rw [gu_off _ _ (Or.inr (by decide)), gu_off _ _ (Or.inr (by decide)), gu_self]
      · rw [gu_off _ _ (Or.inr (by decide)), gu_self]
      · rw [gu_off _ _ (Or.inr (by decide)), gu_off _ _ (Or.inr (by decide)), gu_off _ _ (Or.inr (by decide)), e15]
        rcases bw with ⟨-, q⟩ | ⟨-, -, q⟩
        · exact Or.inr ⟨p, b1, q⟩
        · rcases q with q | ⟨e, l, q⟩
          · exact Or.inl q
          · exact Or.inr ⟨e, by omega, q⟩
end
