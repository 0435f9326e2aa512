/-! ===== signs, steps, and where both are in a text ===== -/
def qc (c : Nat) : Nat := if c = 124 then 1 else if c = 38 then 2 else if c = 60 then 3 else if c = 61 then 4 else if c = 62 then 5 else if c = 43 then 6 else if c = 45 then 7 else if c = 42 then 8 else if c = 47 then 9 else 0
def lvc (c : Nat) : Nat := if c = 124 then 0 else if c = 38 then 1 else if c = 60 ∨ c = 61 ∨ c = 62 then 2 else if c = 43 ∨ c = 45 then 3 else if c = 42 ∨ c = 47 then 4 else 9
def sgc (c : Nat) : Int32 := -Int32.ofNat (qc c)
theorem sg_all : ∀ c, c < 256 → (lvc c ≤ 4 ∧ rk (sgc c) = lvc c + 1 ∧ ¬ sgc c = 0 ∧ ¬ sgc c = -11 ∧ ¬ sgc c = -10 ∧ ce (sgc c) = -(Int32.ofNat c) ∧ 1 ≤ qc c ∧ qc c ≤ 9 ∧ ¬ c = 41 ∧ ¬ c = 33 ∧ ¬ c = 40) ∨ (lvc c = 9 ∧ sgc c = 0) := by decide +kernel
def dstep (nm : Nat) (x : Int32) (a c : Nat) : Prop := ((∃ q, q < 10000 + nm ∧ x = Int32.ofNat q) ∧ c = a + 1) ∨ (x = -10 ∧ 1 ≤ a ∧ c = a) ∨ ((∃ q, 1 ≤ q ∧ q ≤ 9 ∧ x = -Int32.ofNat q) ∧ 2 ≤ a ∧ c + 1 = a)
def dl (nm : Nat) : List Int32 → Nat → Nat → Prop
  | [], a, c => c = a
  | x :: l, a, c => ∃ m, dstep nm x a m ∧ dl nm l m c
theorem dl_app {nm : Nat} {l2 : List Int32} {m c : Nat} : ∀ (l1 : List Int32) (a : Nat), dl nm l1 a m → dl nm l2 m c → dl nm (l1 ++ l2) a c := by
  intro l1
  induction l1 with
  | nil => intro a h1 h2; have h1 : m = a := h1; rw [← h1]; exact h2
  | cons x l1 ih =>
    intro a h1 h2
    obtain ⟨k, k1, k2⟩ := h1
    exact ⟨k, k1, ih k k2 h2⟩
/-- a row of steps that is worth one number -/
def EX (nm : Nat) (w : List Int32) : Prop := ∀ a, dl nm w a (a + 1)
theorem EX.op {nm q : Nat} (h : q < 10000 + nm) : EX nm [Int32.ofNat q] := fun a => ⟨a + 1, Or.inl ⟨⟨q, h, rfl⟩, rfl⟩, rfl⟩
theorem EX.not {nm : Nat} {w : List Int32} (h : EX nm w) : EX nm (w ++ [-10]) := fun a => dl_app w a (h a) ⟨a + 1, Or.inr (Or.inl ⟨rfl, by omega, rfl⟩), rfl⟩
theorem EX.bin {nm q : Nat} {w v : List Int32} (h : EX nm w) (h2 : EX nm v) (h3 : 1 ≤ q) (h4 : q ≤ 9) : EX nm (w ++ (v ++ [-Int32.ofNat q])) := fun a => dl_app w a (h a) (dl_app v (a + 1) (h2 (a + 1)) ⟨a + 1, Or.inr (Or.inr ⟨⟨q, h3, h4, rfl⟩, by omega, by omega⟩), rfl⟩)
theorem dl_fun {nm : Nat} : ∀ (l : List Int32) (a c : Nat), dl nm l a c → ∃ d : Nat → Nat, d 0 = a ∧ d l.length = c ∧ ∀ k, k < l.length → dstep nm (l.getD k 0) (d k) (d (k + 1)) := by
  intro l
  induction l with
  | nil => intro a c h; exact ⟨fun _ => a, rfl, (show c = a from h).symm, fun k hk => absurd hk (Nat.not_lt_zero k)⟩
  | cons x l ih =>
    intro a c h
    obtain ⟨m, m1, m2⟩ := h
    obtain ⟨d, d1, d2, d3⟩ := ih m c m2
    refine ⟨fun k => match k with | 0 => a | k + 1 => d k, rfl, d2, fun k hk => ?_⟩
    cases k with
    | zero => show dstep nm x a (d 0); rw [d1]; exact m1
    | succ k => exact d3 k (by simp at hk; omega)
theorem EX.wf {nm : Nat} {w : List Int32} (h : EX nm w) {co : Nat → Int32} (e : ∀ k, k < w.length → co k = w.getD k 0) : WF w.length nm co := by
  obtain ⟨d, d1, d2, d3⟩ := dl_fun w 0 1 (h 0)
  refine ⟨d, d1, d2, fun k hk => ?_⟩
  rw [e k hk]
  exact d3 k hk
section
variable {Z : List gH}
theorem sign_at {s : gS} {c l : Nat} (hc : c ≤ 255) (hl : l ≤ 4) (e : s 36 5 = Int32.ofNat c) : F_X3_isSignOf Z (Int32.ofNat l) s = some (if lvc c = l then 1 else 0, s) := by
  have q : ∀ {k : Nat}, k < 2 ^ 31 → (Int32.ofNat c = Int32.ofNat k ↔ c = k) := fun hk => eqk (by omega) hk
  have q124 : Int32.ofNat c = 124 ↔ c = 124 := q (by decide)
  have q38 : Int32.ofNat c = 38 ↔ c = 38 := q (by decide)
  have q60 : Int32.ofNat c = 60 ↔ c = 60 := q (by decide)
  have q61 : Int32.ofNat c = 61 ↔ c = 61 := q (by decide)
  have q62 : Int32.ofNat c = 62 ↔ c = 62 := q (by decide)
  have q43 : Int32.ofNat c = 43 ↔ c = 43 := q (by decide)
  have q45 : Int32.ofNat c = 45 ↔ c = 45 := q (by decide)
  have q42 : Int32.ofNat c = 42 ↔ c = 42 := q (by decide)
  have q47 : Int32.ofNat c = 47 ↔ c = 47 := q (by decide)
  unfold F_X3_isSignOf
  rw [e]
  simp only [q124, q38, q60, q61, q62, q43, q45, q42, q47]
  unfold lvc
  rcases (show l = 0 ∨ l = 1 ∨ l = 2 ∨ l = 3 ∨ l = 4 by omega) with rfl | rfl | rfl | rfl | rfl
  · rw [if_pos (by decide)]
    by_cases h : c = 124
    · subst h; rfl
    · rw [if_neg h, if_neg h]; repeat' split
      all_goals first | rfl | omega
  · rw [if_neg (by decide), if_pos (by decide)]
    by_cases h : c = 38
    · subst h; rfl
    · rw [if_neg h]; repeat' split
      all_goals first | rfl | omega
  · rw [if_neg (by decide), if_neg (by decide), if_pos (by decide)]
    by_cases h : c = 60 ∨ c = 61 ∨ c = 62
    · rcases h with rfl | rfl | rfl <;> rfl
    · rw [if_neg (by omega), if_neg (by omega), if_neg (by omega)]; repeat' split
      all_goals first | rfl | omega
  · rw [if_neg (by decide), if_neg (by decide), if_neg (by decide), if_pos (by decide)]
    by_cases h : c = 43 ∨ c = 45
    · rcases h with rfl | rfl <;> rfl
    · rw [if_neg (by omega), if_neg (by omega)]; repeat' split
      all_goals first | rfl | omega
  · rw [if_neg (by decide), if_neg (by decide), if_neg (by decide), if_neg (by decide), if_pos (by decide)]
    by_cases h : c = 42 ∨ c = 47
    · rcases h with rfl | rfl <;> rfl
    · rw [if_neg (by omega), if_neg (by omega)]; repeat' split
      all_goals first | rfl | omega
theorem sign_no {s : gS} {l : Nat} (hl : l ≤ 4) (e : s 36 5 = -1 ∨ s 36 5 = -2 ∨ s 36 5 = -3 ∨ s 36 5 = -4 ∨ s 36 5 = -5) : F_X3_isSignOf Z (Int32.ofNat l) s = some (0, s) := by
  unfold F_X3_isSignOf
  rcases (show l = 0 ∨ l = 1 ∨ l = 2 ∨ l = 3 ∨ l = 4 by omega) with rfl | rfl | rfl | rfl | rfl <;> rcases e with e | e | e | e | e <;> rw [e] <;> rfl
theorem here_eq {t : gS} {c : Nat} (hc : c ≤ 255) (e1 : t 65 13 = 3) (e2 : t 65 14 = Int32.ofNat c) : F_X10_signHere Z t = some (sgc c, t) := by
  have q : ∀ {k : Nat}, k < 2 ^ 31 → (Int32.ofNat c = Int32.ofNat k ↔ c = k) := fun hk => eqk (by omega) hk
  have q124 : Int32.ofNat c = 124 ↔ c = 124 := q (by decide)
  have q38 : Int32.ofNat c = 38 ↔ c = 38 := q (by decide)
  have q60 : Int32.ofNat c = 60 ↔ c = 60 := q (by decide)
  have q61 : Int32.ofNat c = 61 ↔ c = 61 := q (by decide)
  have q62 : Int32.ofNat c = 62 ↔ c = 62 := q (by decide)
  have q43 : Int32.ofNat c = 43 ↔ c = 43 := q (by decide)
  have q45 : Int32.ofNat c = 45 ↔ c = 45 := q (by decide)
  have q42 : Int32.ofNat c = 42 ↔ c = 42 := q (by decide)
  have q47 : Int32.ofNat c = 47 ↔ c = 47 := q (by decide)
  unfold F_X10_signHere
  rw [e1, if_pos rfl, mLet_eq, e2]
  simp only [q124, q38, q60, q61, q62, q43, q45, q42, q47]
  unfold sgc qc
  repeat' split
  all_goals first | rfl | omega
theorem here_no {t : gS} (e1 : ¬ t 65 13 = 3) : F_X10_signHere Z t = some (0, t) := by
  unfold F_X10_signHere; rw [if_neg e1]
/-- the class's steps, in the model's words -/
def CS (s : gS) (cs : List Int32) : Prop := s 36 2 = Int32.ofNat cs.length ∧ ∀ k, k < cs.length → s 37 k = ce (cs.getD k 0)
def CF (s s2 : gS) : Prop := (∀ c, c ≠ 36 → c ≠ 37 → s2 c = s c) ∧ ∀ k, k ≠ 2 → k ≠ 3 → s2 36 k = s 36 k
theorem CF.rf {s : gS} : CF s s := ⟨fun _ _ _ => rfl, fun _ _ _ => rfl⟩
theorem CF.trans {a b c : gS} (h1 : CF a b) (h2 : CF b c) : CF a c := ⟨fun x p q => (h2.1 x p q).trans (h1.1 x p q), fun k p q => (h2.2 k p q).trans (h1.2 k p q)⟩
theorem CS.add {s : gS} {cs : List Int32} (h : CS s cs) (x : Int32) (hl : cs.length < 96) : ∃ s2, F_X3_addStep Z (ce x) s = some (0, s2) ∧ CS s2 (cs ++ [x]) ∧ CF s s2 ∧ s2 36 3 = s 36 3 := by
  have e1 : Int32.ofNat cs.length + 1 = Int32.ofNat (cs.length + 1) := addk _ 1
  have n : ¬ (96 : Int32) ≤ Int32.ofNat cs.length := fun q => by have := (lek (a := 96) (by decide) (by omega)).mp q; omega
  refine ⟨gu (gu s 37 cs.length (ce x)) 36 2 (Int32.ofNat (cs.length + 1)), ?_, ⟨?_, fun k hk => ?_⟩, ⟨fun c p q => ?_, fun k p q => ?_⟩, ?_⟩
  · unfold F_X3_addStep
    rw [h.1, if_neg n, mInk (k := cs.length) hl (by decide), nnk (k := cs.length) (by omega), mLet_eq, mLet_eq, gu_ne _ _ _ (show 36 ≠ 37 by decide), h.1, e1]
  · rw [gu_self, List.length_append]; rfl
  · rw [gu_ne _ _ _ (by decide)]
    by_cases e : k = cs.length
    · subst e; rw [gu_self, getD_app2]
    · have : k < cs.length := by simp at hk; omega
      rw [gu_off _ _ (Or.inr e), getD_app1 _ _ this]; exact h.2 k this
  · rw [gu_ne _ _ _ p, gu_ne _ _ _ q]
  · rw [gu_off _ _ (Or.inr p), gu_ne _ _ _ (by decide)]
  · rw [gu_off _ _ (Or.inr (by decide)), gu_ne _ _ _ (by decide)]
/-- the class has stopped, at q -/
def SPD (σ s : gS) (q : Nat) : Prop := s 36 5 = -5 ∧ s 36 8 = Int32.ofNat q ∧ (∃ cm, cm ≤ 96 ∧ s 36 2 = Int32.ofNat cm) ∧ ∀ c, c ≠ 36 → c ≠ 37 → s c = σ c
theorem SPD.add {σ s : gS} {q : Nat} (h : SPD σ s q) (x : Int32) : ∃ s2, F_X3_addStep Z x s = some (0, s2) ∧ SPD σ s2 q := by
  obtain ⟨h1, h2, ⟨cm, c1, c2⟩, h4⟩ := h
  unfold F_X3_addStep
  rw [c2]
  by_cases l : 96 ≤ cm
  · have : (96 : Int32) ≤ Int32.ofNat cm := (lek (a := 96) (by decide) (by omega)).mpr l
    rw [if_pos this]
    exact ⟨s, rfl, h1, h2, ⟨cm, c1, c2⟩, h4⟩
  · have n : ¬ (96 : Int32) ≤ Int32.ofNat cm := fun q => l ((lek (a := 96) (by decide) (by omega)).mp q)
    have e1 : Int32.ofNat cm + 1 = Int32.ofNat (cm + 1) := addk _ 1
    rw [if_neg n, mInk (k := cm) (by omega) (by decide), nnk (k := cm) (by omega), mLet_eq, mLet_eq, gu_ne _ _ _ (show 36 ≠ 37 by decide), c2, e1]
    refine ⟨_, rfl, ?_, ?_, ⟨cm + 1, by omega, gu_self _ _ _ _⟩, fun c p q => ?_⟩
    · rw [gu_off _ _ (Or.inr (by decide)), gu_ne _ _ _ (by decide)]; exact h1
    · rw [gu_off _ _ (Or.inr (by decide)), gu_ne _ _ _ (by decide)]; exact h2
    · rw [gu_ne _ _ _ p, gu_ne _ _ _ q]; exact h4 c p q
theorem SPD.stop {σ s : gS} {q : Nat} (hq : q ≤ 96) (h : SPD σ s q) : ∃ s2, F_X3_stop Z s = some (0, s2) ∧ SPD σ s2 q := by
  obtain ⟨h1, h2, ⟨cm, c1, c2⟩, h4⟩ := h
  have p0 : 0 ≤ Int32.ofNat q := (lek (a := 0) (by decide) (by omega)).mpr (Nat.zero_le q)
  unfold F_X3_stop
  rw [h2, if_pos p0, mLet_eq]
  refine ⟨_, rfl, gu_self _ _ _ _, ?_, ⟨cm, c1, ?_⟩, fun c p q => ?_⟩
  · rw [gu_off _ _ (Or.inr (by decide))]; exact h2
  · rw [gu_off _ _ (Or.inr (by decide))]; exact c2
  · rw [gu_ne _ _ _ p]; exact h4 c p q
def FRM (τ t : gS) : Prop := (∀ c, c ≠ 65 → c ≠ 76 → c ≠ 77 → c ≠ 78 → t c = τ c) ∧ ∀ k, k < 11 ∨ 23 < k → t 65 k = τ 65 k
theorem FRM.mf {τ t t2 : gS} (h : FRM τ t) (m : MF2 t t2) : FRM τ t2 := ⟨fun c a b d e => (m.1 c a b d).trans (h.1 c a b d e), fun k hk => (m.2 k (by omega) (by omega) (by omega)).trans (h.2 k hk)⟩
theorem FRM.go {τ t t2 : gS} (h : FRM τ t) (m : GO t t2) : FRM τ t2 := ⟨fun c a b d e => (m.1 c a).trans (h.1 c a b d e), fun k hk => (m.2 k (by omega)).trans (h.2 k hk)⟩
theorem FRM.fl {τ t : gS} (h : FRM τ t) (k : Nat) (v : Int32) : FRM τ (gu t 78 k v) := ⟨fun c a b d e => by rw [gu_ne _ _ _ e]; exact h.1 c a b d e, fun j hj => by rw [gu_ne _ _ _ (by decide)]; exact h.2 j hj⟩
/-- where both are in a text -/
def PS (σ τ s t : gS) (n : Nat) (b : Nat → Nat) (key st nx : Nat) (cs out stk : List Int32) : Prop := TOK s t n b st nx ∧ CS s cs ∧ MS t out stk ∧ s 36 3 = t 65 21 ∧ s 36 4 = Int32.ofNat key ∧ t 65 16 = Int32.ofNat key ∧ s 36 8 = -1 ∧ out.length + stk.length + 3 ≤ st ∧ cs.length + 3 ≤ st ∧ (∀ c, c ≠ 36 → c ≠ 37 → s c = σ c) ∧ FRM τ t
theorem PS.stop {σ τ s t : gS} {n : Nat} {b : Nat → Nat} {key st nx : Nat} {cs out stk : List Int32} (h : PS σ τ s t n b key st nx cs out stk) (hst : st ≤ 96) : ∃ s2, F_X3_stop Z s = some (0, s2) ∧ SPD σ s2 st := by
  obtain ⟨tk, c1, -, -, -, -, e8, -, l, fr, -⟩ := h
  unfold F_X3_stop
  rw [e8, if_neg (by decide), mLet_eq, mLet_eq, tk.2.1]
  refine ⟨_, rfl, gu_self _ _ _ _, ?_, ⟨cs.length, by omega, ?_⟩, fun c p q => ?_⟩
  · rw [gu_off _ _ (Or.inr (by decide)), gu_self]
  · rw [gu_off _ _ (Or.inr (by decide)), gu_off _ _ (Or.inr (by decide))]; exact c1.1
  · rw [gu_ne _ _ _ p, gu_ne _ _ _ p]; exact fr c p q
/-- reading on, with what was done between -/
theorem PS.adv {σ τ s t s1 t1 : gS} {n : Nat} {b : Nat → Nat} {key st nx : Nat} {cs0 out0 stk0 cs out stk : List Int32} (h : PS σ τ s t n b key st nx cs0 out0 stk0) (ht : ¬ s 36 5 = -1 ∧ ¬ s 36 5 = -4) (cf : CF s s1) (mf : (∀ c, c ≠ 65 → c ≠ 76 → c ≠ 77 → c ≠ 78 → t1 c = t c) ∧ ∀ k, k ≠ 20 → k ≠ 21 → k ≠ 23 → t1 65 k = t 65 k) (c1 : CS s1 cs) (m1 : MS t1 out stk) (e3 : s1 36 3 = t1 65 21) (l1 : out.length + stk.length ≤ out0.length + stk0.length + 1) (l2 : cs.length ≤ cs0.length + 1) : st < nx ∧ ∃ s2 t2 st2 nx2, F_X3_goOn Z s1 = some (0, s2) ∧ F_X10_go Z t1 = some (0, t2) ∧ nx ≤ st2 ∧ PS σ τ s2 t2 n b key st2 nx2 cs out stk ∧ t2 78 = t1 78 := by
  obtain ⟨⟨tp, t6, t7, u11, u12, nxn, tkn⟩, -, -, -, k1, k2, e8, b1, b2, fr, fm⟩ := h
  have tp1 : TAPE s1 t1 n b := by
    obtain ⟨a1, a2, a3, a4⟩ := tp
    exact ⟨a1, by rw [cf.1 34 (by decide) (by decide)]; exact a2, by rw [mf.2 10 (by decide) (by decide) (by decide)]; exact a3, by rw [cf.1 35 (by decide) (by decide), mf.1 73 (by decide) (by decide) (by decide) (by decide)]; exact a4⟩
  have s5 : s1 36 5 = s 36 5 := cf.2 5 (by decide) (by decide)
  have t15 : t1 65 15 = t 65 15 := mf.2 15 (by decide) (by decide) (by decide)
  have pr : st < nx ∧ PRE s1 t1 n b nx := by
    have mk : (((s1 36 5 = -2 ∨ s1 36 5 = -3) ∧ t1 65 15 = Int32.ofNat nx) ∨ (¬ s1 36 5 = -2 ∧ ¬ s1 36 5 = -3 ∧ (t1 65 15 = -1 ∨ ∃ e, e < nx ∧ t1 65 15 = Int32.ofNat e))) → PRE s1 t1 n b nx := fun h => ⟨tp1, by rw [cf.2 7 (by decide) (by decide)]; exact t7, by rw [mf.2 11 (by decide) (by decide) (by decide)]; exact u11, nxn, h⟩
    rcases tkn with ⟨-, -, q, -⟩ | ⟨l, q, -, -, w, -⟩ | ⟨l, q, w, -⟩ | ⟨-, q, -⟩ | ⟨l, q, q2, -, -, w⟩
    · exact absurd q ht.1
    · exact ⟨l, mk (Or.inl ⟨Or.inl (by rw [s5]; exact q), by rw [t15]; exact w⟩)⟩
    · exact ⟨l, mk (Or.inl ⟨Or.inr (by rw [s5]; exact q), by rw [t15]; exact w⟩)⟩
    · exact absurd q ht.2
    · have nn := neg_ne (b st) (by omega)
      refine ⟨by omega, mk (Or.inr ⟨by rw [s5, q]; exact nn.2.1, by rw [s5, q]; exact nn.2.2.1, ?_⟩)⟩
      rw [t15]
      rcases w with w | ⟨e, w1, w2⟩
      · exact Or.inl w
      · exact Or.inr ⟨e, by omega, w2⟩
  refine ⟨pr.1, ?_⟩
  obtain ⟨s2, t2, st2, nx2, a1, a2, a3, a4, a5, a6⟩ := go_eq (Z := Z) pr.2
  have fm1 : FRM τ t1 := ⟨fun c p q r w => (mf.1 c p q r w).trans (fm.1 c p q r w), fun k hk => (mf.2 k (by omega) (by omega) (by omega)).trans (fm.2 k hk)⟩
  refine ⟨s2, t2, st2, nx2, a1, a2, a5, ⟨a6, ⟨by rw [a3.2 2 (by omega)]; exact c1.1, by rw [a3.1 37 (by decide)]; exact c1.2⟩, m1.fr (a4.2 20 (by omega)) (a4.2 23 (by omega)) (a4.1 76 (by decide)) (a4.1 77 (by decide)), by rw [a3.2 3 (by omega), a4.2 21 (by omega)]; exact e3, by rw [a3.2 4 (by omega), cf.2 4 (by decide) (by decide)]; exact k1, by rw [a4.2 16 (by omega), mf.2 16 (by decide) (by decide) (by decide)]; exact k2, by rw [a3.2 8 (by omega), cf.2 8 (by decide) (by decide)]; exact e8, by omega, by omega, fun c p q => by rw [a3.1 c p, cf.1 c p q]; exact fr c p q, fm1.go a4⟩, a4.1 78 (by decide)⟩
end
