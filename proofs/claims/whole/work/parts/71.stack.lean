/-! ===== rows of steps, and the model's stack of signs ===== -/
def REL (l : List Int32) (f : Nat → Int32) : Prop := ∀ k, k < l.length → f k = l.getD k 0
theorem REL.nil {f : Nat → Int32} : REL [] f := fun k hk => absurd hk (Nat.not_lt_zero k)
theorem getD_app1 (l : List Int32) (x : Int32) {k : Nat} (h : k < l.length) : (l ++ [x]).getD k 0 = l.getD k 0 := by
  rw [List.getD_eq_getElem?_getD, List.getD_eq_getElem?_getD, List.getElem?_append_left h]
theorem getD_app2 (l : List Int32) (x : Int32) : (l ++ [x]).getD l.length 0 = x := by
  rw [List.getD_eq_getElem?_getD, List.getElem?_append_right (Nat.le_refl _)]; simp
theorem REL.snoc {l : List Int32} {f g : Nat → Int32} {x : Int32} (h : REL l f) (h1 : ∀ k, k < l.length → g k = f k) (h2 : g l.length = x) : REL (l ++ [x]) g := by
  intro k hk
  by_cases e : k = l.length
  · subst e; rw [getD_app2, h2]
  · have : k < l.length := by simp at hk; omega
    rw [getD_app1 _ _ this, h1 k this]; exact h k this
theorem REL.init {l : List Int32} {f : Nat → Int32} {x : Int32} (h : REL (l ++ [x]) f) : REL l f ∧ f l.length = x := by
  refine ⟨fun k hk => ?_, ?_⟩
  · have := h k (by simp; omega)
    rw [getD_app1 _ _ hk] at this
    exact this
  · have := h l.length (by simp)
    rw [getD_app2] at this
    exact this
/-- how many signs ! -/
def cb : List Int32 → Nat
  | [] => 0
  | x :: l => (if x = -10 then 1 else 0) + cb l
theorem cb_app (l m : List Int32) : cb (l ++ m) = cb l + cb m := by
  induction l with
  | nil => show cb m = 0 + cb m; omega
  | cons x l ih =>
    have e : cb (x :: l ++ m) = (if x = -10 then 1 else 0) + cb (l ++ m) := rfl
    have e2 : cb (x :: l) = (if x = -10 then 1 else 0) + cb l := rfl
    omega
theorem cb_rev (l : List Int32) : cb l.reverse = cb l := by
  induction l with
  | nil => rfl
  | cons x l ih =>
    rw [List.reverse_cons, cb_app, ih]
    have e : cb [x] = (if x = -10 then 1 else 0) + 0 := rfl
    have e2 : cb (x :: l) = (if x = -10 then 1 else 0) + cb l := rfl
    omega
def rk (x : Int32) : Nat := if x = -1 then 1 else if x = -2 then 2 else if x < -5 then (if x < -7 then (if x < -9 then 6 else 5) else 4) else 3
theorem rk_le (x : Int32) : rk x ≤ 6 := by
  unfold rk
  repeat' split
  all_goals omega
section
variable {Z : List gH}
theorem rank_eq (x : Int32) (t : gS) : F_X10_rank Z x t = some (Int32.ofNat (rk x), t) := by
  unfold F_X10_rank rk
  repeat' split
  all_goals rfl
/-- the model's output and stack -/
def MS (t : gS) (out stk : List Int32) : Prop := t 65 20 = Int32.ofNat out.length ∧ REL out (t 76) ∧ t 65 23 = Int32.ofNat stk.length ∧ REL stk.reverse (t 77)
/-- what the model's work with them may change -/
def MF2 (t t2 : gS) : Prop := (∀ c, c ≠ 65 → c ≠ 76 → c ≠ 77 → t2 c = t c) ∧ ∀ k, k ≠ 20 → k ≠ 21 → k ≠ 23 → t2 65 k = t 65 k
theorem MF2.rf {t : gS} : MF2 t t := ⟨fun _ _ _ _ => rfl, fun _ _ _ _ => rfl⟩
theorem MF2.trans {a b c : gS} (h1 : MF2 a b) (h2 : MF2 b c) : MF2 a c := ⟨fun x p q r => (h2.1 x p q r).trans (h1.1 x p q r), fun k p q r => (h2.2 k p q r).trans (h1.2 k p q r)⟩
theorem MS.fr {t t2 : gS} {out stk : List Int32} (h : MS t out stk) (h1 : t2 65 20 = t 65 20) (h2 : t2 65 23 = t 65 23) (h3 : t2 76 = t 76) (h4 : t2 77 = t 77) : MS t2 out stk := by
  unfold MS; rw [h1, h2, h3, h4]; exact h
/-- a sign pushed -/
theorem MS.push {t : gS} {out stk : List Int32} (h : MS t out stk) (x : Int32) (hl : stk.length < 96) : MS (gu (gu t 77 stk.length x) 65 23 (Int32.ofNat (stk.length + 1))) out (x :: stk) ∧ MF2 t (gu (gu t 77 stk.length x) 65 23 (Int32.ofNat (stk.length + 1))) := by
  obtain ⟨a1, a2, a3, a4⟩ := h
  refine ⟨⟨?_, ?_, gu_self _ _ _ _, ?_⟩, fun c q1 q2 q3 => ?_, fun k q1 q2 q3 => ?_⟩
  · rw [gu_off _ _ (Or.inr (by decide)), gu_ne _ _ _ (by decide)]; exact a1
  · rw [gu_ne _ _ _ (by decide), gu_ne _ _ _ (by decide)]; exact a2
  · rw [List.reverse_cons, gu_ne _ _ _ (by decide)]
    refine a4.snoc (fun k hk => gu_off _ _ (Or.inr ?_)) ?_
    · rw [List.length_reverse] at hk; omega
    · rw [List.length_reverse, gu_self]
  · rw [gu_ne _ _ _ q1, gu_ne _ _ _ q3]
  · rw [gu_off _ _ (Or.inr q3), gu_ne _ _ _ (by decide)]
/-- a step told -/
theorem MS.tell {t : gS} {out stk : List Int32} (h : MS t out stk) (x : Int32) : MS (gu (gu t 76 out.length x) 65 20 (Int32.ofNat (out.length + 1))) (out ++ [x]) stk ∧ MF2 t (gu (gu t 76 out.length x) 65 20 (Int32.ofNat (out.length + 1))) := by
  obtain ⟨a1, a2, a3, a4⟩ := h
  refine ⟨⟨?_, ?_, ?_, ?_⟩, fun c q1 q2 q3 => ?_, fun k q1 q2 q3 => ?_⟩
  · rw [gu_self, List.length_append]; rfl
  · rw [gu_ne _ _ _ (by decide)]
    refine a2.snoc (fun k hk => gu_off _ _ (Or.inr (by omega))) (gu_self _ _ _ _)
  · rw [gu_off _ _ (Or.inr (by decide)), gu_ne _ _ _ (by decide)]; exact a3
  · rw [gu_ne _ _ _ (by decide), gu_ne _ _ _ (by decide)]; exact a4
  · rw [gu_ne _ _ _ q1, gu_ne _ _ _ q2]
  · rw [gu_off _ _ (Or.inr q1), gu_ne _ _ _ (by decide)]
theorem MS.top {t : gS} {out stk : List Int32} {x : Int32} (h : MS t out (x :: stk)) : t 77 stk.length = x ∧ MS (gu t 65 23 (Int32.ofNat stk.length)) out stk ∧ MF2 t (gu t 65 23 (Int32.ofNat stk.length)) := by
  obtain ⟨a1, a2, a3, a4⟩ := h
  rw [List.reverse_cons] at a4
  have b := a4.init
  rw [List.length_reverse] at b
  refine ⟨b.2, ⟨?_, ?_, gu_self _ _ _ _, ?_⟩, fun c q1 q2 q3 => gu_ne _ _ _ q1, fun k q1 q2 q3 => gu_off _ _ (Or.inr q3)⟩
  · rw [gu_off _ _ (Or.inr (by decide))]; exact a1
  · rw [gu_ne _ _ _ (by decide)]; exact a2
  · rw [gu_ne _ _ _ (by decide)]; exact b.1
/-- a stack whose top stays when signs of the rank r and more go -/
def TOP (r : Nat) (B : List Int32) : Prop := B = [] ∨ ∃ x B', B = x :: B' ∧ (x = -11 ∨ rk x < r)
theorem settle_L {B : List Int32} {r : Nat} (hr : r ≤ 6) (hB : TOP r B) : ∀ (pend : List Int32) (f : Nat) (t : gS) (out : List Int32), MS t out (pend ++ B) → (∀ x, x ∈ pend → x ≠ -11 ∧ r ≤ rk x) → out.length + (pend ++ B).length ≤ 96 → pend.length < f → ∃ t2, F_X10_settle_L0 Z (Int32.ofNat r) f t = some (0, t2) ∧ MS t2 (out ++ pend) B ∧ MF2 t t2 ∧ t2 65 21 = t 65 21 := by
  intro pend
  induction pend with
  | nil =>
    intro f t out ms hx hl hf
    obtain ⟨f, rfl⟩ : ∃ g, f = g + 1 := ⟨f - 1, by simp at hf; omega⟩
    have ms : MS t out B := ms
    refine ⟨t, ?_, by rw [List.append_nil]; exact ms, MF2.rf, rfl⟩
    rw [F_X10_settle_L0, ms.2.2.1]
    rcases hB with rfl | ⟨x, B', rfl, hx⟩
    · rw [if_pos (by decide)]
    · have hl : out.length + (B'.length + 1) ≤ 96 := by simpa using hl
      have e1 : (x :: B').length = B'.length + 1 := rfl
      have s1 : Int32.ofNat (B'.length + 1) - 1 = Int32.ofNat B'.length := subk (b := 1) (by omega)
      have tp := (MS.top ms).1
      have n0 : ¬ Int32.ofNat (B'.length + 1) ≤ 0 := fun q => by have := (lek (b := 0) (by omega) (by decide)).mp q; omega
      rw [e1, if_neg n0, s1, mInk (k := B'.length) (by omega) (by decide), mInk (k := B'.length) (by omega) (by decide), nnk (k := B'.length) (by omega), tp, rank_eq, mCall_some]
      by_cases c : x = -11
      · rw [if_pos c]
      · rw [if_neg c]
        rcases hx with hx | hx
        · exact absurd hx c
        · rw [if_pos ((ltk (by omega) (by omega)).mpr hx)]
  | cons x pend ih =>
    intro f t out ms hx hl hf
    obtain ⟨f, rfl⟩ : ∃ g, f = g + 1 := ⟨f - 1, by simp at hf; omega⟩
    have ms : MS t out (x :: (pend ++ B)) := ms
    have hl : out.length + ((pend ++ B).length + 1) ≤ 96 := by simp at hl ⊢; omega
    have e1 : (x :: (pend ++ B)).length = (pend ++ B).length + 1 := rfl
    have s1 : Int32.ofNat ((pend ++ B).length + 1) - 1 = Int32.ofNat (pend ++ B).length := subk (b := 1) (by omega)
    obtain ⟨tp, ms1, mf1⟩ := MS.top ms
    have n0 : ¬ Int32.ofNat ((pend ++ B).length + 1) ≤ 0 := fun q => by have := (lek (b := 0) (by omega) (by decide)).mp q; omega
    have hx0 := hx x (List.mem_cons_self ..)
    have rl := rk_le x
    have n1 : ¬ Int32.ofNat (rk x) < Int32.ofNat r := fun q => by have := (ltk (by omega) (by omega)).mp q; omega
    obtain ⟨ms2, mf2⟩ := ms1.tell x
    have g77 : gu t 65 23 (Int32.ofNat (pend ++ B).length) 77 = t 77 := gu_ne _ _ _ (by decide)
    have g76 : gu t 65 23 (Int32.ofNat (pend ++ B).length) 65 20 = Int32.ofNat out.length := ms1.1
    have e20 : Int32.ofNat out.length + 1 = Int32.ofNat (out.length + 1) := addk _ 1
    obtain ⟨t2, a1, a2, a3, a4⟩ := ih f _ (out ++ [x]) ms2 (fun y hy => hx y (List.mem_cons_of_mem _ hy)) (by simp at hl ⊢; omega) (by simp at hf; omega)
    refine ⟨t2, ?_, by rw [List.append_assoc] at a2; exact a2, (mf1.trans mf2).trans a3, ?_⟩
    · rw [F_X10_settle_L0, ms.2.2.1, e1, if_neg n0, s1, mInk (k := (pend ++ B).length) (by omega) (by decide), mInk (k := (pend ++ B).length) (by omega) (by decide), nnk (k := (pend ++ B).length) (by omega), tp, if_neg hx0.1, rank_eq, mCall_some, if_neg n1]
      simp only [mLet_eq]
      rw [ms.2.2.1, e1, s1, gu_self, mInk (k := (pend ++ B).length) (by omega) (by decide), g76, mInk (k := out.length) (by omega) (by decide), nnk (k := (pend ++ B).length) (by omega), nnk (k := out.length) (by omega), g77, tp, gu_ne _ _ _ (show 65 ≠ 76 by decide), g76, e20]
      exact a1
    · rw [a4, gu_off _ _ (Or.inr (by decide)), gu_ne _ _ _ (by decide), gu_off _ _ (Or.inr (by decide))]
theorem settle_eq {B pend out : List Int32} {r : Nat} {t : gS} (hr : r ≤ 6) (hB : TOP r B) (ms : MS t out (pend ++ B)) (hx : ∀ x, x ∈ pend → x ≠ -11 ∧ r ≤ rk x) (hl : out.length + (pend ++ B).length ≤ 96) : ∃ t2, F_X10_settle Z (Int32.ofNat r) t = some (0, t2) ∧ MS t2 (out ++ pend) B ∧ MF2 t t2 ∧ t2 65 21 = t 65 21 := by
  have m5 : mFuel = 5000 := rfl
  exact settle_L hr hB pend (mFuel + 1) t out ms hx hl (by simp at hl; omega)
theorem nots_L {t : gS} {m : Nat} (e : t 65 23 = Int32.ofNat m) (hm : m ≤ 96) : ∀ (l2 l1 : List Int32) (f : Nat), REL (l1 ++ l2) (t 77) → l1.length + l2.length = m → l2.length < f → F_X10_notsOpen_L4 Z f (Int32.ofNat (cb l1)) (Int32.ofNat l1.length) t = some (Int32.ofNat (cb (l1 ++ l2)), t) := by
  intro l2
  induction l2 with
  | nil =>
    intro l1 f h1 h2 h3
    obtain ⟨f, rfl⟩ : ∃ g, f = g + 1 := ⟨f - 1, by simp at h3; omega⟩
    simp at h2
    rw [F_X10_notsOpen_L4, e, if_pos ((lek (by omega) (by omega)).mpr (by omega)), List.append_nil]
  | cons x l2 ih =>
    intro l1 f h1 h2 h3
    obtain ⟨f, rfl⟩ : ∃ g, f = g + 1 := ⟨f - 1, by simp at h3; omega⟩
    have h2' : l1.length + (l2.length + 1) = m := h2
    have h3' : l2.length + 1 < f + 1 := h3
    have ex : t 77 l1.length = x := by
      have := h1 l1.length (by simp)
      rw [List.getD_eq_getElem?_getD, List.getElem?_append_right (Nat.le_refl _)] at this
      simpa using this
    have es : l1 ++ x :: l2 = (l1 ++ [x]) ++ l2 := by simp
    have el : Int32.ofNat l1.length + 1 = Int32.ofNat (l1 ++ [x]).length := by rw [List.length_append]; exact addk _ 1
    have i := ih (l1 ++ [x]) f (by rw [← es]; exact h1) (by simp; omega) (by omega)
    rw [F_X10_notsOpen_L4, e, if_neg (fun q => by have := (lek (by omega) (by omega)).mp q; omega), mInk (k := l1.length) (by omega) (by decide), nnk (k := l1.length) (by omega), ex, mLet_eq, mLet_eq, es, el]
    have c : cb (l1 ++ [x]) = cb l1 + ((if x = -10 then 1 else 0) + 0) := cb_app l1 [x]
    by_cases q : x = -10
    · rw [if_pos q] at c ⊢
      have : Int32.ofNat (cb l1) + 1 = Int32.ofNat (cb (l1 ++ [x])) := by rw [c]; exact addk _ 1
      rw [this]; exact i
    · rw [if_neg q] at c ⊢
      have : cb l1 = cb (l1 ++ [x]) := by omega
      rw [Int32.add_zero, this]; exact i
theorem nots_eq {t : gS} {out stk : List Int32} (ms : MS t out stk) (hl : stk.length ≤ 96) : F_X10_notsOpen Z t = some (Int32.ofNat (cb stk), t) := by
  have m5 : mFuel = 5000 := rfl
  have := nots_L (Z := Z) ms.2.2.1 hl stk.reverse [] mFuel ms.2.2.2 (by simp) (by simp; omega)
  rw [List.nil_append, cb_rev] at this
  exact this
end
