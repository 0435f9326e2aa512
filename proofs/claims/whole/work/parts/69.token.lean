/-! ===== what is read next: the class's reader, the model's ===== -/
section
variable {Z : List gH}
theorem wi_k {k a c : Nat} (hk : k < 2 ^ 31) (ha : a < 2 ^ 31) (hc : c < 2 ^ 31) : wi (Int32.ofNat k) (Int32.ofNat a) (Int32.ofNat c) = if a ≤ k ∧ k ≤ c then 1 else 0 := by
  unfold wi
  by_cases h : a ≤ k ∧ k ≤ c
  · rw [if_pos h, if_neg (fun q => ?_)]
    rcases q with q | q
    · have := (ltk hk ha).mp q; omega
    · have := (ltk hc hk).mp q; omega
  · rw [if_neg h, if_pos ?_]
    by_cases l : k < a
    · exact Or.inl ((ltk hk ha).mpr l)
    · exact Or.inr ((ltk hc hk).mpr (by omega))
def TAPE (s t : gS) (n : Nat) (b : Nat → Nat) : Prop := n ≤ 96 ∧ s 34 1 = Int32.ofNat n ∧ t 65 10 = Int32.ofNat n ∧ ∀ k, k < n → s 35 k = Int32.ofNat (b k) ∧ t 73 k = Int32.ofNat (b k) ∧ b k ≤ 255
/-- a row of bytes of a kind, from p up to e -/
def ROW (b : Nat → Nat) (n p e lo hi : Nat) : Prop := p ≤ e ∧ e ≤ n ∧ (∀ k, p ≤ k → k < e → lo ≤ b k ∧ b k ≤ hi) ∧ (e = n ∨ ¬ (lo ≤ b e ∧ b e ≤ hi))
theorem row_L {s t : gS} {n : Nat} {b : Nat → Nat} (tp : TAPE s t n b) {p lo hi : Nat} (hlo : lo < 2 ^ 31) (hhi : hi < 2 ^ 31) : ∀ (f i : Nat), p ≤ i → i ≤ n → n - i < f → (∀ k, p ≤ k → k < i → lo ≤ b k ∧ b k ≤ hi) → ∃ e, ROW b n p e lo hi ∧ F_X3_endOfRow_L3 Z (Int32.ofNat lo) (Int32.ofNat hi) f (Int32.ofNat i) s = some (Int32.ofNat e, s) := by
  obtain ⟨hn, e1, -, e2⟩ := tp
  intro f
  induction f with
  | zero => intro i h1 h2 h3 h4; omega
  | succ f ih =>
    intro i h1 h2 h3 h4
    have ei : Int32.ofNat i + 1 = Int32.ofNat (i + 1) := addk i 1
    rw [F_X3_endOfRow_L3, e1]
    by_cases hd : n ≤ i
    · rw [if_pos ((lek (by omega) (by omega)).mpr hd)]
      exact ⟨i, ⟨h1, h2, h4, Or.inl (by omega)⟩, rfl⟩
    · have eb := e2 i (by omega)
      rw [if_neg (fun q => hd ((lek (by omega) (by omega)).mp q)), mInk (k := i) (by omega) (by decide), nnk (k := i) (by omega), x9_within, mCall_some, eb.1, wi_k (by omega) hlo hhi, ei]
      by_cases c : lo ≤ b i ∧ b i ≤ hi
      · rw [if_pos c, if10]
        refine ih (i + 1) (by omega) (by omega) (by omega) (fun k q1 q2 => ?_)
        by_cases e : k = i
        · subst e; exact c
        · exact h4 k q1 (by omega)
      · rw [if_neg c, if00]
        exact ⟨i, ⟨h1, h2, h4, Or.inr c⟩, rfl⟩
theorem row_eq {s t : gS} {n : Nat} {b : Nat → Nat} (tp : TAPE s t n b) {p lo hi : Nat} (hlo : lo < 2 ^ 31) (hhi : hi < 2 ^ 31) (hp : p ≤ n) : ∃ e, ROW b n p e lo hi ∧ F_X3_endOfRow Z (Int32.ofNat p) (Int32.ofNat lo) (Int32.ofNat hi) s = some (Int32.ofNat e, s) := by
  have m5 : mFuel = 5000 := rfl
  have hn := tp.1
  exact row_L tp hlo hhi mFuel p (Nat.le_refl p) hp (by omega) (fun k q1 q2 => by omega)
/-- what the model's reading may change -/
def GO (t t2 : gS) : Prop := (∀ c, c ≠ 65 → t2 c = t c) ∧ ∀ k, k < 11 ∨ 15 < k → t2 65 k = t 65 k
theorem GO.rf {t : gS} : GO t t := ⟨fun _ _ => rfl, fun _ _ => rfl⟩
theorem GO.put {t t2 : gS} (h : GO t t2) {k : Nat} {v : Int32} (h1 : 11 ≤ k) (h2 : k ≤ 15) : GO t (gu t2 65 k v) := ⟨fun c hc => by rw [gu_ne _ _ _ hc]; exact h.1 c hc, fun j hj => by rw [gu_off _ _ (Or.inr (by omega))]; exact h.2 j hj⟩
theorem TAPE.go {s t t2 : gS} {n : Nat} {b : Nat → Nat} (tp : TAPE s t n b) (h : GO t t2) : TAPE s t2 n b := by
  obtain ⟨a1, a2, a3, a4⟩ := tp
  exact ⟨a1, a2, by rw [h.2 10 (by omega)]; exact a3, by rw [h.1 73 (by decide)]; exact a4⟩
/-- the blanks, in the model -/
theorem blank_L {s : gS} {n e : Nat} {b : Nat → Nat} (t0 : gS) (tp0 : TAPE s t0 n b) (he : e ≤ n) (hs : e = n ∨ ¬ (32 ≤ b e ∧ b e ≤ 32)) : ∀ (f p : Nat) (t : gS), GO t0 t → t 65 11 = Int32.ofNat p → (∀ k, 12 ≤ k → t 65 k = t0 65 k) → p ≤ e → e - p < f → (∀ k, p ≤ k → k < e → 32 ≤ b k ∧ b k ≤ 32) → ∃ t2, F_X10_go_L0 Z f t = F_X10_go_J38 Z t2 ∧ GO t0 t2 ∧ t2 65 11 = Int32.ofNat e ∧ ∀ k, 12 ≤ k → t2 65 k = t0 65 k := by
  intro f
  induction f with
  | zero => intro p t h1 h2 h3 h4 h5; omega
  | succ f ih =>
    intro p t h1 h2 h3 h4 h5 h6
    obtain ⟨hn, -, e2, e3⟩ := tp0.go h1
    have ep : Int32.ofNat p + 1 = Int32.ofNat (p + 1) := addk p 1
    rw [F_X10_go_L0, e2, h2]
    by_cases hd : n ≤ p
    · obtain rfl : p = e := by omega
      rw [if_pos ((lek (by omega) (by omega)).mpr hd)]
      exact ⟨t, rfl, h1, h2, h3⟩
    · have eb := e3 p (by omega)
      rw [if_neg (fun q => hd ((lek (by omega) (by omega)).mp q)), mInk (k := p) (by omega) (by decide), nnk (k := p) (by omega), eb.2.1]
      by_cases c : p = e
      · subst c
        rw [if_neg (fun q => by have := (eqk (b := 32) (by omega) (by decide)).mp q; omega)]
        exact ⟨t, rfl, h1, h2, h3⟩
      · have := h6 p (Nat.le_refl p) (by omega)
        rw [if_pos (show Int32.ofNat (b p) = 32 by rw [show b p = 32 by omega]; rfl), mLet_eq, ep]
        refine ih (p + 1) _ (h1.put (by omega) (by omega)) (gu_self _ _ _ _) (fun k hk => by rw [gu_off _ _ (Or.inr (by omega))]; exact h3 k hk) (by omega) (by omega) (fun k q1 q2 => h6 k (by omega) q2)
theorem letter_k {s t : gS} {n p : Nat} {b : Nat → Nat} (tp : TAPE s t n b) (hp : p ≤ n) : F_X10_isLetter Z (Int32.ofNat p) t = some (if p < n ∧ 97 ≤ b p ∧ b p ≤ 122 then 1 else 0, t) := by
  obtain ⟨hn, -, e2, e3⟩ := tp
  unfold F_X10_isLetter
  rw [e2]
  by_cases hd : n ≤ p
  · rw [if_pos ((lek (by omega) (by omega)).mpr hd), if_neg (by omega)]; rfl
  · have eb := e3 p (by omega)
    rw [if_neg (fun q => hd ((lek (by omega) (by omega)).mp q)), mInk (k := p) (by omega) (by decide), mInk (k := p) (by omega) (by decide), nnk (k := p) (by omega), eb.2.1]
    by_cases c1 : b p < 97
    · have n1 : Int32.ofNat (b p) < 97 := (ltk (b := 97) (by omega) (by decide)).mpr c1
      rw [if_pos n1, if_neg (by omega)]; rfl
    · have n1 : ¬ Int32.ofNat (b p) < 97 := fun q => c1 ((ltk (b := 97) (by omega) (by decide)).mp q)
      rw [if_neg n1]
      by_cases c2 : 122 < b p
      · have n2 : (122 : Int32) < Int32.ofNat (b p) := (ltk (a := 122) (by decide) (by omega)).mpr c2
        rw [if_pos n2, if_neg (by omega)]; rfl
      · have n2 : ¬ (122 : Int32) < Int32.ofNat (b p) := fun q => c2 ((ltk (a := 122) (by decide) (by omega)).mp q)
        rw [if_neg n2, if_pos (by omega)]; rfl
theorem figure_k {s t : gS} {n p : Nat} {b : Nat → Nat} (tp : TAPE s t n b) (hp : p ≤ n) : F_X10_isFigure Z (Int32.ofNat p) t = some (if p < n ∧ 48 ≤ b p ∧ b p ≤ 57 then 1 else 0, t) := by
  obtain ⟨hn, -, e2, e3⟩ := tp
  unfold F_X10_isFigure
  rw [e2]
  by_cases hd : n ≤ p
  · rw [if_pos ((lek (by omega) (by omega)).mpr hd), if_neg (by omega)]; rfl
  · have eb := e3 p (by omega)
    rw [if_neg (fun q => hd ((lek (by omega) (by omega)).mp q)), mInk (k := p) (by omega) (by decide), mInk (k := p) (by omega) (by decide), nnk (k := p) (by omega), eb.2.1]
    by_cases c1 : b p < 48
    · have n1 : Int32.ofNat (b p) < 48 := (ltk (b := 48) (by omega) (by decide)).mpr c1
      rw [if_pos n1, if_neg (by omega)]; rfl
    · have n1 : ¬ Int32.ofNat (b p) < 48 := fun q => c1 ((ltk (b := 48) (by omega) (by decide)).mp q)
      rw [if_neg n1]
      by_cases c2 : 57 < b p
      · have n2 : (57 : Int32) < Int32.ofNat (b p) := (ltk (a := 57) (by decide) (by omega)).mpr c2
        rw [if_pos n2, if_neg (by omega)]; rfl
      · have n2 : ¬ (57 : Int32) < Int32.ofNat (b p) := fun q => c2 ((ltk (a := 57) (by decide) (by omega)).mp q)
        rw [if_neg n2, if_pos (by omega)]; rfl
/-- the value of k figures from p on -/
def dv (b : Nat → Nat) (p : Nat) : Nat → Nat
  | 0 => 0
  | k + 1 => 10 * dv b p k + (b (p + k) - 48)
theorem dv_lt {b : Nat → Nat} {p : Nat} : ∀ k, (∀ j, j < k → 48 ≤ b (p + j) ∧ b (p + j) ≤ 57) → dv b p k < 10 ^ k := by
  intro k
  induction k with
  | zero => intro _; exact Nat.one_pos
  | succ k ih =>
    intro h
    have h1 := ih (fun j hj => h j (by omega))
    have h2 := h k (by omega)
    have e : dv b p (k + 1) = 10 * dv b p k + (b (p + k) - 48) := rfl
    rw [e, Nat.pow_succ]
    omega
/-- one figure more -/
theorem dig_step {a d : Nat} (h : 48 ≤ d) : Int32.ofNat 10 * Int32.ofNat a + Int32.ofNat d - 48 = Int32.ofNat (10 * a + (d - 48)) := by
  rw [mulk, addk]
  exact (subk (b := 48) (by omega)).trans (by congr 1; omega)
/-- the letters, in the model -/
theorem let_L {s : gS} {n st e : Nat} {b : Nat → Nat} {w : Int32} (t0 : gS) (tp0 : TAPE s t0 n b) (h12 : t0 65 12 = Int32.ofNat st) (hst : st < n) (he : e ≤ n) (hs : e = n ∨ ¬ (97 ≤ b e ∧ b e ≤ 122)) : ∀ (f p : Nat) (t : gS), GO t0 t → t 65 11 = Int32.ofNat p → t 65 12 = t0 65 12 → p ≤ e → e - p < f → (∀ k, p ≤ k → k < e → 97 ≤ b k ∧ b k ≤ 122) → ∃ t2, F_X10_go_L93 Z f w t = some (0, t2) ∧ GO t0 t2 ∧ t2 65 11 = Int32.ofNat e ∧ t2 65 12 = Int32.ofNat st ∧ t2 65 13 = (if w = 0 then 1 else 4) ∧ t2 65 14 = Int32.ofNat (b st) ∧ t2 65 15 = Int32.ofNat e := by
  intro f
  induction f with
  | zero => intro p t h1 h2 h3 h4 h5; omega
  | succ f ih =>
    intro p t h1 h2 h3 h4 h5 h6
    have tp := tp0.go h1
    have hn := tp0.1
    have ep : Int32.ofNat p + 1 = Int32.ofNat (p + 1) := addk p 1
    rw [F_X10_go_L93, h2, letter_k tp (by omega), mCall_some, h2]
    by_cases c : p = e
    · subst c
      rw [if_neg (by omega : ¬ (p < n ∧ 97 ≤ b p ∧ b p ≤ 122)), if00]
      have eb := tp.2.2.2 st hst
      have key : ∀ v, ∃ t2, (mLet (gu t 65 13 v) fun s3 => mIn 96 (s3 65 12) (mLet (gu s3 65 14 (s3 73 (nn (s3 65 12)))) fun s4 => mLet (gu s4 65 15 (s4 65 11)) fun s5 => some ((0 : Int32), s5))) = some (0, t2) ∧ GO t0 t2 ∧ t2 65 11 = Int32.ofNat p ∧ t2 65 12 = Int32.ofNat st ∧ t2 65 13 = v ∧ t2 65 14 = Int32.ofNat (b st) ∧ t2 65 15 = Int32.ofNat p := fun v => by
        have f12 : gu t 65 13 v 65 12 = Int32.ofNat st := by rw [gu_off _ _ (Or.inr (by decide)), h3, h12]
        have f73 : gu t 65 13 v 73 = t 73 := gu_ne _ _ _ (by decide)
        rw [mLet_eq, f12, mInk (k := st) (by omega) (by decide), nnk (k := st) (by omega), f73, eb.2.1, mLet_eq, mLet_eq, gu_off _ _ (Or.inr (by decide)), gu_off _ _ (Or.inr (by decide)), h2]
        refine ⟨_, rfl, ((h1.put (by omega) (by omega)).put (by omega) (by omega)).put (by omega) (by omega), ?_, ?_, ?_, ?_, gu_self _ _ _ _⟩
        · rw [gu_off _ _ (Or.inr (by decide)), gu_off _ _ (Or.inr (by decide)), gu_off _ _ (Or.inr (by decide)), h2]
        · rw [gu_off _ _ (Or.inr (by decide)), gu_off _ _ (Or.inr (by decide)), f12]
        · rw [gu_off _ _ (Or.inr (by decide)), gu_off _ _ (Or.inr (by decide)), gu_self]
        · rw [gu_off _ _ (Or.inr (by decide)), gu_self]
      by_cases cw : w = 0
      · rw [if_pos cw, if_pos cw]; exact key 1
      · rw [if_neg cw, if_neg cw]; exact key 4
    · have hl := h6 p (Nat.le_refl p) (by omega)
      rw [if_pos (by omega : p < n ∧ 97 ≤ b p ∧ b p ≤ 122), if10, mLet_eq, ep]
      exact ih (p + 1) _ (h1.put (by omega) (by omega)) (gu_self _ _ _ _) (by rw [gu_off _ _ (Or.inr (by decide))]; exact h3) (by omega) (by omega) (fun k q1 q2 => h6 k (by omega) q2)
/-- the figures, in the model -/
theorem fig_L {s : gS} {n st e : Nat} {b : Nat → Nat} {w : Int32} (t0 : gS) (tp0 : TAPE s t0 n b) (h12 : t0 65 12 = Int32.ofNat st) (he : e ≤ n) (hs : e = n ∨ ¬ (48 ≤ b e ∧ b e ≤ 57)) (hf : ∀ k, st ≤ k → k < e → 48 ≤ b k ∧ b k ≤ 57) : ∀ (f p : Nat) (t : gS), GO t0 t → t 65 11 = Int32.ofNat p → t 65 12 = t0 65 12 → t 65 14 = Int32.ofNat (dv b st (min 4 (p - st))) → st ≤ p → p ≤ e → e - p < f → ∃ t2, F_X10_go_L170 Z f w t = some (0, t2) ∧ GO t0 t2 ∧ t2 65 11 = Int32.ofNat e ∧ t2 65 12 = Int32.ofNat st ∧ t2 65 13 = (if w = 0 then (if e - st ≤ 4 then 2 else 4) else 4) ∧ t2 65 14 = Int32.ofNat (dv b st (min 4 (e - st))) ∧ t2 65 15 = Int32.ofNat e := by
  intro f
  induction f with
  | zero => intro p t h1 h2 h3 h4 h5; omega
  | succ f ih =>
    intro p t h1 h2 h3 h14 h4 h5 h6
    have tp := tp0.go h1
    have hn := tp0.1
    have ep : Int32.ofNat p + 1 = Int32.ofNat (p + 1) := addk p 1
    have f12 : t 65 12 = Int32.ofNat st := h3.trans h12
    have sp : Int32.ofNat p - Int32.ofNat st = Int32.ofNat (p - st) := subk h4
    rw [F_X10_go_L170, h2, figure_k tp (by omega), mCall_some, h2, f12, sp]
    by_cases c : p = e
    · subst c
      rw [if_neg (by omega : ¬ (p < n ∧ 48 ≤ b p ∧ b p ≤ 57)), if00]
      have key : ∀ v, ∃ t2, (mLet (gu t 65 13 v) fun s5 => mLet (gu s5 65 15 (s5 65 11)) fun s6 => some ((0 : Int32), s6)) = some (0, t2) ∧ GO t0 t2 ∧ t2 65 11 = Int32.ofNat p ∧ t2 65 12 = Int32.ofNat st ∧ t2 65 13 = v ∧ t2 65 14 = Int32.ofNat (dv b st (min 4 (p - st))) ∧ t2 65 15 = Int32.ofNat p := fun v => by
        rw [mLet_eq, mLet_eq, gu_off _ _ (Or.inr (by decide)), h2]
        refine ⟨_, rfl, (h1.put (by omega) (by omega)).put (by omega) (by omega), ?_, ?_, ?_, ?_, gu_self _ _ _ _⟩
        · rw [gu_off _ _ (Or.inr (by decide)), gu_off _ _ (Or.inr (by decide)), h2]
        · rw [gu_off _ _ (Or.inr (by decide)), gu_off _ _ (Or.inr (by decide)), f12]
        · rw [gu_off _ _ (Or.inr (by decide)), gu_self]
        · rw [gu_off _ _ (Or.inr (by decide)), gu_off _ _ (Or.inr (by decide)), h14]
      by_cases cw : w = 0
      · rw [if_pos cw, if_pos cw]
        by_cases c4 : p - st ≤ 4
        · have : Int32.ofNat (p - st) ≤ 4 := (lek (b := 4) (by omega) (by decide)).mpr c4
          rw [if_pos this, if_pos c4]; exact key 2
        · have : ¬ Int32.ofNat (p - st) ≤ 4 := fun q => c4 ((lek (b := 4) (by omega) (by decide)).mp q)
          rw [if_neg this, if_neg c4]; exact key 4
      · rw [if_neg cw, if_neg cw]; exact key 4
    · have hl := hf p h4 (by omega)
      have eb := tp.2.2.2 p (by omega)
      rw [if_pos (by omega : p < n ∧ 48 ≤ b p ∧ b p ≤ 57), if10]
      by_cases c4 : 4 ≤ p - st
      · have : (4 : Int32) ≤ Int32.ofNat (p - st) := (lek (a := 4) (by decide) (by omega)).mpr c4
        have gi : gu t 65 14 (t 65 14) = t := gu_idz t 65 14
        rw [if_pos this, mLet_eq, mLet_eq, gi, h2, ep]
        refine ih (p + 1) _ (h1.put (by omega) (by omega)) (gu_self _ _ _ _) (by rw [gu_off _ _ (Or.inr (by decide))]; exact h3) ?_ (by omega) (by omega) (by omega)
        rw [gu_off _ _ (Or.inr (by decide)), h14, show min 4 (p - st) = min 4 (p + 1 - st) by omega]
      · have : ¬ (4 : Int32) ≤ Int32.ofNat (p - st) := fun q => c4 ((lek (a := 4) (by decide) (by omega)).mp q)
        have dd : (10 : Int32) * Int32.ofNat (dv b st (p - st)) + Int32.ofNat (b p) - 48 = Int32.ofNat (dv b st (p + 1 - st)) := by
          have e1 : p + 1 - st = (p - st) + 1 := by omega
          rw [e1]
          have := dig_step (a := dv b st (p - st)) (d := b p) hl.1
          show Int32.ofNat 10 * Int32.ofNat (dv b st (p - st)) + Int32.ofNat (b p) - 48 = Int32.ofNat (10 * dv b st (p - st) + (b (st + (p - st)) - 48))
          rw [this, show st + (p - st) = p by omega]
        rw [if_neg this, mInk (k := p) (by omega) (by decide), nnk (k := p) (by omega), eb.2.1, h14, show min 4 (p - st) = p - st by omega, dd, mLet_eq, mLet_eq, gu_off _ _ (Or.inr (by decide)), h2, ep]
        refine ih (p + 1) _ ((h1.put (by omega) (by omega)).put (by omega) (by omega)) (gu_self _ _ _ _) (by rw [gu_off _ _ (Or.inr (by decide)), gu_off _ _ (Or.inr (by decide))]; exact h3) ?_ (by omega) (by omega) (by omega)
        rw [gu_off _ _ (Or.inr (by decide)), gu_self, show min 4 (p + 1 - st) = p + 1 - st by omega]
end
