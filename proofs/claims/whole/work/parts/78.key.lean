section
variable {Z : List gH}
def byk (key i : Nat) : Int32 := (sByt.getD key []).getD i 0
def lnk (key : Nat) : Nat := sLen.getD key 0
/-- the word here is the key's -/
def MT (b : Nat → Nat) (st nx key : Nat) : Prop := nx - st = lnk key ∧ ∀ i, i < lnk key → Int32.ofNat (b (st + i)) = byk key i
theorem lnk_cases {key : Nat} (hk : key ≤ 2) : lnk key = 4 ∨ lnk key = 3 := by
  rcases (show key = 0 ∨ key = 1 ∨ key = 2 by omega) with rfl | rfl | rfl
  · exact Or.inl rfl
  · exact Or.inr rfl
  · exact Or.inl rfl
theorem char_eq {key i : Nat} {s : gS} (hk : key ≤ 2) (hi : i < lnk key) : F_JS_charAt Z key (Int32.ofNat i) s = some (byk key i, s) := by
  rcases (show key = 0 ∨ key = 1 ∨ key = 2 by omega) with rfl | rfl | rfl
  · have hi : i < 4 := hi
    rcases (show i = 0 ∨ i = 1 ∨ i = 2 ∨ i = 3 by omega) with rfl | rfl | rfl | rfl <;> rfl
  · have hi : i < 3 := hi
    rcases (show i = 0 ∨ i = 1 ∨ i = 2 by omega) with rfl | rfl | rfl <;> rfl
  · have hi : i < 4 := hi
    rcases (show i = 0 ∨ i = 1 ∨ i = 2 ∨ i = 3 by omega) with rfl | rfl | rfl | rfl <;> rfl
theorem len_eq {key : Nat} {s : gS} (hk : key ≤ 2) : F_JS_length Z key s = some (Int32.ofNat (lnk key), s) := by
  unfold F_JS_length F_JS_coder
  rw [if_pos (show vp_nar .byte 0 = 0 from rfl), mCall_some]
  rcases (show key = 0 ∨ key = 1 ∨ key = 2 by omega) with rfl | rfl | rfl <;> rfl
theorem word_L {s t : gS} {n st nx key : Nat} {b : Nat → Nat} (tp : TAPE s t n b) (hk : key ≤ 2) (e6 : s 36 6 = Int32.ofNat st) (hn : st + lnk key ≤ n) : ∀ (d i f : Nat), i + d = lnk key → d < f → (F_X3_isWord_L29 Z key f (Int32.ofNat i) s = some (1, s) ∧ ∀ j, i ≤ j → j < lnk key → Int32.ofNat (b (st + j)) = byk key j) ∨ (F_X3_isWord_L29 Z key f (Int32.ofNat i) s = some (0, s) ∧ ¬ ∀ j, i ≤ j → j < lnk key → Int32.ofNat (b (st + j)) = byk key j) := by
  have hn96 := tp.1
  have hlk := lnk_cases hk
  intro d
  induction d with
  | zero =>
    intro i f h1 h2
    obtain ⟨f, rfl⟩ : ∃ g, f = g + 1 := ⟨f - 1, by omega⟩
    left
    refine ⟨?_, fun j h3 h4 => by omega⟩
    rw [F_X3_isWord_L29, len_eq hk, mCall_some, if_pos ((lek (by omega) (by omega)).mpr (by omega))]; rfl
  | succ d ih =>
    intro i f h1 h2
    obtain ⟨f, rfl⟩ : ∃ g, f = g + 1 := ⟨f - 1, by omega⟩
    have ei : Int32.ofNat i + 1 = Int32.ofNat (i + 1) := addk i 1
    have eb := tp.2.2.2 (st + i) (by omega)
    rw [F_X3_isWord_L29, len_eq hk, mCall_some, if_neg (fun q => by have := (lek (by omega) (by omega)).mp q; omega), e6, addk, mInk (k := st + i) (by omega) (by decide), nnk (k := st + i) (by omega), char_eq hk (by omega), mCall_some, eb.1, ei]
    by_cases q : Int32.ofNat (b (st + i)) = byk key i
    · rw [if_pos q]
      rcases ih (i + 1) f (by omega) (by omega) with ⟨a1, a2⟩ | ⟨a1, a2⟩
      · refine Or.inl ⟨a1, fun j h3 h4 => ?_⟩
        by_cases e : j = i
        · rw [e]; exact q
        · exact a2 j (by omega) h4
      · exact Or.inr ⟨a1, fun h => a2 (fun j h3 h4 => h j (by omega) h4)⟩
    · rw [if_neg q]
      exact Or.inr ⟨rfl, fun h => q (h i (Nat.le_refl i) (by omega))⟩
theorem word_eq {s t : gS} {n st nx key : Nat} {b : Nat → Nat} (tk : TOK s t n b st nx) (h2 : s 36 5 = -2) (hs : st ≤ nx) (hk : key ≤ 2) : (F_X3_isWord Z key s = some (1, s) ∧ MT b st nx key) ∨ (F_X3_isWord Z key s = some (0, s) ∧ ¬ MT b st nx key) := by
  have m5 : mFuel = 5000 := rfl
  have hlk := lnk_cases hk
  obtain ⟨tp, t6, t7, u11, u12, nxn, -⟩ := tk
  have hn96 := tp.1
  have e : Int32.ofNat nx - Int32.ofNat st = Int32.ofNat (nx - st) := subk hs
  unfold F_X3_isWord
  rw [if_pos h2, len_eq hk, mCall_some, t7, t6, e]
  by_cases q : nx - st = lnk key
  · rw [if_pos (by rw [q])]
    rcases word_L (Z := Z) (nx := nx) tp hk t6 (by omega) (lnk key) 0 mFuel (by omega) (by omega) with ⟨a1, a2⟩ | ⟨a1, a2⟩
    · exact Or.inl ⟨a1, q, fun i hi => a2 i (Nat.zero_le i) hi⟩
    · exact Or.inr ⟨a1, fun h => a2 (fun j _ hj => h.2 j hj)⟩
  · rw [if_neg (fun h => q ((eqk (by omega) (by omega)).mp h))]
    exact Or.inr ⟨rfl, fun h => q h.1⟩
/-- which key, in the class -/
theorem key_eq {s t : gS} {n st nx : Nat} {b : Nat → Nat} (tk : TOK s t n b st nx) (hs : st ≤ nx) : (s 36 5 = -2 ∧ ∃ key, key ≤ 2 ∧ MT b st nx key ∧ (∀ k, k < key → ¬ MT b st nx k) ∧ F_X3_keyRead Z s = some (Int32.ofNat key, s)) ∨ ((s 36 5 = -2 → ∀ k, k ≤ 2 → ¬ MT b st nx k) ∧ F_X3_keyRead Z s = some (-1, s)) := by
  unfold F_X3_keyRead
  by_cases c : s 36 5 = -2
  · rcases word_eq (Z := Z) (key := 0) tk c hs (by omega) with ⟨a1, a2⟩ | ⟨a1, a2⟩
    · refine Or.inl ⟨c, 0, by omega, a2, fun k hk => by omega, ?_⟩
      rw [a1, mCall_some, if10]; rfl
    · rcases word_eq (Z := Z) (key := 1) tk c hs (by omega) with ⟨b1, b2⟩ | ⟨b1, b2⟩
      · refine Or.inl ⟨c, 1, by omega, b2, fun k hk => by rw [show k = 0 by omega]; exact a2, ?_⟩
        rw [a1, mCall_some, if00, b1, mCall_some, if10]; rfl
      · rcases word_eq (Z := Z) (key := 2) tk c hs (by omega) with ⟨c1, c2⟩ | ⟨c1, c2⟩
        · refine Or.inl ⟨c, 2, by omega, c2, fun k hk => ?_, ?_⟩
          · rcases (show k = 0 ∨ k = 1 by omega) with rfl | rfl
            · exact a2
            · exact b2
          · rw [a1, mCall_some, if00, b1, mCall_some, if00, c1, mCall_some, if10]; rfl
        · refine Or.inr ⟨fun _ k hk => ?_, ?_⟩
          · rcases (show k = 0 ∨ k = 1 ∨ k = 2 by omega) with rfl | rfl | rfl
            · exact a2
            · exact b2
            · exact c2
          · rw [a1, mCall_some, if00, b1, mCall_some, if00, c1, mCall_some, if00]
  · have w : ∀ key, F_X3_isWord Z key s = some (0, s) := fun key => by
      unfold F_X3_isWord; rw [if_neg c]; rfl
    refine Or.inr ⟨fun h => absurd h c, ?_⟩
    rw [w 0, mCall_some, if00, w 1, mCall_some, if00, w 2, mCall_some, if00]
def ofk (key : Nat) : Nat := if key = 0 then 0 else if key = 1 then 4 else if key = 2 then 7 else 11
theorem kc75 {t : gS} (h : KCR t) {k : Nat} (hk : k ≤ 3) : t 75 k = Int32.ofNat (ofk k) := by
  rw [h.2 k (by omega)]
  rcases (show k = 0 ∨ k = 1 ∨ k = 2 ∨ k = 3 by omega) with rfl | rfl | rfl | rfl <;> rfl
theorem kc74 {t : gS} (h : KCR t) {key i : Nat} (hk : key ≤ 2) (hi : i < lnk key) : t 74 (ofk key + i) = byk key i := by
  rcases (show key = 0 ∨ key = 1 ∨ key = 2 by omega) with rfl | rfl | rfl
  · have hi : i < 4 := hi
    rw [h.1 _ (by show 0 + i < 11; omega)]
    rcases (show i = 0 ∨ i = 1 ∨ i = 2 ∨ i = 3 by omega) with rfl | rfl | rfl | rfl <;> rfl
  · have hi : i < 3 := hi
    rw [h.1 _ (by show 4 + i < 11; omega)]
    rcases (show i = 0 ∨ i = 1 ∨ i = 2 by omega) with rfl | rfl | rfl <;> rfl
  · have hi : i < 4 := hi
    rw [h.1 _ (by show 7 + i < 11; omega)]
    rcases (show i = 0 ∨ i = 1 ∨ i = 2 ∨ i = 3 by omega) with rfl | rfl | rfl | rfl <;> rfl
theorem ofk_len {key : Nat} (hk : key ≤ 2) : ofk (key + 1) = ofk key + lnk key ∧ ofk key + lnk key ≤ 11 := by
  rcases (show key = 0 ∨ key = 1 ∨ key = 2 by omega) with rfl | rfl | rfl <;> decide
theorem kword_L {s t : gS} {n st nx key : Nat} {b : Nat → Nat} {k12 : Int32 → gS → Option (Int32 × gS)} (tp : TAPE s t n b) (kc : KCR t) (hk : key ≤ 2) (e12 : t 65 12 = Int32.ofNat st) (hn : st + lnk key ≤ n) : ∀ (d i f : Nat), i + d = lnk key → d + 1 < f → (F_X10_takesKey_L55 Z k12 f (Int32.ofNat key) (Int32.ofNat (lnk key)) 1 (Int32.ofNat i) t = mCall (F_X10_go Z (gu t 65 16 (Int32.ofNat key))) (fun r2 s3 => mZ 1 s3) ∧ ∀ j, i ≤ j → j < lnk key → Int32.ofNat (b (st + j)) = byk key j) ∨ (F_X10_takesKey_L55 Z k12 f (Int32.ofNat key) (Int32.ofNat (lnk key)) 1 (Int32.ofNat i) t = k12 (Int32.ofNat (key + 1)) t ∧ ¬ ∀ j, i ≤ j → j < lnk key → Int32.ofNat (b (st + j)) = byk key j) := by
  have hn96 := tp.1
  have hlk := lnk_cases hk
  have hok := (ofk_len hk).2
  have ek : Int32.ofNat key + 1 = Int32.ofNat (key + 1) := addk key 1
  intro d
  induction d with
  | zero =>
    intro i f h1 h2
    obtain ⟨f, rfl⟩ : ∃ g, f = g + 1 := ⟨f - 1, by omega⟩
    left
    refine ⟨?_, fun j h3 h4 => by omega⟩
    rw [F_X10_takesKey_L55, if_pos ((lek (by omega) (by omega)).mpr (by omega)), if10, mLet_eq]
  | succ d ih =>
    intro i f h1 h2
    obtain ⟨f, rfl⟩ : ∃ g, f = g + 1 := ⟨f - 1, by omega⟩
    have ei : Int32.ofNat i + 1 = Int32.ofNat (i + 1) := addk i 1
    have eb := tp.2.2.2 (st + i) (by omega)
    have i4 : ∀ {α : Type} {a : Option α}, mIn 4 (Int32.ofNat key) a = a := mInk (k := key) (by omega) (by decide)
    rw [F_X10_takesKey_L55, if_neg (fun q => by have := (lek (by omega) (by omega)).mp q; omega), if10, e12, addk, mInk (k := st + i) (by omega) (by decide), nnk (k := st + i) (by omega), i4, nnk (k := key) (by omega), kc75 kc (by omega), addk, mInk (k := ofk key + i) (by omega) (by decide), nnk (k := ofk key + i) (by omega), kc74 kc hk (by omega), eb.2.1, ei]
    by_cases q : Int32.ofNat (b (st + i)) = byk key i
    · rw [if_pos q]
      rcases ih (i + 1) f (by omega) (by omega) with ⟨a1, a2⟩ | ⟨a1, a2⟩
      · refine Or.inl ⟨a1, fun j h3 h4 => ?_⟩
        by_cases e : j = i
        · rw [e]; exact q
        · exact a2 j (by omega) h4
      · exact Or.inr ⟨a1, fun h => a2 (fun j h3 h4 => h j (by omega) h4)⟩
    · rw [if_neg q]
      refine Or.inr ⟨?_, fun h => q (h i (Nat.le_refl i) (by omega))⟩
      obtain ⟨f, rfl⟩ : ∃ g, f = g + 1 := ⟨f - 1, by omega⟩
      rw [F_X10_takesKey_L55, if00, if00, ek, ite_self]
theorem kword_eq {s t : gS} {n st nx key f : Nat} {b : Nat → Nat} (tk : TOK s t n b st nx) (kc : KCR t) (hs : st ≤ nx) (hk : key ≤ 2) : (F_X10_takesKey_L12 Z (f + 1) (Int32.ofNat key) t = mCall (F_X10_go Z (gu t 65 16 (Int32.ofNat key))) (fun r2 s3 => mZ 1 s3) ∧ MT b st nx key) ∨ (F_X10_takesKey_L12 Z (f + 1) (Int32.ofNat key) t = F_X10_takesKey_L12 Z f (Int32.ofNat (key + 1)) t ∧ ¬ MT b st nx key) := by
  have m5 : mFuel = 5000 := rfl
  have hlk := lnk_cases hk
  obtain ⟨tp, t6, t7, u11, u12, nxn, -⟩ := tk
  have hn96 := tp.1
  have e : Int32.ofNat nx - Int32.ofNat st = Int32.ofNat (nx - st) := subk hs
  have ek : Int32.ofNat key + 1 = Int32.ofNat (key + 1) := addk key 1
  obtain ⟨o1, o2⟩ := ofk_len hk
  have el : Int32.ofNat (ofk (key + 1)) - Int32.ofNat (ofk key) = Int32.ofNat (lnk key) := (subk (by omega)).trans (by congr 1; omega)
  have n3 : ¬ (3 : Int32) ≤ Int32.ofNat key := fun q => by have := (lek (a := 3) (by decide) (by omega)).mp q; omega
  rw [F_X10_takesKey_L12, if_neg n3, ek, mInk (k := key + 1) (by omega) (by decide), mInk (k := key) (by omega) (by decide), nnk (k := key + 1) (by omega), nnk (k := key) (by omega), kc75 kc (by omega), kc75 kc (by omega), el, mLet_eq, u11, u12, e]
  by_cases q : nx - st = lnk key
  · rw [if_pos (by rw [q])]
    rcases kword_L (Z := Z) (nx := nx) (k12 := F_X10_takesKey_L12 Z f) tp kc hk u12 (by omega) (lnk key) 0 mFuel (by omega) (by omega) with ⟨a1, a2⟩ | ⟨a1, a2⟩
    · exact Or.inl ⟨a1, q, fun i hi => a2 i (Nat.zero_le i) hi⟩
    · exact Or.inr ⟨a1, fun h => a2 (fun j _ hj => h.2 j hj)⟩
  · rw [if_neg (fun h => q ((eqk (by omega) (by omega)).mp h.symm))]
    refine Or.inr ⟨?_, fun h => q h.1⟩
    show F_X10_takesKey_L55 Z (F_X10_takesKey_L12 Z f) (4999 + 1) (Int32.ofNat key) (Int32.ofNat (lnk key)) 0 0 t = _
    rw [F_X10_takesKey_L55, if00, if00, ek, ite_self]
/-- which key, in the model -/
theorem tkey_eq {s t : gS} {n st nx : Nat} {b : Nat → Nat} (tk : TOK s t n b st nx) (kc : KCR t) (hs : st ≤ nx) (h1 : t 65 13 = 1) : (∃ key, key ≤ 2 ∧ MT b st nx key ∧ (∀ k, k < key → ¬ MT b st nx k) ∧ F_X10_takesKey Z t = mCall (F_X10_go Z (gu t 65 16 (Int32.ofNat key))) (fun r2 s3 => mZ 1 s3)) ∨ ((∀ k, k ≤ 2 → ¬ MT b st nx k) ∧ F_X10_takesKey Z t = some (0, t)) := by
  have u : F_X10_takesKey Z t = F_X10_takesKey_L12 Z (4999 + 1) (Int32.ofNat 0) t := by
    unfold F_X10_takesKey; rw [if_pos h1]; rfl
  rw [u]
  rcases kword_eq (Z := Z) (key := 0) (f := 4999) tk kc hs (by omega) with ⟨a1, a2⟩ | ⟨a1, a2⟩
  · exact Or.inl ⟨0, by omega, a2, fun k hk => by omega, a1⟩
  · rw [a1]
    rcases kword_eq (Z := Z) (key := 1) (f := 4998) tk kc hs (by omega) with ⟨b1, b2⟩ | ⟨b1, b2⟩
    · exact Or.inl ⟨1, by omega, b2, fun k hk => by rw [show k = 0 by omega]; exact a2, b1⟩
    · have b1 : F_X10_takesKey_L12 Z 4999 (Int32.ofNat (0 + 1)) t = F_X10_takesKey_L12 Z 4998 (Int32.ofNat (1 + 1)) t := b1
      rw [b1]
      rcases kword_eq (Z := Z) (key := 2) (f := 4997) tk kc hs (by omega) with ⟨c1, c2⟩ | ⟨c1, c2⟩
      · refine Or.inl ⟨2, by omega, c2, fun k hk => ?_, c1⟩
        rcases (show k = 0 ∨ k = 1 by omega) with rfl | rfl
        · exact a2
        · exact b2
      · have c1 : F_X10_takesKey_L12 Z 4998 (Int32.ofNat (1 + 1)) t = F_X10_takesKey_L12 Z (4996 + 1) (Int32.ofNat 3) t := c1
        refine Or.inr ⟨fun k hk => ?_, ?_⟩
        · rcases (show k = 0 ∨ k = 1 ∨ k = 2 by omega) with rfl | rfl | rfl
          · exact a2
          · exact b2
          · exact c2
        · rw [c1, F_X10_takesKey_L12, if_pos (by decide)]; rfl
end
