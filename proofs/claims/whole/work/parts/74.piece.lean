/-- which of a key's names a letter is, or -1 -/
def nmi (key c : Nat) : Int32 := if key = 0 then (if c = 102 then 0 else if c = 104 then 1 else if c = 110 then 2 else -1) else if key = 1 then (if c = 98 then 0 else if c = 97 then 1 else -1) else (if c = 102 then 0 else if c = 114 then 1 else -1)
def nmn (key : Nat) : Nat := if key = 0 then 3 else 2
theorem nmi0 (c : Nat) : nmi 0 c = if c = 102 then 0 else if c = 104 then 1 else if c = 110 then 2 else -1 := rfl
theorem nmi1 (c : Nat) : nmi 1 c = if c = 98 then 0 else if c = 97 then 1 else -1 := rfl
theorem nmi2 (c : Nat) : nmi 2 c = if c = 102 then 0 else if c = 114 then 1 else -1 := rfl
theorem nmi_cases {key c : Nat} (hk : key ≤ 2) : nmi key c = -1 ∨ ∃ i, i < nmn key ∧ nmi key c = Int32.ofNat i := by
  rcases (show key = 0 ∨ key = 1 ∨ key = 2 by omega) with rfl | rfl | rfl
  · rw [nmi0]
    repeat' split
    · exact Or.inr ⟨0, by decide, rfl⟩
    · exact Or.inr ⟨1, by decide, rfl⟩
    · exact Or.inr ⟨2, by decide, rfl⟩
    · exact Or.inl rfl
  · rw [nmi1]
    repeat' split
    · exact Or.inr ⟨0, by decide, rfl⟩
    · exact Or.inr ⟨1, by decide, rfl⟩
    · exact Or.inl rfl
  · rw [nmi2]
    repeat' split
    · exact Or.inr ⟨0, by decide, rfl⟩
    · exact Or.inr ⟨1, by decide, rfl⟩
    · exact Or.inl rfl
theorem chr_tab : ∀ c, c < 128 → ((Int32.ofNat c).toUInt32 % 65536).toInt32 = Int32.ofNat c ∧ (Int32.ofNat c).toInt8.toInt32 = Int32.ofNat c := by decide +kernel
section
variable {Z : List gH}
theorem nameOf_eq {t : gS} {key c : Nat} (hk : key ≤ 2) (hc : c ≤ 255) (e : t 65 16 = Int32.ofNat key) : F_X10_nameOf Z (Int32.ofNat c) t = some (nmi key c, t) := by
  have q : ∀ {k : Nat}, k < 2 ^ 31 → (Int32.ofNat c = Int32.ofNat k ↔ c = k) := fun hk => eqk (by omega) hk
  have q102 : Int32.ofNat c = 102 ↔ c = 102 := q (by decide)
  have q104 : Int32.ofNat c = 104 ↔ c = 104 := q (by decide)
  have q110 : Int32.ofNat c = 110 ↔ c = 110 := q (by decide)
  have q98 : Int32.ofNat c = 98 ↔ c = 98 := q (by decide)
  have q97 : Int32.ofNat c = 97 ↔ c = 97 := q (by decide)
  have q114 : Int32.ofNat c = 114 ↔ c = 114 := q (by decide)
  unfold F_X10_nameOf
  rw [e, mLet_eq]
  simp only [q102, q104, q110, q98, q97, q114]
  rcases (show key = 0 ∨ key = 1 ∨ key = 2 by omega) with rfl | rfl | rfl
  · rw [if_pos (show Int32.ofNat 0 = 0 from rfl), nmi0]
    repeat' split
    all_goals rfl
  · rw [if_neg (show ¬ Int32.ofNat 1 = 0 by decide), if_pos (show Int32.ofNat 1 = 1 from rfl), nmi1]
    repeat' split
    all_goals rfl
  · rw [if_neg (show ¬ Int32.ofNat 2 = 0 by decide), if_neg (show ¬ Int32.ofNat 2 = 1 by decide), nmi2]
    repeat' split
    all_goals rfl
/-- looking for a letter in a row of letters -/
theorem look_L {l0 m c : Nat} {s : gS} (hm : sLen.getD l0 0 = m) (hm4 : m ≤ 4) : ∀ (d i : Nat), i + d = m → ∀ f, d < f → F_JL_indexOfChar_L7 Z l0 (Int32.ofNat m) f (Int32.ofNat c) (Int32.ofNat i) s = some (match (List.range d).find? (fun j => decide ((sByt.getD l0 []).getD (i + j) 0 = Int32.ofNat c)) with | none => -1 | some j => Int32.ofNat (i + j), s) := by
  intro d
  induction d with
  | zero =>
    intro i h f hf
    obtain ⟨f, rfl⟩ : ∃ g, f = g + 1 := ⟨f - 1, by omega⟩
    rw [F_JL_indexOfChar_L7, if_pos ((lek (by omega) (by omega)).mpr (by omega))]
    rfl
  | succ d ih =>
    intro i h f hf
    obtain ⟨f, rfl⟩ : ∃ g, f = g + 1 := ⟨f - 1, by omega⟩
    have ei : Int32.ofNat i + 1 = Int32.ofNat (i + 1) := addk i 1
    rw [F_JL_indexOfChar_L7, if_neg (fun q => by have := (lek (by omega) (by omega)).mp q; omega), hm, mInk (k := i) (by omega) (by omega), nnk (k := i) (by omega), ei, ih (i + 1) (by omega) f (by omega), List.range_succ_eq_map, List.find?_cons, List.find?_map]
    by_cases q : (sByt.getD l0 []).getD i 0 = Int32.ofNat c
    · rw [if_pos q]
      simp only [Nat.add_zero, q, decide_true]
    · rw [if_neg q]
      have e : ((fun j => decide ((sByt.getD l0 []).getD (i + j) 0 = Int32.ofNat c)) ∘ Nat.succ) = (fun j => decide ((sByt.getD l0 []).getD (i + 1 + j) 0 = Int32.ofNat c)) := by
        funext j
        show decide ((sByt.getD l0 []).getD (i + (j + 1)) 0 = Int32.ofNat c) = _
        rw [show i + (j + 1) = i + 1 + j by omega]
      rw [e]
      simp only [Nat.add_zero, q, decide_false]
      cases (List.range d).find? (fun j => decide ((sByt.getD l0 []).getD (i + 1 + j) 0 = Int32.ofNat c)) with
      | none => rfl
      | some j => show some (Int32.ofNat (i + 1 + j), s) = some (Int32.ofNat (i + (j + 1)), s); rw [show i + 1 + j = i + (j + 1) by omega]
theorem idx_eq {l0 m c : Nat} {s : gS} (hm : sLen.getD l0 0 = m) (hm1 : 1 ≤ m) (hm4 : m ≤ 4) (hc : c < 128) : F_JS_indexOf Z l0 (((Int32.ofNat c).toUInt32 % 65536).toInt32) s = some (match (List.range m).find? (fun j => decide ((sByt.getD l0 []).getD j 0 = Int32.ofNat c)) with | none => -1 | some j => Int32.ofNat j, s) := by
  obtain ⟨e1, e2⟩ := chr_tab c hc
  have m5 : mFuel = 5000 := rfl
  have can : F_JL_canEncode Z (Int32.ofNat c) s = some (1, s) := by
    unfold F_JL_canEncode
    have n1 : ¬ (255 : Int32) < Int32.ofNat c := fun q => by have := (ltk (a := 255) (by decide) (by omega)).mp q; omega
    rw [if_neg (lt0k (by omega)), if_neg n1]; rfl
  have len : F_JS_length Z l0 s = some (Int32.ofNat m, s) := by
    unfold F_JS_length F_JS_coder
    rw [if_pos (show vp_nar .byte 0 = 0 from rfl), mCall_some, hm]
    rcases (show m = 1 ∨ m = 2 ∨ m = 3 ∨ m = 4 by omega) with rfl | rfl | rfl | rfl <;> rfl
  have lat : F_JS_isLatin1 Z l0 s = some (1, s) := rfl
  have mx : mMax 0 0 = 0 := rfl
  have l7 := look_L (Z := Z) (l0 := l0) (m := m) (c := c) (s := s) hm hm4 m 0 (by omega) mFuel (by omega)
  have l7 : F_JL_indexOfChar_L7 Z l0 (Int32.ofNat m) mFuel (Int32.ofNat c) 0 s = _ := l7
  have lt : (0 : Int32) < Int32.ofNat m := (ltk (a := 0) (by decide) (by omega)).mpr (by omega)
  unfold F_JS_indexOf F_JS_indexOf2 F_JL_indexOf F_JL_indexOfChar
  rw [e1, lat, mCall_some, if10, len, mCall_some, can, mCall_some, if10, mLet_eq, mx, mLet_eq, hm, minK (by omega) (by omega), Nat.min_self, if_pos lt, mLet_eq, e2, l7, mCall_some, mCall_some, mCall_some]
  simp only [Nat.zero_add]
theorem name_eq {s : gS} {n st nx key c : Nat} (hn : st < n) (hn2 : n ≤ 96) (hk : key ≤ 2) (hc : c < 128) (e4 : s 36 4 = Int32.ofNat key) (e5 : s 36 5 = -2) (e6 : s 36 6 = Int32.ofNat st) (e7 : s 36 7 = Int32.ofNat nx) (h1 : st + 1 = nx) (e35 : s 35 st = Int32.ofNat c) : F_X3_nameRead Z s = some (nmi key c, s) := by
  have d : Int32.ofNat nx - Int32.ofNat st = 1 := (subk (by omega)).trans (by rw [show nx - st = 1 by omega]; rfl)
  have i3 := idx_eq (Z := Z) (l0 := 3) (m := 3) (c := c) (s := s) rfl (by omega) (by omega) hc
  have i4 := idx_eq (Z := Z) (l0 := 4) (m := 2) (c := c) (s := s) rfl (by omega) (by omega) hc
  have i5 := idx_eq (Z := Z) (l0 := 5) (m := 2) (c := c) (s := s) rfl (by omega) (by omega) hc
  have q : ∀ {k : Nat}, k < 2 ^ 31 → (Int32.ofNat k = Int32.ofNat c ↔ c = k) := fun hk => ⟨fun h => ((eqk hk (by omega)).mp h).symm, fun h => by rw [h]⟩
  have q102 : (102 : Int32) = Int32.ofNat c ↔ c = 102 := q (by decide)
  have q104 : (104 : Int32) = Int32.ofNat c ↔ c = 104 := q (by decide)
  have q110 : (110 : Int32) = Int32.ofNat c ↔ c = 110 := q (by decide)
  have q98 : (98 : Int32) = Int32.ofNat c ↔ c = 98 := q (by decide)
  have q97 : (97 : Int32) = Int32.ofNat c ↔ c = 97 := q (by decide)
  have q114 : (114 : Int32) = Int32.ofNat c ↔ c = 114 := q (by decide)
  unfold F_X3_nameRead F_X3_nameRead_J51
  rw [if_pos e5, e7, e6, d, if_pos rfl, mInk (k := st) (by omega) (by decide), mInk (k := st) (by omega) (by decide), mInk (k := st) (by omega) (by decide), nnk (k := st) (by omega), e35, i3, i4, i5, mCall_some, mCall_some, mCall_some, e4]
  rcases (show key = 0 ∨ key = 1 ∨ key = 2 by omega) with rfl | rfl | rfl
  · rw [if_pos (show Int32.ofNat 0 = 0 from rfl), nmi0]
    show some ((match [0, 1, 2].find? (fun j => decide (([102, 104, 110] : List Int32).getD j 0 = Int32.ofNat c)) with | none => -1 | some j => Int32.ofNat j), s) = _
    have g0 : ([102, 104, 110] : List Int32).getD 0 0 = 102 := rfl
    have g1 : ([102, 104, 110] : List Int32).getD 1 0 = 104 := rfl
    have g2 : ([102, 104, 110] : List Int32).getD 2 0 = 110 := rfl
    simp only [List.find?_cons, List.find?_nil, g0, g1, g2, q102, q104, q110]
    by_cases c1 : c = 102
    · subst c1; rfl
    · by_cases c2 : c = 104
      · subst c2; rfl
      · by_cases c3 : c = 110
        · subst c3; rfl
        · simp [c1, c2, c3]
  · rw [if_neg (show ¬ Int32.ofNat 1 = 0 by decide), if_pos (show Int32.ofNat 1 = 1 from rfl), nmi1]
    show some ((match [0, 1].find? (fun j => decide (([98, 97] : List Int32).getD j 0 = Int32.ofNat c)) with | none => -1 | some j => Int32.ofNat j), s) = _
    have g0 : ([98, 97] : List Int32).getD 0 0 = 98 := rfl
    have g1 : ([98, 97] : List Int32).getD 1 0 = 97 := rfl
    simp only [List.find?_cons, List.find?_nil, g0, g1, q98, q97]
    by_cases c1 : c = 98
    · subst c1; rfl
    · by_cases c2 : c = 97
      · subst c2; rfl
      · simp [c1, c2]
  · rw [if_neg (show ¬ Int32.ofNat 2 = 0 by decide), if_neg (show ¬ Int32.ofNat 2 = 1 by decide), nmi2]
    show some ((match [0, 1].find? (fun j => decide (([102, 114] : List Int32).getD j 0 = Int32.ofNat c)) with | none => -1 | some j => Int32.ofNat j), s) = _
    have g0 : ([102, 114] : List Int32).getD 0 0 = 102 := rfl
    have g1 : ([102, 114] : List Int32).getD 1 0 = 114 := rfl
    simp only [List.find?_cons, List.find?_nil, g0, g1, q102, q114]
    by_cases c1 : c = 102
    · subst c1; rfl
    · by_cases c2 : c = 114
      · subst c2; rfl
      · simp [c1, c2]
/-- a number's figures, in the class -/
theorem num_L {s t : gS} {n st nx : Nat} {b : Nat → Nat} (tp : TAPE s t n b) (e7 : s 36 7 = Int32.ofNat nx) (hnx : nx ≤ n) (hd : ∀ k, st ≤ k → k < nx → 48 ≤ b k ∧ b k ≤ 57) : ∀ (f k : Nat), st + k ≤ nx → nx - (st + k) < f → F_X3_numberRead_L7 Z f (Int32.ofNat (dv b st k)) (Int32.ofNat (st + k)) s = some (Int32.ofNat (dv b st (nx - st)), s) := by
  have hn := tp.1
  intro f
  induction f with
  | zero => intro k h1 h2; omega
  | succ f ih =>
    intro k h1 h2
    have ei : Int32.ofNat (st + k) + 1 = Int32.ofNat (st + (k + 1)) := addk (st + k) 1
    rw [F_X3_numberRead_L7, e7]
    by_cases c : nx ≤ st + k
    · rw [if_pos ((lek (by omega) (by omega)).mpr c), show nx - st = k by omega]
    · have eb := tp.2.2.2 (st + k) (by omega)
      have h := hd (st + k) (by omega) (by omega)
      have st1 : Int32.ofNat (dv b st k) * 10 + Int32.ofNat (b (st + k)) - 48 = Int32.ofNat (dv b st (k + 1)) := by
        have := dig_step (a := dv b st k) (d := b (st + k)) h.1
        rw [Int32.mul_comm] at this
        exact this
      rw [if_neg (fun q => c ((lek (by omega) (by omega)).mp q)), mInk (k := st + k) (by omega) (by decide), nnk (k := st + k) (by omega), eb.1, mLet_eq, st1, ei]
      exact ih (k + 1) (by omega) (by omega)
theorem num_eq {s t : gS} {n st nx : Nat} {b : Nat → Nat} (tp : TAPE s t n b) (e6 : s 36 6 = Int32.ofNat st) (e7 : s 36 7 = Int32.ofNat nx) (hnx : nx ≤ n) (hs : st ≤ nx) (hd : ∀ k, st ≤ k → k < nx → 48 ≤ b k ∧ b k ≤ 57) : F_X3_numberRead Z s = some (Int32.ofNat (dv b st (nx - st)), s) := by
  have m5 : mFuel = 5000 := rfl
  have hn := tp.1
  unfold F_X3_numberRead
  rw [mLet_eq, e6]
  exact num_L tp e7 hnx hd mFuel 0 (by omega) (by omega)
end
