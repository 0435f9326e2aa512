/-- a field reference of the class own: the class number and the slot; its link stands among the words -/
def gFl (own : String) (index ci k : Nat) : Prop := ∃ (C : String) (T : u_T) (N : Nat), vwCl[ci]? = some (C, T, N) ∧ k < N ∧ (∀ w ∈ u_ws C T N, w ∈ TB) ∧ (Cond.fieldLink own index (T k).1 (T k).2.1 (T k).2.2.1 ∈ TB ∨ ∃ host, Cond.fieldLinkNest own index (T k).1 (T k).2.1 (T k).2.2.1 host ∈ NW)
def gFp (own : String) (index ci k : Nat) (ty : FieldType) : Prop := ∃ (C : String) (T : u_T) (N : Nat), vwCl[ci]? = some (C, T, N) ∧ k < N ∧ (∀ w ∈ u_ws C T N, w ∈ TB) ∧ (∃ ty0 : Nat → FieldType, ∀ k, k < N → parseFieldDescriptor (T k).2.2.1 = some (ty0 k)) ∧ (∀ a, a < N → ∀ b, b < N → a ≠ b → (T a).2.1 ≠ (T b).2.1) ∧ (T k).2.2.2 = false ∧ parseFieldDescriptor (T k).2.2.1 = some ty ∧ (Cond.fieldLink own index (T k).1 (T k).2.1 (T k).2.2.1 ∈ TB ∨ ∃ host, Cond.fieldLinkNest own index (T k).1 (T k).2.1 (T k).2.2.1 host ∈ NW)
section
variable {g : Nat → List (Nat × Value) → List Value → gS → Prop} {cc : ByteArray} {own : String} {nL : Nat} {rt : Option FieldType} {R : Room} {lay : List gH} {X : (Nat → ClassId) → (Nat → Nat) → va_W → Prop} {ad : Nat → Nat} {z : Int32 × gS} {pc : Nat} {ls : List (Nat × Value)} {st : List Value} {σ : gS}
theorem g_iconst (C : gOk g cc own nL rt R lay X ad z) {n : Int} {v : Int32} (hd : gdc cc pc (.iconst n) 1 = true) (hv : Int32.ofInt n = v) (k : g (pc + 1) ls (.int v :: st) σ) : g pc ls st σ := by
  obtain ⟨p, l, e, s, m, args, below, meth, c, A, D, cy, tl, hx, hb, hr, hml, hown, hts, hlk, hK, hA, hA2, hY, hX, rfl⟩ := C
  intro H locs la hP hD hS hl
  exact lv_iconst hx hb (gdc_ok hd) hv (k H locs la hP hD hS hl)
theorem g_bipush (C : gOk g cc own nL rt R lay X ad z) {n : Int} {v : Int32} (hd : gdc cc pc (.bipush n) 2 = true) (hv : (Int8.ofInt n).toInt32 = v) (k : g (pc + 2) ls (.int v :: st) σ) : g pc ls st σ := by
  obtain ⟨p, l, e, s, m, args, below, meth, c, A, D, cy, tl, hx, hb, hr, hml, hown, hts, hlk, hK, hA, hA2, hY, hX, rfl⟩ := C
  intro H locs la hP hD hS hl
  exact lv_bipush hx hb (gdc_ok hd) hv (k H locs la hP hD hS hl)
theorem g_sipush (C : gOk g cc own nL rt R lay X ad z) {n : Int} {v : Int32} (hd : gdc cc pc (.sipush n) 3 = true) (hv : (Int16.ofInt n).toInt32 = v) (k : g (pc + 3) ls (.int v :: st) σ) : g pc ls st σ := by
  obtain ⟨p, l, e, s, m, args, below, meth, c, A, D, cy, tl, hx, hb, hr, hml, hown, hts, hlk, hK, hA, hA2, hY, hX, rfl⟩ := C
  intro H locs la hP hD hS hl
  exact lv_sipush hx hb (gdc_ok hd) hv (k H locs la hP hD hS hl)
theorem g_ldc (C : gOk g cc own nL rt R lay X ad z) {index : Nat} {v : Int32} (hd : gdc cc pc (.ldc index) 2 = true) (hw : Cond.constant own index v ∈ TB) (k : g (pc + 2) ls (.int v :: st) σ) : g pc ls st σ := by
  obtain ⟨p, l, e, s, m, args, below, meth, c, A, D, cy, tl, hx, hb, hr, hml, hown, hts, hlk, hK, hA, hA2, hY, hX, rfl⟩ := C
  intro H locs la hP hD hS hl
  exact lv_ldc hx hb hown (hts _ hw) (gdc_ok hd) (k H locs la hP hD hS hl)
theorem g_ldc_w (C : gOk g cc own nL rt R lay X ad z) {index : Nat} {v : Int32} (hd : gdc cc pc (.ldc_w index) 3 = true) (hw : Cond.constant own index v ∈ TB) (k : g (pc + 3) ls (.int v :: st) σ) : g pc ls st σ := by
  obtain ⟨p, l, e, s, m, args, below, meth, c, A, D, cy, tl, hx, hb, hr, hml, hown, hts, hlk, hK, hA, hA2, hY, hX, rfl⟩ := C
  intro H locs la hP hD hS hl
  exact lv_ldc_w hx hb hown (hts _ hw) (gdc_ok hd) (k H locs la hP hD hS hl)
theorem g_iload (C : gOk g cc own nL rt R lay X ad z) {i : Nat} {x : Int32} (j : Nat) (hd : gdc cc pc (.iload i) 2 = true) (hj : ls[j]? = some (i, .int x)) (k : g (pc + 2) ls (.int x :: st) σ) : g pc ls st σ := by
  obtain ⟨p, l, e, s, m, args, below, meth, c, A, D, cy, tl, hx, hb, hr, hml, hown, hts, hlk, hK, hA, hA2, hY, hX, rfl⟩ := C
  intro H locs la hP hD hS hl
  exact lv_iload hx hb (gdc_ok hd) (lv_at hl j hj) (k H locs la hP hD hS hl)
theorem g_iload_n (C : gOk g cc own nL rt R lay X ad z) {i : Fin 4} {x : Int32} (j : Nat) (hd : gdc cc pc (.iload_n i) 1 = true) (hj : ls[j]? = some (i.val, .int x)) (k : g (pc + 1) ls (.int x :: st) σ) : g pc ls st σ := by
  obtain ⟨p, l, e, s, m, args, below, meth, c, A, D, cy, tl, hx, hb, hr, hml, hown, hts, hlk, hK, hA, hA2, hY, hX, rfl⟩ := C
  intro H locs la hP hD hS hl
  exact lv_iload_n hx hb (gdc_ok hd) rfl (lv_at hl j hj) (k H locs la hP hD hS hl)
theorem g_istore (C : gOk g cc own nL rt R lay X ad z) {i : Nat} {x : Int32} (ls2 : List (Nat × Value)) (hd : gdc cc pc (.istore i) 2 = true) (hi : i < nL) (h2 : (i, Value.int x) :: ls.filter (fun q => !(q.1 == i) && !(q.1 + 1 == i && q.2.category == 2)) = ls2) (k : g (pc + 2) ls2 st σ) : g pc ls (.int x :: st) σ := by
  obtain ⟨p, l, e, s, m, args, below, meth, c, A, D, cy, tl, hx, hb, hr, hml, hown, hts, hlk, hK, hA, hA2, hY, hX, rfl⟩ := C
  intro H locs la hP hD hS hl
  exact lv_istore hx hb (gdc_ok hd) hl hi h2 (fun la2 hl2 => k H locs la2 hP hD hS hl2)
theorem g_istore_n (C : gOk g cc own nL rt R lay X ad z) {i : Fin 4} {x : Int32} (ls2 : List (Nat × Value)) (hd : gdc cc pc (.istore_n i) 1 = true) (hi : i.val < nL) (h2 : (i.val, Value.int x) :: ls.filter (fun q => !(q.1 == i.val) && !(q.1 + 1 == i.val && q.2.category == 2)) = ls2) (k : g (pc + 1) ls2 st σ) : g pc ls (.int x :: st) σ := by
  obtain ⟨p, l, e, s, m, args, below, meth, c, A, D, cy, tl, hx, hb, hr, hml, hown, hts, hlk, hK, hA, hA2, hY, hX, rfl⟩ := C
  intro H locs la hP hD hS hl
  exact lv_istore_n hx hb (gdc_ok hd) rfl hl hi h2 (fun la2 hl2 => k H locs la2 hP hD hS hl2)
theorem g_aload (C : gOk g cc own nL rt R lay X ad z) {i : Nat} {x : Nat} (j : Nat) (hd : gdc cc pc (.aload i) 2 = true) (hj : ls[j]? = some (i, .ref x)) (k : g (pc + 2) ls (.ref x :: st) σ) : g pc ls st σ := by
  obtain ⟨p, l, e, s, m, args, below, meth, c, A, D, cy, tl, hx, hb, hr, hml, hown, hts, hlk, hK, hA, hA2, hY, hX, rfl⟩ := C
  intro H locs la hP hD hS hl
  exact lv_aload hx hb (gdc_ok hd) (lv_at hl j hj) (k H locs la hP hD hS hl)
theorem g_aload_n (C : gOk g cc own nL rt R lay X ad z) {i : Fin 4} {x : Nat} (j : Nat) (hd : gdc cc pc (.aload_n i) 1 = true) (hj : ls[j]? = some (i.val, .ref x)) (k : g (pc + 1) ls (.ref x :: st) σ) : g pc ls st σ := by
  obtain ⟨p, l, e, s, m, args, below, meth, c, A, D, cy, tl, hx, hb, hr, hml, hown, hts, hlk, hK, hA, hA2, hY, hX, rfl⟩ := C
  intro H locs la hP hD hS hl
  exact lv_aload_n hx hb (gdc_ok hd) rfl (lv_at hl j hj) (k H locs la hP hD hS hl)
theorem g_astore (C : gOk g cc own nL rt R lay X ad z) {i : Nat} {x : Nat} (ls2 : List (Nat × Value)) (hd : gdc cc pc (.astore i) 2 = true) (hi : i < nL) (h2 : (i, Value.ref x) :: ls.filter (fun q => !(q.1 == i) && !(q.1 + 1 == i && q.2.category == 2)) = ls2) (k : g (pc + 2) ls2 st σ) : g pc ls (.ref x :: st) σ := by
  obtain ⟨p, l, e, s, m, args, below, meth, c, A, D, cy, tl, hx, hb, hr, hml, hown, hts, hlk, hK, hA, hA2, hY, hX, rfl⟩ := C
  intro H locs la hP hD hS hl
  exact lv_astore hx hb (gdc_ok hd) hl hi h2 (fun la2 hl2 => k H locs la2 hP hD hS hl2)
theorem g_astore_n (C : gOk g cc own nL rt R lay X ad z) {i : Fin 4} {x : Nat} (ls2 : List (Nat × Value)) (hd : gdc cc pc (.astore_n i) 1 = true) (hi : i.val < nL) (h2 : (i.val, Value.ref x) :: ls.filter (fun q => !(q.1 == i.val) && !(q.1 + 1 == i.val && q.2.category == 2)) = ls2) (k : g (pc + 1) ls2 st σ) : g pc ls (.ref x :: st) σ := by
  obtain ⟨p, l, e, s, m, args, below, meth, c, A, D, cy, tl, hx, hb, hr, hml, hown, hts, hlk, hK, hA, hA2, hY, hX, rfl⟩ := C
  intro H locs la hP hD hS hl
  exact lv_astore_n hx hb (gdc_ok hd) rfl hl hi h2 (fun la2 hl2 => k H locs la2 hP hD hS hl2)
theorem g_iinc (C : gOk g cc own nL rt R lay X ad z) {i : Nat} {n : Int} {x v : Int32} (j : Nat) (ls2 : List (Nat × Value)) (hd : gdc cc pc (.iinc i n) 3 = true) (hj : ls[j]? = some (i, .int x)) (hi : i < nL) (hv : x + Int32.ofInt n = v) (h2 : (i, Value.int v) :: ls.filter (fun q => !(q.1 == i) && !(q.1 + 1 == i && q.2.category == 2)) = ls2) (k : g (pc + 3) ls2 st σ) : g pc ls st σ := by
  obtain ⟨p, l, e, s, m, args, below, meth, c, A, D, cy, tl, hx, hb, hr, hml, hown, hts, hlk, hK, hA, hA2, hY, hX, rfl⟩ := C
  intro H locs la hP hD hS hl
  exact lv_iinc hx hb (gdc_ok hd) hl hj hv hi h2 (fun la2 hl2 => k H locs la2 hP hD hS hl2)
theorem g_iadd (C : gOk g cc own nL rt R lay X ad z) {x y : Int32} (hd : gdc cc pc .iadd 1 = true) (k : g (pc + 1) ls (.int (x + y) :: st) σ) : g pc ls (.int y :: .int x :: st) σ := by
  obtain ⟨p, l, e, s, m, args, below, meth, c, A, D, cy, tl, hx, hb, hr, hml, hown, hts, hlk, hK, hA, hA2, hY, hX, rfl⟩ := C
  intro H locs la hP hD hS hl
  exact lv_iadd hx hb (gdc_ok hd) (k H locs la hP hD hS hl)
theorem g_isub (C : gOk g cc own nL rt R lay X ad z) {x y : Int32} (hd : gdc cc pc .isub 1 = true) (k : g (pc + 1) ls (.int (x - y) :: st) σ) : g pc ls (.int y :: .int x :: st) σ := by
  obtain ⟨p, l, e, s, m, args, below, meth, c, A, D, cy, tl, hx, hb, hr, hml, hown, hts, hlk, hK, hA, hA2, hY, hX, rfl⟩ := C
  intro H locs la hP hD hS hl
  exact lv_isub hx hb (gdc_ok hd) (k H locs la hP hD hS hl)
theorem g_imul (C : gOk g cc own nL rt R lay X ad z) {x y : Int32} (hd : gdc cc pc .imul 1 = true) (k : g (pc + 1) ls (.int (x * y) :: st) σ) : g pc ls (.int y :: .int x :: st) σ := by
  obtain ⟨p, l, e, s, m, args, below, meth, c, A, D, cy, tl, hx, hb, hr, hml, hown, hts, hlk, hK, hA, hA2, hY, hX, rfl⟩ := C
  intro H locs la hP hD hS hl
  exact lv_imul hx hb (gdc_ok hd) (k H locs la hP hD hS hl)
theorem g_iand (C : gOk g cc own nL rt R lay X ad z) {x y : Int32} (hd : gdc cc pc .iand 1 = true) (k : g (pc + 1) ls (.int (x &&& y) :: st) σ) : g pc ls (.int y :: .int x :: st) σ := by
  obtain ⟨p, l, e, s, m, args, below, meth, c, A, D, cy, tl, hx, hb, hr, hml, hown, hts, hlk, hK, hA, hA2, hY, hX, rfl⟩ := C
  intro H locs la hP hD hS hl
  exact lv_iand hx hb (gdc_ok hd) (k H locs la hP hD hS hl)
theorem g_ior (C : gOk g cc own nL rt R lay X ad z) {x y : Int32} (hd : gdc cc pc .ior 1 = true) (k : g (pc + 1) ls (.int (x ||| y) :: st) σ) : g pc ls (.int y :: .int x :: st) σ := by
  obtain ⟨p, l, e, s, m, args, below, meth, c, A, D, cy, tl, hx, hb, hr, hml, hown, hts, hlk, hK, hA, hA2, hY, hX, rfl⟩ := C
  intro H locs la hP hD hS hl
  exact lv_ior hx hb (gdc_ok hd) (k H locs la hP hD hS hl)
theorem g_ixor (C : gOk g cc own nL rt R lay X ad z) {x y : Int32} (hd : gdc cc pc .ixor 1 = true) (k : g (pc + 1) ls (.int (x ^^^ y) :: st) σ) : g pc ls (.int y :: .int x :: st) σ := by
  obtain ⟨p, l, e, s, m, args, below, meth, c, A, D, cy, tl, hx, hb, hr, hml, hown, hts, hlk, hK, hA, hA2, hY, hX, rfl⟩ := C
  intro H locs la hP hD hS hl
  exact lv_ixor hx hb (gdc_ok hd) (k H locs la hP hD hS hl)
theorem g_ishl (C : gOk g cc own nL rt R lay X ad z) {x y : Int32} (hd : gdc cc pc .ishl 1 = true) (k : g (pc + 1) ls (.int (x <<< (y &&& 31)) :: st) σ) : g pc ls (.int y :: .int x :: st) σ := by
  obtain ⟨p, l, e, s, m, args, below, meth, c, A, D, cy, tl, hx, hb, hr, hml, hown, hts, hlk, hK, hA, hA2, hY, hX, rfl⟩ := C
  intro H locs la hP hD hS hl
  exact lv_ishl hx hb (gdc_ok hd) (k H locs la hP hD hS hl)
theorem g_ishr (C : gOk g cc own nL rt R lay X ad z) {x y : Int32} (hd : gdc cc pc .ishr 1 = true) (k : g (pc + 1) ls (.int (x >>> (y &&& 31)) :: st) σ) : g pc ls (.int y :: .int x :: st) σ := by
  obtain ⟨p, l, e, s, m, args, below, meth, c, A, D, cy, tl, hx, hb, hr, hml, hown, hts, hlk, hK, hA, hA2, hY, hX, rfl⟩ := C
  intro H locs la hP hD hS hl
  exact lv_ishr hx hb (gdc_ok hd) (k H locs la hP hD hS hl)
theorem g_iushr (C : gOk g cc own nL rt R lay X ad z) {x y : Int32} (hd : gdc cc pc .iushr 1 = true) (k : g (pc + 1) ls (.int ((x.toUInt32 >>> (y.toUInt32 &&& Int32.toUInt32 31)).toInt32) :: st) σ) : g pc ls (.int y :: .int x :: st) σ := by
  obtain ⟨p, l, e, s, m, args, below, meth, c, A, D, cy, tl, hx, hb, hr, hml, hown, hts, hlk, hK, hA, hA2, hY, hX, rfl⟩ := C
  intro H locs la hP hD hS hl
  exact lv_iushr hx hb (gdc_ok hd) rfl (k H locs la hP hD hS hl)
theorem g_idiv (C : gOk g cc own nL rt R lay X ad z) {x y : Int32} (hd : gdc cc pc .idiv 1 = true) (hne : ¬ y = 0) (k : g (pc + 1) ls (.int (x / y) :: st) σ) : g pc ls (.int y :: .int x :: st) σ := by
  obtain ⟨p, l, e, s, m, args, below, meth, c, A, D, cy, tl, hx, hb, hr, hml, hown, hts, hlk, hK, hA, hA2, hY, hX, rfl⟩ := C
  intro H locs la hP hD hS hl
  exact lv_idiv hx hb (gdc_ok hd) hne (k H locs la hP hD hS hl)
theorem g_irem (C : gOk g cc own nL rt R lay X ad z) {x y : Int32} (hd : gdc cc pc .irem 1 = true) (hne : ¬ y = 0) (k : g (pc + 1) ls (.int (x - x / y * y) :: st) σ) : g pc ls (.int y :: .int x :: st) σ := by
  obtain ⟨p, l, e, s, m, args, below, meth, c, A, D, cy, tl, hx, hb, hr, hml, hown, hts, hlk, hK, hA, hA2, hY, hX, rfl⟩ := C
  intro H locs la hP hD hS hl
  exact lv_irem hx hb (gdc_ok hd) hne (k H locs la hP hD hS hl)
theorem g_ineg (C : gOk g cc own nL rt R lay X ad z) {x : Int32} (hd : gdc cc pc .ineg 1 = true) (k : g (pc + 1) ls (.int (-x) :: st) σ) : g pc ls (.int x :: st) σ := by
  obtain ⟨p, l, e, s, m, args, below, meth, c, A, D, cy, tl, hx, hb, hr, hml, hown, hts, hlk, hK, hA, hA2, hY, hX, rfl⟩ := C
  intro H locs la hP hD hS hl
  exact lv_ineg hx hb (gdc_ok hd) (k H locs la hP hD hS hl)
theorem g_i2s (C : gOk g cc own nL rt R lay X ad z) {x : Int32} (hd : gdc cc pc .i2s 1 = true) (k : g (pc + 1) ls (.int x.toInt16.toInt32 :: st) σ) : g pc ls (.int x :: st) σ := by
  obtain ⟨p, l, e, s, m, args, below, meth, c, A, D, cy, tl, hx, hb, hr, hml, hown, hts, hlk, hK, hA, hA2, hY, hX, rfl⟩ := C
  intro H locs la hP hD hS hl
  exact lv_i2s hx hb (gdc_ok hd) rfl (k H locs la hP hD hS hl)
theorem g_i2c (C : gOk g cc own nL rt R lay X ad z) {x : Int32} (hd : gdc cc pc .i2c 1 = true) (k : g (pc + 1) ls (.int (x.toUInt32 % 65536).toInt32 :: st) σ) : g pc ls (.int x :: st) σ := by
  obtain ⟨p, l, e, s, m, args, below, meth, c, A, D, cy, tl, hx, hb, hr, hml, hown, hts, hlk, hK, hA, hA2, hY, hX, rfl⟩ := C
  intro H locs la hP hD hS hl
  exact lv_i2c hx hb (gdc_ok hd) rfl (k H locs la hP hD hS hl)
theorem g_dup (C : gOk g cc own nL rt R lay X ad z) {v : Value} (hd : gdc cc pc .dup 1 = true) (hc : v.category = 1) (k : g (pc + 1) ls (v :: v :: st) σ) : g pc ls (v :: st) σ := by
  obtain ⟨p, l, e, s, m, args, below, meth, c, A, D, cy, tl, hx, hb, hr, hml, hown, hts, hlk, hK, hA, hA2, hY, hX, rfl⟩ := C
  intro H locs la hP hD hS hl
  exact lv_dup hx hb (gdc_ok hd) hc (k H locs la hP hD hS hl)
theorem g_dup2 (C : gOk g cc own nL rt R lay X ad z) {v w : Value} (hd : gdc cc pc .dup2 1 = true) (hv : v.category = 1) (hw : w.category = 1) (k : g (pc + 1) ls (v :: w :: v :: w :: st) σ) : g pc ls (v :: w :: st) σ := by
  obtain ⟨p, l, e, s, m, args, below, meth, c, A, D, cy, tl, hx, hb, hr, hml, hown, hts, hlk, hK, hA, hA2, hY, hX, rfl⟩ := C
  intro H locs la hP hD hS hl
  exact lv_dup2_11 hx hb (gdc_ok hd) hv hw (k H locs la hP hD hS hl)
theorem g_pop (C : gOk g cc own nL rt R lay X ad z) {v : Value} (hd : gdc cc pc .pop 1 = true) (hc : v.category = 1) (k : g (pc + 1) ls st σ) : g pc ls (v :: st) σ := by
  obtain ⟨p, l, e, s, m, args, below, meth, c, A, D, cy, tl, hx, hb, hr, hml, hown, hts, hlk, hK, hA, hA2, hY, hX, rfl⟩ := C
  intro H locs la hP hD hS hl
  exact lv_pop hx hb (gdc_ok hd) hc (k H locs la hP hD hS hl)
theorem g_if_eq (C : gOk g cc own nL rt R lay X ad z) {x : Int32} {off : Int} (tgt : Nat) (hd : gdc cc pc (.ifCond .eq off) 3 = true) (ht : (pc : Int) + off = (tgt : Int)) (kt : x = 0 → g tgt ls st σ) (kf : ¬ (x = 0) → g (pc + 3) ls st σ) : g pc ls (.int x :: st) σ := by
  obtain ⟨p, l, e, s, m, args, below, meth, c, A, D, cy, tl, hx, hb, hr, hml, hown, hts, hlk, hK, hA, hA2, hY, hX, rfl⟩ := C
  intro H locs la hP hD hS hl
  exact lv_if_eq hx hb (gdc_ok hd) ht (fun h => kt h H locs la hP hD hS hl) (fun h => kf h H locs la hP hD hS hl)
theorem g_icmp_eq (C : gOk g cc own nL rt R lay X ad z) {x y : Int32} {off : Int} (tgt : Nat) (hd : gdc cc pc (.if_icmp .eq off) 3 = true) (ht : (pc : Int) + off = (tgt : Int)) (kt : x = y → g tgt ls st σ) (kf : ¬ (x = y) → g (pc + 3) ls st σ) : g pc ls (.int y :: .int x :: st) σ := by
  obtain ⟨p, l, e, s, m, args, below, meth, c, A, D, cy, tl, hx, hb, hr, hml, hown, hts, hlk, hK, hA, hA2, hY, hX, rfl⟩ := C
  intro H locs la hP hD hS hl
  exact lv_icmp_eq hx hb (gdc_ok hd) ht (fun h => kt h H locs la hP hD hS hl) (fun h => kf h H locs la hP hD hS hl)
theorem g_if_ne (C : gOk g cc own nL rt R lay X ad z) {x : Int32} {off : Int} (tgt : Nat) (hd : gdc cc pc (.ifCond .ne off) 3 = true) (ht : (pc : Int) + off = (tgt : Int)) (kt : ¬ x = 0 → g tgt ls st σ) (kf : ¬ (¬ x = 0) → g (pc + 3) ls st σ) : g pc ls (.int x :: st) σ := by
  obtain ⟨p, l, e, s, m, args, below, meth, c, A, D, cy, tl, hx, hb, hr, hml, hown, hts, hlk, hK, hA, hA2, hY, hX, rfl⟩ := C
  intro H locs la hP hD hS hl
  exact lv_if_ne hx hb (gdc_ok hd) ht (fun h => kt h H locs la hP hD hS hl) (fun h => kf h H locs la hP hD hS hl)
theorem g_icmp_ne (C : gOk g cc own nL rt R lay X ad z) {x y : Int32} {off : Int} (tgt : Nat) (hd : gdc cc pc (.if_icmp .ne off) 3 = true) (ht : (pc : Int) + off = (tgt : Int)) (kt : ¬ x = y → g tgt ls st σ) (kf : ¬ (¬ x = y) → g (pc + 3) ls st σ) : g pc ls (.int y :: .int x :: st) σ := by
  obtain ⟨p, l, e, s, m, args, below, meth, c, A, D, cy, tl, hx, hb, hr, hml, hown, hts, hlk, hK, hA, hA2, hY, hX, rfl⟩ := C
  intro H locs la hP hD hS hl
  exact lv_icmp_ne hx hb (gdc_ok hd) ht (fun h => kt h H locs la hP hD hS hl) (fun h => kf h H locs la hP hD hS hl)
theorem g_if_lt (C : gOk g cc own nL rt R lay X ad z) {x : Int32} {off : Int} (tgt : Nat) (hd : gdc cc pc (.ifCond .lt off) 3 = true) (ht : (pc : Int) + off = (tgt : Int)) (kt : x < 0 → g tgt ls st σ) (kf : ¬ (x < 0) → g (pc + 3) ls st σ) : g pc ls (.int x :: st) σ := by
  obtain ⟨p, l, e, s, m, args, below, meth, c, A, D, cy, tl, hx, hb, hr, hml, hown, hts, hlk, hK, hA, hA2, hY, hX, rfl⟩ := C
  intro H locs la hP hD hS hl
  exact lv_if_lt hx hb (gdc_ok hd) ht (fun h => kt h H locs la hP hD hS hl) (fun h => kf h H locs la hP hD hS hl)
theorem g_icmp_lt (C : gOk g cc own nL rt R lay X ad z) {x y : Int32} {off : Int} (tgt : Nat) (hd : gdc cc pc (.if_icmp .lt off) 3 = true) (ht : (pc : Int) + off = (tgt : Int)) (kt : x < y → g tgt ls st σ) (kf : ¬ (x < y) → g (pc + 3) ls st σ) : g pc ls (.int y :: .int x :: st) σ := by
  obtain ⟨p, l, e, s, m, args, below, meth, c, A, D, cy, tl, hx, hb, hr, hml, hown, hts, hlk, hK, hA, hA2, hY, hX, rfl⟩ := C
  intro H locs la hP hD hS hl
  exact lv_icmp_lt hx hb (gdc_ok hd) ht (fun h => kt h H locs la hP hD hS hl) (fun h => kf h H locs la hP hD hS hl)
theorem g_if_ge (C : gOk g cc own nL rt R lay X ad z) {x : Int32} {off : Int} (tgt : Nat) (hd : gdc cc pc (.ifCond .ge off) 3 = true) (ht : (pc : Int) + off = (tgt : Int)) (kt : 0 ≤ x → g tgt ls st σ) (kf : ¬ (0 ≤ x) → g (pc + 3) ls st σ) : g pc ls (.int x :: st) σ := by
  obtain ⟨p, l, e, s, m, args, below, meth, c, A, D, cy, tl, hx, hb, hr, hml, hown, hts, hlk, hK, hA, hA2, hY, hX, rfl⟩ := C
  intro H locs la hP hD hS hl
  exact lv_if_ge hx hb (gdc_ok hd) ht (fun h => kt h H locs la hP hD hS hl) (fun h => kf h H locs la hP hD hS hl)
theorem g_icmp_ge (C : gOk g cc own nL rt R lay X ad z) {x y : Int32} {off : Int} (tgt : Nat) (hd : gdc cc pc (.if_icmp .ge off) 3 = true) (ht : (pc : Int) + off = (tgt : Int)) (kt : y ≤ x → g tgt ls st σ) (kf : ¬ (y ≤ x) → g (pc + 3) ls st σ) : g pc ls (.int y :: .int x :: st) σ := by
  obtain ⟨p, l, e, s, m, args, below, meth, c, A, D, cy, tl, hx, hb, hr, hml, hown, hts, hlk, hK, hA, hA2, hY, hX, rfl⟩ := C
  intro H locs la hP hD hS hl
  exact lv_icmp_ge hx hb (gdc_ok hd) ht (fun h => kt h H locs la hP hD hS hl) (fun h => kf h H locs la hP hD hS hl)
theorem g_if_gt (C : gOk g cc own nL rt R lay X ad z) {x : Int32} {off : Int} (tgt : Nat) (hd : gdc cc pc (.ifCond .gt off) 3 = true) (ht : (pc : Int) + off = (tgt : Int)) (kt : 0 < x → g tgt ls st σ) (kf : ¬ (0 < x) → g (pc + 3) ls st σ) : g pc ls (.int x :: st) σ := by
  obtain ⟨p, l, e, s, m, args, below, meth, c, A, D, cy, tl, hx, hb, hr, hml, hown, hts, hlk, hK, hA, hA2, hY, hX, rfl⟩ := C
  intro H locs la hP hD hS hl
  exact lv_if_gt hx hb (gdc_ok hd) ht (fun h => kt h H locs la hP hD hS hl) (fun h => kf h H locs la hP hD hS hl)
theorem g_icmp_gt (C : gOk g cc own nL rt R lay X ad z) {x y : Int32} {off : Int} (tgt : Nat) (hd : gdc cc pc (.if_icmp .gt off) 3 = true) (ht : (pc : Int) + off = (tgt : Int)) (kt : y < x → g tgt ls st σ) (kf : ¬ (y < x) → g (pc + 3) ls st σ) : g pc ls (.int y :: .int x :: st) σ := by
  obtain ⟨p, l, e, s, m, args, below, meth, c, A, D, cy, tl, hx, hb, hr, hml, hown, hts, hlk, hK, hA, hA2, hY, hX, rfl⟩ := C
  intro H locs la hP hD hS hl
  exact lv_icmp_gt hx hb (gdc_ok hd) ht (fun h => kt h H locs la hP hD hS hl) (fun h => kf h H locs la hP hD hS hl)
theorem g_if_le (C : gOk g cc own nL rt R lay X ad z) {x : Int32} {off : Int} (tgt : Nat) (hd : gdc cc pc (.ifCond .le off) 3 = true) (ht : (pc : Int) + off = (tgt : Int)) (kt : x ≤ 0 → g tgt ls st σ) (kf : ¬ (x ≤ 0) → g (pc + 3) ls st σ) : g pc ls (.int x :: st) σ := by
  obtain ⟨p, l, e, s, m, args, below, meth, c, A, D, cy, tl, hx, hb, hr, hml, hown, hts, hlk, hK, hA, hA2, hY, hX, rfl⟩ := C
  intro H locs la hP hD hS hl
  exact lv_if_le hx hb (gdc_ok hd) ht (fun h => kt h H locs la hP hD hS hl) (fun h => kf h H locs la hP hD hS hl)
theorem g_icmp_le (C : gOk g cc own nL rt R lay X ad z) {x y : Int32} {off : Int} (tgt : Nat) (hd : gdc cc pc (.if_icmp .le off) 3 = true) (ht : (pc : Int) + off = (tgt : Int)) (kt : x ≤ y → g tgt ls st σ) (kf : ¬ (x ≤ y) → g (pc + 3) ls st σ) : g pc ls (.int y :: .int x :: st) σ := by
  obtain ⟨p, l, e, s, m, args, below, meth, c, A, D, cy, tl, hx, hb, hr, hml, hown, hts, hlk, hK, hA, hA2, hY, hX, rfl⟩ := C
  intro H locs la hP hD hS hl
  exact lv_icmp_le hx hb (gdc_ok hd) ht (fun h => kt h H locs la hP hD hS hl) (fun h => kf h H locs la hP hD hS hl)
theorem g_goto (C : gOk g cc own nL rt R lay X ad z) {off : Int} (tgt : Nat) (hd : gdc cc pc (.goto off) 3 = true) (ht : (pc : Int) + off = (tgt : Int)) (k : g tgt ls st σ) : g pc ls st σ := by
  obtain ⟨p, l, e, s, m, args, below, meth, c, A, D, cy, tl, hx, hb, hr, hml, hown, hts, hlk, hK, hA, hA2, hY, hX, rfl⟩ := C
  intro H locs la hP hD hS hl
  exact lv_goto hx hb (gdc_ok hd) ht (k H locs la hP hD hS hl)
theorem g_tblIn (C : gOk g cc own nL rt R lay X ad z) {dflt lo hi : Int} {offs : Array Int} {len : Nat} {x : Int32} {off : Int} (tgt : Nat) (hd : gdc cc pc (.tableswitch dflt lo hi offs) len = true) (h1 : ¬ x.toInt < lo) (h2 : ¬ hi < x.toInt) (ho : offs[(x.toInt - lo).toNat]? = some off) (ht : (pc : Int) + off = (tgt : Int)) (k : g tgt ls st σ) : g pc ls (.int x :: st) σ := by
  obtain ⟨p, l, e, s, m, args, below, meth, c, A, D, cy, tl, hx, hb, hr, hml, hown, hts, hlk, hK, hA, hA2, hY, hX, rfl⟩ := C
  intro H locs la hP hD hS hl
  exact lv_tableIn hx hb (gdc_ok hd) h1 h2 ho ht (k H locs la hP hD hS hl)
theorem g_tblOut (C : gOk g cc own nL rt R lay X ad z) {dflt lo hi : Int} {offs : Array Int} {len : Nat} {x : Int32} (tgt : Nat) (hd : gdc cc pc (.tableswitch dflt lo hi offs) len = true) (h : x.toInt < lo ∨ hi < x.toInt) (ht : (pc : Int) + dflt = (tgt : Int)) (k : g tgt ls st σ) : g pc ls (.int x :: st) σ := by
  obtain ⟨p, l, e, s, m, args, below, meth, c, A, D, cy, tl, hx, hb, hr, hml, hown, hts, hlk, hK, hA, hA2, hY, hX, rfl⟩ := C
  intro H locs la hP hD hS hl
  exact lv_tableOut hx hb (gdc_ok hd) h ht (k H locs la hP hD hS hl)
theorem g_lookup (C : gOk g cc own nL rt R lay X ad z) {dflt : Int} {ps : Array (Int × Int)} {len : Nat} {x : Int32} {off : Int} (tgt : Nat) (hd : gdc cc pc (.lookupswitch dflt ps) len = true) (hp : (ps.toList.zip (ps.toList.drop 1)).all (fun (a, next) => a.1 < next.1) = true) (ho : Op.lookupswitch.offset ps.toList dflt x.toInt = off) (ht : (pc : Int) + off = (tgt : Int)) (k : g tgt ls st σ) : g pc ls (.int x :: st) σ := by
  obtain ⟨p, l, e, s, m, args, below, meth, c, A, D, cy, tl, hx, hb, hr, hml, hown, hts, hlk, hK, hA, hA2, hY, hX, rfl⟩ := C
  intro H locs la hP hD hS hl
  exact lv_lookup hx hb (gdc_ok hd) hp ho ht (k H locs la hP hD hS hl)
theorem g_get (C : gOk g cc own nL rt R lay X ad z) {index i k ci : Nat} {fs : List (Option Nat)} {o : Option Nat} (hd : gdc cc pc (.getfield index) 3 = true) (hw : gFl own index ci k) (hc : lay[i]? = some (.inl (ci, fs))) (hf : fs[k]? = some o) (kk : g (pc + 3) ls (gV ad (σ i) k o :: st) σ) : g pc ls (.ref (ad i) :: st) σ := by
  obtain ⟨p, l, e, s, m, args, below, meth, c, A, D, cy, tl, hx, hb, hr, hml, hown, hts, hlk, hK, hA, hA2, hY, hX, rfl⟩ := C
  intro H locs la hP hD hS hl
  obtain ⟨C, T, N, hcl, hk, hin, hw⟩ := hw
  have he := gW_at (cy := cy) (ad := ad) (σ := σ) (tl := tl) hc
  rcases hw with hw | ⟨host, hw⟩
  · exact va_get hx hb hts hin hown hK hP i he hcl k hk (hts _ hw) (fun _ h => h) (gV_at hf) (gdc_ok hd) (kk H locs la hP hD hS hl)
  · exact va_getN hx hb hts hin hown hK hP i he hcl k hk (hY.use hw args) (fun _ h => h) (gV_at hf) (gdc_ok hd) (kk H locs la hP hD hS hl)
theorem g_put (C : gOk g cc own nL rt R lay X ad z) {index i k ci : Nat} {fs : List (Option Nat)} {v : Int32} (ty : FieldType) (hd : gdc cc pc (.putfield index) 3 = true) (hw : gFp own index ci k ty) (hc : lay[i]? = some (.inl (ci, fs))) (hf : fs[k]? = some none) (hn : narrow ty (.int v) = .int v) (hfit : fits ty (.int v) = true) (kk : g (pc + 3) ls st (gu σ i k v)) : g pc ls (.int v :: .ref (ad i) :: st) σ := by
  obtain ⟨p, l, e, s, m, args, below, meth, c, A, D, cy, tl, hx, hb, hr, hml, hown, hts, hlk, hK, hA, hA2, hY, hX, rfl⟩ := C
  intro H locs la hP hD hS hl
  obtain ⟨C, T, N, hcl, hk, hin, ⟨ty0, hty⟩, hnm, hfin, hpd, hw⟩ := hw
  have he := gW_at (cy := cy) (ad := ad) (σ := σ) (tl := tl) hc
  have hkf : k < (fs.mapIdx (gV ad (σ i))).length := by simpa using (List.getElem?_eq_some_iff.mp hf).1
  have hset : (gW cy lay ad σ tl).set i (ad i, .inr (ci, (fs.mapIdx (gV ad (σ i))).set k (.int v))) = gW cy lay ad (gu σ i k v) tl := gW_set hc (by rw [gV_set hf]; rfl)
  rcases hw with hw | ⟨host, hw⟩
  · exact va_put hx hb hts hin ty0 hty hnm hown hK hP hD hS i he hcl k hk (hts _ hw) (fun _ h => h) hfin hpd hn hfit hkf (gdc_ok hd) (fun H1 l1 hP1 hD1 hS1 => kk H1 l1 la (hset ▸ hP1) (hset ▸ hD1) hS1 hl)
  · exact va_putN hx hb hts hin ty0 hty hnm hown hK hP hD hS i he hcl k hk (hY.use hw args) (fun _ h => h) hfin hpd hn hfit hkf (gdc_ok hd) (fun H1 l1 hP1 hD1 hS1 => kk H1 l1 la (hset ▸ hP1) (hset ▸ hD1) hS1 hl)
theorem g_iald (C : gOk g cc own nL rt R lay X ad z) {i n : Nat} {x : Int32} (hd : gdc cc pc .iaload 1 = true) (hc : lay[i]? = some (.inr (0, n, none))) (hin : vp_in x n) (kk : g (pc + 1) ls (.int (σ i x.toNatClampNeg) :: st) σ) : g pc ls (.int x :: .ref (ad i) :: st) σ := by
  obtain ⟨p, l, e, s, m, args, below, meth, c, A, D, cy, tl, hx, hb, hr, hml, hown, hts, hlk, hK, hA, hA2, hY, hX, rfl⟩ := C
  intro H locs la hP hD hS hl
  exact va_iald hx hb hK hP i 0 (gW_at hc) rfl hin (gdc_ok hd) (kk H locs la hP hD hS hl)
theorem g_cald (C : gOk g cc own nL rt R lay X ad z) {i n : Nat} {x : Int32} (hd : gdc cc pc .caload 1 = true) (hc : lay[i]? = some (.inr (1, n, none))) (hin : vp_in x n) (kk : g (pc + 1) ls (.int (σ i x.toNatClampNeg) :: st) σ) : g pc ls (.int x :: .ref (ad i) :: st) σ := by
  obtain ⟨p, l, e, s, m, args, below, meth, c, A, D, cy, tl, hx, hb, hr, hml, hown, hts, hlk, hK, hA, hA2, hY, hX, rfl⟩ := C
  intro H locs la hP hD hS hl
  exact va_cald hx hb hK hP i 1 (gW_at hc) rfl hin (gdc_ok hd) (kk H locs la hP hD hS hl)
theorem g_zald (C : gOk g cc own nL rt R lay X ad z) {i n : Nat} {x : Int32} (hd : gdc cc pc .baload 1 = true) (hc : lay[i]? = some (.inr (2, n, none))) (hin : vp_in x n) (kk : g (pc + 1) ls (.int (σ i x.toNatClampNeg) :: st) σ) : g pc ls (.int x :: .ref (ad i) :: st) σ := by
  obtain ⟨p, l, e, s, m, args, below, meth, c, A, D, cy, tl, hx, hb, hr, hml, hown, hts, hlk, hK, hA, hA2, hY, hX, rfl⟩ := C
  intro H locs la hP hD hS hl
  exact va_zald hx hb hK hP i 2 (gW_at hc) rfl hin (gdc_ok hd) (kk H locs la hP hD hS hl)
theorem g_iast (C : gOk g cc own nL rt R lay X ad z) {i n : Nat} {x v : Int32} (hd : gdc cc pc .iastore 1 = true) (hc : lay[i]? = some (.inr (0, n, none))) (hin : vp_in x n) (kk : g (pc + 1) ls st (gu σ i x.toNatClampNeg v)) : g pc ls (.int v :: .int x :: .ref (ad i) :: st) σ := by
  obtain ⟨p, l, e, s, m, args, below, meth, c, A, D, cy, tl, hx, hb, hr, hml, hown, hts, hlk, hK, hA, hA2, hY, hX, rfl⟩ := C
  intro H locs la hP hD hS hl
  have hset : (gW cy lay ad σ tl).set i (ad i, .inl (cy 0, n, .inl (upd (σ i) x.toNatClampNeg v))) = gW cy lay ad (gu σ i x.toNatClampNeg v) tl := gW_set hc rfl
  exact va_iast hx hb hK hP hD hS i 0 (gW_at hc) rfl hin (gdc_ok hd) (fun H1 l1 hP1 hD1 hS1 => kk H1 l1 la (hset ▸ hP1) (hset ▸ hD1) hS1 hl)
theorem g_zast (C : gOk g cc own nL rt R lay X ad z) {i n : Nat} {x v : Int32} (hd : gdc cc pc .bastore 1 = true) (hc : lay[i]? = some (.inr (2, n, none))) (hin : vp_in x n) (kk : g (pc + 1) ls st (gu σ i x.toNatClampNeg (vp_nar .boolean v))) : g pc ls (.int v :: .int x :: .ref (ad i) :: st) σ := by
  obtain ⟨p, l, e, s, m, args, below, meth, c, A, D, cy, tl, hx, hb, hr, hml, hown, hts, hlk, hK, hA, hA2, hY, hX, rfl⟩ := C
  intro H locs la hP hD hS hl
  have hset : (gW cy lay ad σ tl).set i (ad i, .inl (cy 2, n, .inl (upd (σ i) x.toNatClampNeg (vp_nar .boolean v)))) = gW cy lay ad (gu σ i x.toNatClampNeg (vp_nar .boolean v)) tl := gW_set hc rfl
  exact va_zast hx hb hK hP hD hS i 2 (gW_at hc) rfl hin (gdc_ok hd) (fun H1 l1 hP1 hD1 hS1 => kk H1 l1 la (hset ▸ hP1) (hset ▸ hD1) hS1 hl)
theorem g_aald3 (C : gOk g cc own nL rt R lay X ad z) {i n b : Nat} {rs : List Nat} {x : Int32} (hd : gdc cc pc .aaload 1 = true) (hc : lay[i]? = some (.inr (3, n, some rs))) (hin : vp_in x n) (hr : rs[x.toNatClampNeg]? = some b) (kk : g (pc + 1) ls (.ref (ad b) :: st) σ) : g pc ls (.int x :: .ref (ad i) :: st) σ := by
  obtain ⟨p, l, e, s, m, args, below, meth, c, A, D, cy, tl, hx, hb, hr, hml, hown, hts, hlk, hK, hA, hA2, hY, hX, rfl⟩ := C
  intro H locs la hP hD hS hl
  have hk := kk H locs la hP hD hS hl
  have hv : va_rf ((rs[x.toNatClampNeg]?).map ad) = .ref (ad b) := by rw [hr]; rfl
  exact va_aldq hx hb hK hP i 3 (gW_at hc) rfl hin (gdc_ok hd) (by rw [hv]; exact hk)
theorem g_aald4 (C : gOk g cc own nL rt R lay X ad z) {i n b : Nat} {rs : List Nat} {x : Int32} (hd : gdc cc pc .aaload 1 = true) (hc : lay[i]? = some (.inr (4, n, some rs))) (hin : vp_in x n) (hr : rs[x.toNatClampNeg]? = some b) (kk : g (pc + 1) ls (.ref (ad b) :: st) σ) : g pc ls (.int x :: .ref (ad i) :: st) σ := by
  obtain ⟨p, l, e, s, m, args, below, meth, c, A, D, cy, tl, hx, hb, hr, hml, hown, hts, hlk, hK, hA, hA2, hY, hX, rfl⟩ := C
  intro H locs la hP hD hS hl
  have hk := kk H locs la hP hD hS hl
  have hv : va_rf ((rs[x.toNatClampNeg]?).map ad) = .ref (ad b) := by rw [hr]; rfl
  exact va_aldq hx hb hK hP i 4 (gW_at hc) rfl hin (gdc_ok hd) (by rw [hv]; exact hk)
theorem g_alen (C : gOk g cc own nL rt R lay X ad z) {i n t : Nat} {o : Option (List Nat)} {ty : FieldType} {cA : ClassId} (hd : gdc cc pc .arraylength 1 = true) (hc : lay[i]? = some (.inr (t, n, o))) (ht : t < 6) (kk : g (pc + 1) ls (.int (Int32.ofNat n) :: st) σ) : g pc ls (.ref (ad i) :: st) σ := by
  obtain ⟨p, l, e, s, m, args, below, meth, c, A, D, cy, tl, hx, hb, hr, hml, hown, hts, hlk, hK, hA, hA2, hY, hX, rfl⟩ := C
  intro H locs la hP hD hS hl
  have he := gW_at (cy := cy) (ad := ad) (σ := σ) (tl := tl) hc
  have hty : ∃ ty, (gTy cy)[t]? = some (cy t, ty) := by
    match t, ht with
    | 0, _ => exact ⟨_, rfl⟩
    | 1, _ => exact ⟨_, rfl⟩
    | 2, _ => exact ⟨_, rfl⟩
    | 3, _ => exact ⟨_, rfl⟩
    | 4, _ => exact ⟨_, rfl⟩
    | 5, _ => exact ⟨_, rfl⟩
  obtain ⟨ty, hty⟩ := hty
  cases o with
  | none => exact va_alen hx hb hK hP i t he hty rfl (gdc_ok hd) (kk H locs la hP hD hS hl)
  | some rs => exact va_alen hx hb hK hP i t he hty rfl (gdc_ok hd) (kk H locs la hP hD hS hl)
end
theorem g_ireturn {g : Nat → List (Nat × Value) → List Value → gS → Prop} {cc : ByteArray} {own : String} {nL : Nat} {R : Room} {lay : List gH} {X : (Nat → ClassId) → (Nat → Nat) → va_W → Prop} {ad : Nat → Nat} {z : Int32 × gS} {pc : Nat} {ls : List (Nat × Value)} {σ : gS} {ty : FieldType} {v : Int32} (C : gOk g cc own nL (some ty) R lay X ad z) (hd : gdc cc pc .ireturn 1 = true) (hn : narrow ty (.int v) = .int v) (hz : (v, σ) = z) : g pc ls [.int v] σ := by
  obtain ⟨p, l, e, s, m, args, below, meth, c, A, D, cy, tl, hx, hb, hr, hml, hown, hts, hlk, hK, hA, hA2, hY, hX, rfl⟩ := C
  intro H locs la hP hD hS hl
  exact W.zret hx hb hr hn (fun t ht hW => ⟨⟨v, σ, rfl, hz, by show va_P _ _ _ _; rw [ht]; exact hP⟩, hS.F ht⟩) hS.2.2 (gdc_ok hd) hlk
theorem g_return {g : Nat → List (Nat × Value) → List Value → gS → Prop} {cc : ByteArray} {own : String} {nL : Nat} {R : Room} {lay : List gH} {X : (Nat → ClassId) → (Nat → Nat) → va_W → Prop} {ad : Nat → Nat} {z : Int32 × gS} {pc : Nat} {ls : List (Nat × Value)} {σ : gS} (C : gOk g cc own nL none R lay X ad z) (hd : gdc cc pc .return_ 1 = true) (hz : σ = z.2) : g pc ls [] σ := by
  obtain ⟨p, l, e, s, m, args, below, meth, c, A, D, cy, tl, hx, hb, hr, hml, hown, hts, hlk, hK, hA, hA2, hY, hX, rfl⟩ := C
  intro H locs la hP hD hS hl
  exact W.vret hx hb hr (fun t ht hW => ⟨⟨σ, rfl, hz, by show va_P _ _ _ _; rw [ht]; exact hP⟩, hS.F ht⟩) hS.2.2 (gdc_ok hd) hlk
theorem h_pos {α : Type} {c : Prop} [Decidable c] {a b z : α} (h : (if c then a else b) = z) (hc : c) : a = z := by rw [if_pos hc] at h; exact h
theorem h_neg {α : Type} {c : Prop} [Decidable c] {a b z : α} (h : (if c then a else b) = z) (hc : ¬ c) : b = z := by rw [if_neg hc] at h; exact h
def gin (x : Int32) (n : Nat) : Bool := decide (¬ (x < 0 ∨ n ≤ x.toNatClampNeg))
theorem h_in {α : Type} {x : Int32} {n : Nat} {a : Option α} {z : α} (h : (if gin x n = true then a else none) = some z) : vp_in x n ∧ a = some z := by
  by_cases hc : gin x n = true
  · rw [if_pos hc] at h
    exact ⟨of_decide_eq_true hc, h⟩
  · rw [if_neg hc] at h
    cases h
theorem h_ne {α : Type} {y : Int32} {a : Option α} {z : α} (h : (if y = 0 then none else a) = some z) : ¬ y = 0 ∧ a = some z := by
  by_cases hc : y = 0
  · rw [if_pos hc] at h
    cases h
  · rw [if_neg hc] at h
    exact ⟨hc, h⟩
theorem h_bnd {α β : Type} {a : Option α} {f : α → Option β} {z : β} (h : a.bind f = some z) : ∃ q, a = some q ∧ f q = some z := by
  cases a with
  | none => cases h
  | some q => exact ⟨q, rfl, h⟩
