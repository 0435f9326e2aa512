/-! ===== words of the functions that a program writes out of the bytecode ===== -/
abbrev nn (x : Int32) : Nat := x.toNatClampNeg
def mIn {α : Type} (n : Nat) (x : Int32) (a : Option α) : Option α := if ¬ (x < 0 ∨ n ≤ nn x) then a else none
def mLet {α β : Type} (a : α) (f : α → β) : β := f a
def mCall {α β : Type} (a : Option (β × gS)) (f : β → gS → Option α) : Option α := match a with
  | none => none
  | some q => f q.1 q.2
def mNz {α : Type} (y : Int32) (a : Option α) : Option α := if y = 0 then none else a
def mZ (v : Int32) (σ : gS) : Option (Int32 × gS) := if v = 0 ∨ v = 1 then some (v, σ) else none
def mRem (x y : Int32) : Int32 := x - x / y * y
def mUsr (x y : Int32) : Int32 := (x.toUInt32 >>> (y.toUInt32 &&& Int32.toUInt32 31)).toInt32
def mMin (x y : Int32) : Int32 := if y < x then y else x
def mMax (x y : Int32) : Int32 := if x < y then y else x
def mAbs (x : Int32) : Int32 := if 0 ≤ x then x else 0 - x
def mSome {α β : Type} (o : Option β) (f : β → Option α) : Option α := match o with
  | none => none
  | some c => f c
/-- System.arraycopy of ints, from the cell a (length n0) to the cell b (length n1) -/
def mCopy {α : Type} (n0 n1 : Nat) (σ : gS) (a : Nat) (sp : Int32) (b : Nat) (dp n : Int32) (f : gS → Option α) : Option α :=
  if ¬ sp < 0 ∧ ¬ dp < 0 ∧ ¬ n < 0 ∧ nn sp + nn n ≤ n0 ∧ nn dp + nn n ≤ n1 then f (gp σ b (va_cpy (σ a) (σ b) (nn sp) (nn dp) (nn n))) else none
/-- a field reference of the class own: the class number and the slot; its link stands among the words -/
def gFl (own : String) (index ci k : Nat) : Prop := ∃ (C : String) (T : u_T) (N : Nat), vwCl[ci]? = some (C, T, N) ∧ k < N ∧ (∀ w ∈ u_ws C T N, w ∈ TB) ∧ (Cond.fieldLink own index (T k).1 (T k).2.1 (T k).2.2.1 ∈ TB ∨ ∃ host, Cond.fieldLinkNest own index (T k).1 (T k).2.1 (T k).2.2.1 host ∈ NW)
def gFp (own : String) (index ci k : Nat) (ty : FieldType) : Prop := ∃ (C : String) (T : u_T) (N : Nat), vwCl[ci]? = some (C, T, N) ∧ k < N ∧ (∀ w ∈ u_ws C T N, w ∈ TB) ∧ (∃ ty0 : Nat → FieldType, ∀ k, k < N → parseFieldDescriptor (T k).2.2.1 = some (ty0 k)) ∧ (∀ a, a < N → ∀ b, b < N → a ≠ b → (T a).2.1 ≠ (T b).2.1) ∧ (T k).2.2.2 = false ∧ parseFieldDescriptor (T k).2.2.1 = some ty ∧ (Cond.fieldLink own index (T k).1 (T k).2.1 (T k).2.2.1 ∈ TB ∨ ∃ host, Cond.fieldLinkNest own index (T k).1 (T k).2.1 (T k).2.2.1 host ∈ NW)
/-- a method's words, and those of a link to it -/
def gCw (y : MethodName) (cc : ByteArray) (nL : Nat) (rt : Option FieldType) (n : Nat) : Prop := Cond.code y cc nL rt ∈ TB ∧ Cond.initialized y.cls ∈ TB ∧ (y.cls ≠ "java/lang/invoke/MethodHandle" ∧ y.cls ≠ "java/lang/invoke/VarHandle" ∧ (parseMethodDescriptor y.desc).map (fun d => d.parameters.length) = some n)
def gCi (y : MethodName) : Prop := Cond.instanceMethod y ∈ TB ∧ Cond.selects y.cls y y ∈ TB
def gCs (y : MethodName) : Prop := Cond.static y ∈ TB
def gCn (own : String) (index : Nat) (y : MethodName) : Prop := Cond.methodLink own index y ∈ TB ∨ ∃ host, Cond.methodLinkNest own index y host ∈ NW
theorem h_in {α : Type} {x : Int32} {n : Nat} {a : Option α} {z : α} (h : mIn n x a = some z) : vp_in x n ∧ a = some z := by
  unfold mIn at h
  by_cases hc : ¬ (x < 0 ∨ n ≤ nn x)
  · rw [if_pos hc] at h
    exact ⟨hc, h⟩
  · rw [if_neg hc] at h
    cases h
section
variable {g : Nat → List (Nat × Value) → List Value → gS → Prop} {T : List (Nat × Instr × Nat)} {own : String} {nL : Nat} {rt : Option FieldType} {R : Room} {Z : List gH} {ad : Nat → Nat} {nc ns : Nat} {E : (p : Program) → (l : Launch) → (e : Env) → (s : State) → (m : MethodId) → (args : Array Value) → (below : List Frame) → (meth : Method) → (c : Code) → (A : Nat → Prop) → (D : va_G) → (cy : Nat → ClassId) → (Q : State → Prop) → Prop} {pc : Nat} {ls : List (Nat × Value)} {st : List Value} {σ : gS} {α : Type} {z : α}
theorem g_iconst (C : gOkQ g T own nL rt R Z ad nc ns E) (j : Nat) {n : Int} {v : Int32} (hd : T[j]? = some (pc, .iconst n, 1)) (hv : Int32.ofInt n = v) (k : g (pc + 1) ls (.int v :: st) σ) : g pc ls st σ := by
  obtain ⟨p, l, e, s, m, args, below, meth, c, A, D, cy, Q, hx, hT, hr, hml, hown, hts, hlk, hK, hA, hY, hE, hnc, hns, rfl⟩ := C
  intro H locs la hP hD hS hl
  exact lv_iconst hx rfl (hT j _ _ _ hd) hv (k H locs la hP hD hS hl)
theorem g_bipush (C : gOkQ g T own nL rt R Z ad nc ns E) (j : Nat) {n : Int} {v : Int32} (hd : T[j]? = some (pc, .bipush n, 2)) (hv : (Int8.ofInt n).toInt32 = v) (k : g (pc + 2) ls (.int v :: st) σ) : g pc ls st σ := by
  obtain ⟨p, l, e, s, m, args, below, meth, c, A, D, cy, Q, hx, hT, hr, hml, hown, hts, hlk, hK, hA, hY, hE, hnc, hns, rfl⟩ := C
  intro H locs la hP hD hS hl
  exact lv_bipush hx rfl (hT j _ _ _ hd) hv (k H locs la hP hD hS hl)
theorem g_sipush (C : gOkQ g T own nL rt R Z ad nc ns E) (j : Nat) {n : Int} {v : Int32} (hd : T[j]? = some (pc, .sipush n, 3)) (hv : (Int16.ofInt n).toInt32 = v) (k : g (pc + 3) ls (.int v :: st) σ) : g pc ls st σ := by
  obtain ⟨p, l, e, s, m, args, below, meth, c, A, D, cy, Q, hx, hT, hr, hml, hown, hts, hlk, hK, hA, hY, hE, hnc, hns, rfl⟩ := C
  intro H locs la hP hD hS hl
  exact lv_sipush hx rfl (hT j _ _ _ hd) hv (k H locs la hP hD hS hl)
theorem g_ldc (C : gOkQ g T own nL rt R Z ad nc ns E) (j : Nat) {index : Nat} {v : Int32} (hd : T[j]? = some (pc, .ldc index, 2)) (hw : Cond.constant own index v ∈ TB) (k : g (pc + 2) ls (.int v :: st) σ) : g pc ls st σ := by
  obtain ⟨p, l, e, s, m, args, below, meth, c, A, D, cy, Q, hx, hT, hr, hml, hown, hts, hlk, hK, hA, hY, hE, hnc, hns, rfl⟩ := C
  intro H locs la hP hD hS hl
  exact lv_ldc hx rfl hown (hts _ hw) (hT j _ _ _ hd) (k H locs la hP hD hS hl)
theorem g_ldcw (C : gOkQ g T own nL rt R Z ad nc ns E) (j : Nat) {index : Nat} {v : Int32} (hd : T[j]? = some (pc, .ldc_w index, 3)) (hw : Cond.constant own index v ∈ TB) (k : g (pc + 3) ls (.int v :: st) σ) : g pc ls st σ := by
  obtain ⟨p, l, e, s, m, args, below, meth, c, A, D, cy, Q, hx, hT, hr, hml, hown, hts, hlk, hK, hA, hY, hE, hnc, hns, rfl⟩ := C
  intro H locs la hP hD hS hl
  exact lv_ldcw hx rfl hown (hts _ hw) (hT j _ _ _ hd) (k H locs la hP hD hS hl)
theorem g_iload (C : gOkQ g T own nL rt R Z ad nc ns E) (j : Nat) {i : Nat} {x : Int32} (q : Nat) (hd : T[j]? = some (pc, .iload i, 2)) (hj : ls[q]? = some (i, .int x)) (k : g (pc + 2) ls (.int x :: st) σ) : g pc ls st σ := by
  obtain ⟨p, l, e, s, m, args, below, meth, c, A, D, cy, Q, hx, hT, hr, hml, hown, hts, hlk, hK, hA, hY, hE, hnc, hns, rfl⟩ := C
  intro H locs la hP hD hS hl
  exact lv_iload hx rfl (hT j _ _ _ hd) (lv_at hl q hj) (k H locs la hP hD hS hl)
theorem g_iload_n (C : gOkQ g T own nL rt R Z ad nc ns E) (j : Nat) {i : Fin 4} {x : Int32} (q : Nat) (hd : T[j]? = some (pc, .iload_n i, 1)) (hj : ls[q]? = some (i.val, .int x)) (k : g (pc + 1) ls (.int x :: st) σ) : g pc ls st σ := by
  obtain ⟨p, l, e, s, m, args, below, meth, c, A, D, cy, Q, hx, hT, hr, hml, hown, hts, hlk, hK, hA, hY, hE, hnc, hns, rfl⟩ := C
  intro H locs la hP hD hS hl
  exact lv_iload_n hx rfl (hT j _ _ _ hd) rfl (lv_at hl q hj) (k H locs la hP hD hS hl)
theorem g_istore (C : gOkQ g T own nL rt R Z ad nc ns E) (j : Nat) {i : Nat} {x : Int32} (ls2 : List (Nat × Value)) (hd : T[j]? = some (pc, .istore i, 2)) (hi : i < nL) (h2 : (i, Value.int x) :: ls.filter (fun q => !(q.1 == i) && !(q.1 + 1 == i && q.2.category == 2)) = ls2) (k : g (pc + 2) ls2 st σ) : g pc ls (.int x :: st) σ := by
  obtain ⟨p, l, e, s, m, args, below, meth, c, A, D, cy, Q, hx, hT, hr, hml, hown, hts, hlk, hK, hA, hY, hE, hnc, hns, rfl⟩ := C
  intro H locs la hP hD hS hl
  exact lv_istore hx rfl (hT j _ _ _ hd) hl hi h2 (fun la2 hl2 => k H locs la2 hP hD hS hl2)
theorem g_istore_n (C : gOkQ g T own nL rt R Z ad nc ns E) (j : Nat) {i : Fin 4} {x : Int32} (ls2 : List (Nat × Value)) (hd : T[j]? = some (pc, .istore_n i, 1)) (hi : i.val < nL) (h2 : (i.val, Value.int x) :: ls.filter (fun q => !(q.1 == i.val) && !(q.1 + 1 == i.val && q.2.category == 2)) = ls2) (k : g (pc + 1) ls2 st σ) : g pc ls (.int x :: st) σ := by
  obtain ⟨p, l, e, s, m, args, below, meth, c, A, D, cy, Q, hx, hT, hr, hml, hown, hts, hlk, hK, hA, hY, hE, hnc, hns, rfl⟩ := C
  intro H locs la hP hD hS hl
  exact lv_istore_n hx rfl (hT j _ _ _ hd) rfl hl hi h2 (fun la2 hl2 => k H locs la2 hP hD hS hl2)
theorem g_aload (C : gOkQ g T own nL rt R Z ad nc ns E) (j : Nat) {i : Nat} {x : Nat} (q : Nat) (hd : T[j]? = some (pc, .aload i, 2)) (hj : ls[q]? = some (i, .ref x)) (k : g (pc + 2) ls (.ref x :: st) σ) : g pc ls st σ := by
  obtain ⟨p, l, e, s, m, args, below, meth, c, A, D, cy, Q, hx, hT, hr, hml, hown, hts, hlk, hK, hA, hY, hE, hnc, hns, rfl⟩ := C
  intro H locs la hP hD hS hl
  exact lv_aload hx rfl (hT j _ _ _ hd) (lv_at hl q hj) (k H locs la hP hD hS hl)
theorem g_aload_n (C : gOkQ g T own nL rt R Z ad nc ns E) (j : Nat) {i : Fin 4} {x : Nat} (q : Nat) (hd : T[j]? = some (pc, .aload_n i, 1)) (hj : ls[q]? = some (i.val, .ref x)) (k : g (pc + 1) ls (.ref x :: st) σ) : g pc ls st σ := by
  obtain ⟨p, l, e, s, m, args, below, meth, c, A, D, cy, Q, hx, hT, hr, hml, hown, hts, hlk, hK, hA, hY, hE, hnc, hns, rfl⟩ := C
  intro H locs la hP hD hS hl
  exact lv_aload_n hx rfl (hT j _ _ _ hd) rfl (lv_at hl q hj) (k H locs la hP hD hS hl)
theorem g_astore (C : gOkQ g T own nL rt R Z ad nc ns E) (j : Nat) {i : Nat} {x : Nat} (ls2 : List (Nat × Value)) (hd : T[j]? = some (pc, .astore i, 2)) (hi : i < nL) (h2 : (i, Value.ref x) :: ls.filter (fun q => !(q.1 == i) && !(q.1 + 1 == i && q.2.category == 2)) = ls2) (k : g (pc + 2) ls2 st σ) : g pc ls (.ref x :: st) σ := by
  obtain ⟨p, l, e, s, m, args, below, meth, c, A, D, cy, Q, hx, hT, hr, hml, hown, hts, hlk, hK, hA, hY, hE, hnc, hns, rfl⟩ := C
  intro H locs la hP hD hS hl
  exact lv_astore hx rfl (hT j _ _ _ hd) hl hi h2 (fun la2 hl2 => k H locs la2 hP hD hS hl2)
theorem g_astore_n (C : gOkQ g T own nL rt R Z ad nc ns E) (j : Nat) {i : Fin 4} {x : Nat} (ls2 : List (Nat × Value)) (hd : T[j]? = some (pc, .astore_n i, 1)) (hi : i.val < nL) (h2 : (i.val, Value.ref x) :: ls.filter (fun q => !(q.1 == i.val) && !(q.1 + 1 == i.val && q.2.category == 2)) = ls2) (k : g (pc + 1) ls2 st σ) : g pc ls (.ref x :: st) σ := by
  obtain ⟨p, l, e, s, m, args, below, meth, c, A, D, cy, Q, hx, hT, hr, hml, hown, hts, hlk, hK, hA, hY, hE, hnc, hns, rfl⟩ := C
  intro H locs la hP hD hS hl
  exact lv_astore_n hx rfl (hT j _ _ _ hd) rfl hl hi h2 (fun la2 hl2 => k H locs la2 hP hD hS hl2)
theorem g_iinc (C : gOkQ g T own nL rt R Z ad nc ns E) (j : Nat) {i : Nat} {n : Int} {x : Int32} (q : Nat) (v : Int32) (ls2 : List (Nat × Value)) (hd : T[j]? = some (pc, .iinc i n, 3)) (hj : ls[q]? = some (i, .int x)) (hi : i < nL) (hv : x + Int32.ofInt n = v) (h2 : (i, Value.int v) :: ls.filter (fun q => !(q.1 == i) && !(q.1 + 1 == i && q.2.category == 2)) = ls2) (k : g (pc + 3) ls2 st σ) : g pc ls st σ := by
  obtain ⟨p, l, e, s, m, args, below, meth, c, A, D, cy, Q, hx, hT, hr, hml, hown, hts, hlk, hK, hA, hY, hE, hnc, hns, rfl⟩ := C
  intro H locs la hP hD hS hl
  exact lv_iinc hx rfl (hT j _ _ _ hd) hl hj hv hi h2 (fun la2 hl2 => k H locs la2 hP hD hS hl2)
theorem g_iadd (C : gOkQ g T own nL rt R Z ad nc ns E) (j : Nat) {x y : Int32} (hd : T[j]? = some (pc, .iadd, 1)) (k : g (pc + 1) ls (.int (x + y) :: st) σ) : g pc ls (.int y :: .int x :: st) σ := by
  obtain ⟨p, l, e, s, m, args, below, meth, c, A, D, cy, Q, hx, hT, hr, hml, hown, hts, hlk, hK, hA, hY, hE, hnc, hns, rfl⟩ := C
  intro H locs la hP hD hS hl
  exact lv_iadd hx rfl (hT j _ _ _ hd) (k H locs la hP hD hS hl)
theorem g_isub (C : gOkQ g T own nL rt R Z ad nc ns E) (j : Nat) {x y : Int32} (hd : T[j]? = some (pc, .isub, 1)) (k : g (pc + 1) ls (.int (x - y) :: st) σ) : g pc ls (.int y :: .int x :: st) σ := by
  obtain ⟨p, l, e, s, m, args, below, meth, c, A, D, cy, Q, hx, hT, hr, hml, hown, hts, hlk, hK, hA, hY, hE, hnc, hns, rfl⟩ := C
  intro H locs la hP hD hS hl
  exact lv_isub hx rfl (hT j _ _ _ hd) (k H locs la hP hD hS hl)
theorem g_imul (C : gOkQ g T own nL rt R Z ad nc ns E) (j : Nat) {x y : Int32} (hd : T[j]? = some (pc, .imul, 1)) (k : g (pc + 1) ls (.int (x * y) :: st) σ) : g pc ls (.int y :: .int x :: st) σ := by
  obtain ⟨p, l, e, s, m, args, below, meth, c, A, D, cy, Q, hx, hT, hr, hml, hown, hts, hlk, hK, hA, hY, hE, hnc, hns, rfl⟩ := C
  intro H locs la hP hD hS hl
  exact lv_imul hx rfl (hT j _ _ _ hd) (k H locs la hP hD hS hl)
theorem g_iand (C : gOkQ g T own nL rt R Z ad nc ns E) (j : Nat) {x y : Int32} (hd : T[j]? = some (pc, .iand, 1)) (k : g (pc + 1) ls (.int (x &&& y) :: st) σ) : g pc ls (.int y :: .int x :: st) σ := by
  obtain ⟨p, l, e, s, m, args, below, meth, c, A, D, cy, Q, hx, hT, hr, hml, hown, hts, hlk, hK, hA, hY, hE, hnc, hns, rfl⟩ := C
  intro H locs la hP hD hS hl
  exact lv_iand hx rfl (hT j _ _ _ hd) (k H locs la hP hD hS hl)
theorem g_ior (C : gOkQ g T own nL rt R Z ad nc ns E) (j : Nat) {x y : Int32} (hd : T[j]? = some (pc, .ior, 1)) (k : g (pc + 1) ls (.int (x ||| y) :: st) σ) : g pc ls (.int y :: .int x :: st) σ := by
  obtain ⟨p, l, e, s, m, args, below, meth, c, A, D, cy, Q, hx, hT, hr, hml, hown, hts, hlk, hK, hA, hY, hE, hnc, hns, rfl⟩ := C
  intro H locs la hP hD hS hl
  exact lv_ior hx rfl (hT j _ _ _ hd) (k H locs la hP hD hS hl)
theorem g_ixor (C : gOkQ g T own nL rt R Z ad nc ns E) (j : Nat) {x y : Int32} (hd : T[j]? = some (pc, .ixor, 1)) (k : g (pc + 1) ls (.int (x ^^^ y) :: st) σ) : g pc ls (.int y :: .int x :: st) σ := by
  obtain ⟨p, l, e, s, m, args, below, meth, c, A, D, cy, Q, hx, hT, hr, hml, hown, hts, hlk, hK, hA, hY, hE, hnc, hns, rfl⟩ := C
  intro H locs la hP hD hS hl
  exact lv_ixor hx rfl (hT j _ _ _ hd) (k H locs la hP hD hS hl)
theorem g_ishl (C : gOkQ g T own nL rt R Z ad nc ns E) (j : Nat) {x y : Int32} (hd : T[j]? = some (pc, .ishl, 1)) (k : g (pc + 1) ls (.int (x <<< (y &&& 31)) :: st) σ) : g pc ls (.int y :: .int x :: st) σ := by
  obtain ⟨p, l, e, s, m, args, below, meth, c, A, D, cy, Q, hx, hT, hr, hml, hown, hts, hlk, hK, hA, hY, hE, hnc, hns, rfl⟩ := C
  intro H locs la hP hD hS hl
  exact lv_ishl hx rfl (hT j _ _ _ hd) (k H locs la hP hD hS hl)
theorem g_ishr (C : gOkQ g T own nL rt R Z ad nc ns E) (j : Nat) {x y : Int32} (hd : T[j]? = some (pc, .ishr, 1)) (k : g (pc + 1) ls (.int (x >>> (y &&& 31)) :: st) σ) : g pc ls (.int y :: .int x :: st) σ := by
  obtain ⟨p, l, e, s, m, args, below, meth, c, A, D, cy, Q, hx, hT, hr, hml, hown, hts, hlk, hK, hA, hY, hE, hnc, hns, rfl⟩ := C
  intro H locs la hP hD hS hl
  exact lv_ishr hx rfl (hT j _ _ _ hd) (k H locs la hP hD hS hl)
theorem g_iushr (C : gOkQ g T own nL rt R Z ad nc ns E) (j : Nat) {x y : Int32} (hd : T[j]? = some (pc, .iushr, 1)) (k : g (pc + 1) ls (.int (mUsr x y) :: st) σ) : g pc ls (.int y :: .int x :: st) σ := by
  obtain ⟨p, l, e, s, m, args, below, meth, c, A, D, cy, Q, hx, hT, hr, hml, hown, hts, hlk, hK, hA, hY, hE, hnc, hns, rfl⟩ := C
  intro H locs la hP hD hS hl
  exact lv_iushr hx rfl (hT j _ _ _ hd) rfl (k H locs la hP hD hS hl)
theorem g_idivK (C : gOkQ g T own nL rt R Z ad nc ns E) (j : Nat) {x y : Int32} (hd : T[j]? = some (pc, .idiv, 1)) (hne : ¬ y = 0) (k : g (pc + 1) ls (.int (x / y) :: st) σ) : g pc ls (.int y :: .int x :: st) σ := by
  obtain ⟨p, l, e, s, m, args, below, meth, c, A, D, cy, Q, hx, hT, hr, hml, hown, hts, hlk, hK, hA, hY, hE, hnc, hns, rfl⟩ := C
  intro H locs la hP hD hS hl
  exact lv_idiv hx rfl (hT j _ _ _ hd) hne (k H locs la hP hD hS hl)
theorem g_iremK (C : gOkQ g T own nL rt R Z ad nc ns E) (j : Nat) {x y : Int32} (hd : T[j]? = some (pc, .irem, 1)) (hne : ¬ y = 0) (k : g (pc + 1) ls (.int (mRem x y) :: st) σ) : g pc ls (.int y :: .int x :: st) σ := by
  obtain ⟨p, l, e, s, m, args, below, meth, c, A, D, cy, Q, hx, hT, hr, hml, hown, hts, hlk, hK, hA, hY, hE, hnc, hns, rfl⟩ := C
  intro H locs la hP hD hS hl
  exact lv_irem hx rfl (hT j _ _ _ hd) hne (k H locs la hP hD hS hl)
theorem g_idiv (C : gOkQ g T own nL rt R Z ad nc ns E) (j : Nat) {x y : Int32} {a : Option α} (hd : T[j]? = some (pc, .idiv, 1)) (h : mNz y a = some z) (k : a = some z → g (pc + 1) ls (.int (x / y) :: st) σ) : g pc ls (.int y :: .int x :: st) σ := by
  obtain ⟨p, l, e, s, m, args, below, meth, c, A, D, cy, Q, hx, hT, hr, hml, hown, hts, hlk, hK, hA, hY, hE, hnc, hns, rfl⟩ := C
  intro H locs la hP hD hS hl
  unfold mNz at h
  by_cases hne : y = 0
  · rw [if_pos hne] at h; cases h
  · rw [if_neg hne] at h
    exact lv_idiv hx rfl (hT j _ _ _ hd) hne (k h H locs la hP hD hS hl)
theorem g_irem (C : gOkQ g T own nL rt R Z ad nc ns E) (j : Nat) {x y : Int32} {a : Option α} (hd : T[j]? = some (pc, .irem, 1)) (h : mNz y a = some z) (k : a = some z → g (pc + 1) ls (.int (mRem x y) :: st) σ) : g pc ls (.int y :: .int x :: st) σ := by
  obtain ⟨p, l, e, s, m, args, below, meth, c, A, D, cy, Q, hx, hT, hr, hml, hown, hts, hlk, hK, hA, hY, hE, hnc, hns, rfl⟩ := C
  intro H locs la hP hD hS hl
  unfold mNz at h
  by_cases hne : y = 0
  · rw [if_pos hne] at h; cases h
  · rw [if_neg hne] at h
    exact lv_irem hx rfl (hT j _ _ _ hd) hne (k h H locs la hP hD hS hl)
theorem g_ineg (C : gOkQ g T own nL rt R Z ad nc ns E) (j : Nat) {x : Int32} (hd : T[j]? = some (pc, .ineg, 1)) (k : g (pc + 1) ls (.int (-x) :: st) σ) : g pc ls (.int x :: st) σ := by
  obtain ⟨p, l, e, s, m, args, below, meth, c, A, D, cy, Q, hx, hT, hr, hml, hown, hts, hlk, hK, hA, hY, hE, hnc, hns, rfl⟩ := C
  intro H locs la hP hD hS hl
  exact lv_ineg hx rfl (hT j _ _ _ hd) (k H locs la hP hD hS hl)
theorem g_i2s (C : gOkQ g T own nL rt R Z ad nc ns E) (j : Nat) {x : Int32} (hd : T[j]? = some (pc, .i2s, 1)) (k : g (pc + 1) ls (.int x.toInt16.toInt32 :: st) σ) : g pc ls (.int x :: st) σ := by
  obtain ⟨p, l, e, s, m, args, below, meth, c, A, D, cy, Q, hx, hT, hr, hml, hown, hts, hlk, hK, hA, hY, hE, hnc, hns, rfl⟩ := C
  intro H locs la hP hD hS hl
  exact lv_i2s hx rfl (hT j _ _ _ hd) rfl (k H locs la hP hD hS hl)
theorem g_i2c (C : gOkQ g T own nL rt R Z ad nc ns E) (j : Nat) {x : Int32} (hd : T[j]? = some (pc, .i2c, 1)) (k : g (pc + 1) ls (.int (x.toUInt32 % 65536).toInt32 :: st) σ) : g pc ls (.int x :: st) σ := by
  obtain ⟨p, l, e, s, m, args, below, meth, c, A, D, cy, Q, hx, hT, hr, hml, hown, hts, hlk, hK, hA, hY, hE, hnc, hns, rfl⟩ := C
  intro H locs la hP hD hS hl
  exact lv_i2c hx rfl (hT j _ _ _ hd) rfl (k H locs la hP hD hS hl)
theorem g_dup (C : gOkQ g T own nL rt R Z ad nc ns E) (j : Nat) {v : Value} (hd : T[j]? = some (pc, .dup, 1)) (hc : v.category = 1) (k : g (pc + 1) ls (v :: v :: st) σ) : g pc ls (v :: st) σ := by
  obtain ⟨p, l, e, s, m, args, below, meth, c, A, D, cy, Q, hx, hT, hr, hml, hown, hts, hlk, hK, hA, hY, hE, hnc, hns, rfl⟩ := C
  intro H locs la hP hD hS hl
  exact lv_dup hx rfl (hT j _ _ _ hd) hc (k H locs la hP hD hS hl)
theorem g_dup2 (C : gOkQ g T own nL rt R Z ad nc ns E) (j : Nat) {v w : Value} (hd : T[j]? = some (pc, .dup2, 1)) (hv : v.category = 1) (hw : w.category = 1) (k : g (pc + 1) ls (v :: w :: v :: w :: st) σ) : g pc ls (v :: w :: st) σ := by
  obtain ⟨p, l, e, s, m, args, below, meth, c, A, D, cy, Q, hx, hT, hr, hml, hown, hts, hlk, hK, hA, hY, hE, hnc, hns, rfl⟩ := C
  intro H locs la hP hD hS hl
  exact lv_dup2_11 hx rfl (hT j _ _ _ hd) hv hw (k H locs la hP hD hS hl)
theorem g_pop (C : gOkQ g T own nL rt R Z ad nc ns E) (j : Nat) {v : Value} (hd : T[j]? = some (pc, .pop, 1)) (hc : v.category = 1) (k : g (pc + 1) ls st σ) : g pc ls (v :: st) σ := by
  obtain ⟨p, l, e, s, m, args, below, meth, c, A, D, cy, Q, hx, hT, hr, hml, hown, hts, hlk, hK, hA, hY, hE, hnc, hns, rfl⟩ := C
  intro H locs la hP hD hS hl
  exact lv_pop hx rfl (hT j _ _ _ hd) hc (k H locs la hP hD hS hl)
theorem g_if_eq (C : gOkQ g T own nL rt R Z ad nc ns E) (j : Nat) {x : Int32} {off : Int} (tgt : Nat) (hd : T[j]? = some (pc, .ifCond .eq off, 3)) (ht : (pc : Int) + off = (tgt : Int)) {a b : Option α} [inst : Decidable (x = 0)] (h : (@ite (Option α) (x = 0) inst a b) = some z) (kt : a = some z → g tgt ls st σ) (kf : b = some z → g (pc + 3) ls st σ) : g pc ls (.int x :: st) σ := by
  obtain ⟨p, l, e, s, m, args, below, meth, c, A, D, cy, Q, hx, hT, hr, hml, hown, hts, hlk, hK, hA, hY, hE, hnc, hns, rfl⟩ := C
  intro H locs la hP hD hS hl
  exact lv_if_eq hx rfl (hT j _ _ _ hd) ht (fun hc => kt (by rw [if_pos hc] at h; exact h) H locs la hP hD hS hl) (fun hc => kf (by rw [if_neg hc] at h; exact h) H locs la hP hD hS hl)
theorem g_icmp_eq (C : gOkQ g T own nL rt R Z ad nc ns E) (j : Nat) {x y : Int32} {off : Int} (tgt : Nat) (hd : T[j]? = some (pc, .if_icmp .eq off, 3)) (ht : (pc : Int) + off = (tgt : Int)) {a b : Option α} [inst : Decidable (x = y)] (h : (@ite (Option α) (x = y) inst a b) = some z) (kt : a = some z → g tgt ls st σ) (kf : b = some z → g (pc + 3) ls st σ) : g pc ls (.int y :: .int x :: st) σ := by
  obtain ⟨p, l, e, s, m, args, below, meth, c, A, D, cy, Q, hx, hT, hr, hml, hown, hts, hlk, hK, hA, hY, hE, hnc, hns, rfl⟩ := C
  intro H locs la hP hD hS hl
  exact lv_icmp_eq hx rfl (hT j _ _ _ hd) ht (fun hc => kt (by rw [if_pos hc] at h; exact h) H locs la hP hD hS hl) (fun hc => kf (by rw [if_neg hc] at h; exact h) H locs la hP hD hS hl)
theorem g_if_ne (C : gOkQ g T own nL rt R Z ad nc ns E) (j : Nat) {x : Int32} {off : Int} (tgt : Nat) (hd : T[j]? = some (pc, .ifCond .ne off, 3)) (ht : (pc : Int) + off = (tgt : Int)) {a b : Option α} [inst : Decidable (x = 0)] (h : (@ite (Option α) (x = 0) inst a b) = some z) (kt : b = some z → g tgt ls st σ) (kf : a = some z → g (pc + 3) ls st σ) : g pc ls (.int x :: st) σ := by
  obtain ⟨p, l, e, s, m, args, below, meth, c, A, D, cy, Q, hx, hT, hr, hml, hown, hts, hlk, hK, hA, hY, hE, hnc, hns, rfl⟩ := C
  intro H locs la hP hD hS hl
  exact lv_if_ne hx rfl (hT j _ _ _ hd) ht (fun hc => kt (by rw [if_neg hc] at h; exact h) H locs la hP hD hS hl) (fun hc => kf (by rw [if_pos (by simpa using hc)] at h; exact h) H locs la hP hD hS hl)
theorem g_icmp_ne (C : gOkQ g T own nL rt R Z ad nc ns E) (j : Nat) {x y : Int32} {off : Int} (tgt : Nat) (hd : T[j]? = some (pc, .if_icmp .ne off, 3)) (ht : (pc : Int) + off = (tgt : Int)) {a b : Option α} [inst : Decidable (x = y)] (h : (@ite (Option α) (x = y) inst a b) = some z) (kt : b = some z → g tgt ls st σ) (kf : a = some z → g (pc + 3) ls st σ) : g pc ls (.int y :: .int x :: st) σ := by
  obtain ⟨p, l, e, s, m, args, below, meth, c, A, D, cy, Q, hx, hT, hr, hml, hown, hts, hlk, hK, hA, hY, hE, hnc, hns, rfl⟩ := C
  intro H locs la hP hD hS hl
  exact lv_icmp_ne hx rfl (hT j _ _ _ hd) ht (fun hc => kt (by rw [if_neg hc] at h; exact h) H locs la hP hD hS hl) (fun hc => kf (by rw [if_pos (by simpa using hc)] at h; exact h) H locs la hP hD hS hl)
theorem g_if_lt (C : gOkQ g T own nL rt R Z ad nc ns E) (j : Nat) {x : Int32} {off : Int} (tgt : Nat) (hd : T[j]? = some (pc, .ifCond .lt off, 3)) (ht : (pc : Int) + off = (tgt : Int)) {a b : Option α} [inst : Decidable (x < 0)] (h : (@ite (Option α) (x < 0) inst a b) = some z) (kt : a = some z → g tgt ls st σ) (kf : b = some z → g (pc + 3) ls st σ) : g pc ls (.int x :: st) σ := by
  obtain ⟨p, l, e, s, m, args, below, meth, c, A, D, cy, Q, hx, hT, hr, hml, hown, hts, hlk, hK, hA, hY, hE, hnc, hns, rfl⟩ := C
  intro H locs la hP hD hS hl
  exact lv_if_lt hx rfl (hT j _ _ _ hd) ht (fun hc => kt (by rw [if_pos hc] at h; exact h) H locs la hP hD hS hl) (fun hc => kf (by rw [if_neg hc] at h; exact h) H locs la hP hD hS hl)
theorem g_icmp_lt (C : gOkQ g T own nL rt R Z ad nc ns E) (j : Nat) {x y : Int32} {off : Int} (tgt : Nat) (hd : T[j]? = some (pc, .if_icmp .lt off, 3)) (ht : (pc : Int) + off = (tgt : Int)) {a b : Option α} [inst : Decidable (x < y)] (h : (@ite (Option α) (x < y) inst a b) = some z) (kt : a = some z → g tgt ls st σ) (kf : b = some z → g (pc + 3) ls st σ) : g pc ls (.int y :: .int x :: st) σ := by
  obtain ⟨p, l, e, s, m, args, below, meth, c, A, D, cy, Q, hx, hT, hr, hml, hown, hts, hlk, hK, hA, hY, hE, hnc, hns, rfl⟩ := C
  intro H locs la hP hD hS hl
  exact lv_icmp_lt hx rfl (hT j _ _ _ hd) ht (fun hc => kt (by rw [if_pos hc] at h; exact h) H locs la hP hD hS hl) (fun hc => kf (by rw [if_neg hc] at h; exact h) H locs la hP hD hS hl)
theorem g_if_ge (C : gOkQ g T own nL rt R Z ad nc ns E) (j : Nat) {x : Int32} {off : Int} (tgt : Nat) (hd : T[j]? = some (pc, .ifCond .ge off, 3)) (ht : (pc : Int) + off = (tgt : Int)) {a b : Option α} [inst : Decidable (0 ≤ x)] (h : (@ite (Option α) (0 ≤ x) inst a b) = some z) (kt : a = some z → g tgt ls st σ) (kf : b = some z → g (pc + 3) ls st σ) : g pc ls (.int x :: st) σ := by
  obtain ⟨p, l, e, s, m, args, below, meth, c, A, D, cy, Q, hx, hT, hr, hml, hown, hts, hlk, hK, hA, hY, hE, hnc, hns, rfl⟩ := C
  intro H locs la hP hD hS hl
  exact lv_if_ge hx rfl (hT j _ _ _ hd) ht (fun hc => kt (by rw [if_pos hc] at h; exact h) H locs la hP hD hS hl) (fun hc => kf (by rw [if_neg hc] at h; exact h) H locs la hP hD hS hl)
theorem g_icmp_ge (C : gOkQ g T own nL rt R Z ad nc ns E) (j : Nat) {x y : Int32} {off : Int} (tgt : Nat) (hd : T[j]? = some (pc, .if_icmp .ge off, 3)) (ht : (pc : Int) + off = (tgt : Int)) {a b : Option α} [inst : Decidable (y ≤ x)] (h : (@ite (Option α) (y ≤ x) inst a b) = some z) (kt : a = some z → g tgt ls st σ) (kf : b = some z → g (pc + 3) ls st σ) : g pc ls (.int y :: .int x :: st) σ := by
  obtain ⟨p, l, e, s, m, args, below, meth, c, A, D, cy, Q, hx, hT, hr, hml, hown, hts, hlk, hK, hA, hY, hE, hnc, hns, rfl⟩ := C
  intro H locs la hP hD hS hl
  exact lv_icmp_ge hx rfl (hT j _ _ _ hd) ht (fun hc => kt (by rw [if_pos hc] at h; exact h) H locs la hP hD hS hl) (fun hc => kf (by rw [if_neg hc] at h; exact h) H locs la hP hD hS hl)
theorem g_if_gt (C : gOkQ g T own nL rt R Z ad nc ns E) (j : Nat) {x : Int32} {off : Int} (tgt : Nat) (hd : T[j]? = some (pc, .ifCond .gt off, 3)) (ht : (pc : Int) + off = (tgt : Int)) {a b : Option α} [inst : Decidable (0 < x)] (h : (@ite (Option α) (0 < x) inst a b) = some z) (kt : a = some z → g tgt ls st σ) (kf : b = some z → g (pc + 3) ls st σ) : g pc ls (.int x :: st) σ := by
  obtain ⟨p, l, e, s, m, args, below, meth, c, A, D, cy, Q, hx, hT, hr, hml, hown, hts, hlk, hK, hA, hY, hE, hnc, hns, rfl⟩ := C
  intro H locs la hP hD hS hl
  exact lv_if_gt hx rfl (hT j _ _ _ hd) ht (fun hc => kt (by rw [if_pos hc] at h; exact h) H locs la hP hD hS hl) (fun hc => kf (by rw [if_neg hc] at h; exact h) H locs la hP hD hS hl)
theorem g_icmp_gt (C : gOkQ g T own nL rt R Z ad nc ns E) (j : Nat) {x y : Int32} {off : Int} (tgt : Nat) (hd : T[j]? = some (pc, .if_icmp .gt off, 3)) (ht : (pc : Int) + off = (tgt : Int)) {a b : Option α} [inst : Decidable (y < x)] (h : (@ite (Option α) (y < x) inst a b) = some z) (kt : a = some z → g tgt ls st σ) (kf : b = some z → g (pc + 3) ls st σ) : g pc ls (.int y :: .int x :: st) σ := by
  obtain ⟨p, l, e, s, m, args, below, meth, c, A, D, cy, Q, hx, hT, hr, hml, hown, hts, hlk, hK, hA, hY, hE, hnc, hns, rfl⟩ := C
  intro H locs la hP hD hS hl
  exact lv_icmp_gt hx rfl (hT j _ _ _ hd) ht (fun hc => kt (by rw [if_pos hc] at h; exact h) H locs la hP hD hS hl) (fun hc => kf (by rw [if_neg hc] at h; exact h) H locs la hP hD hS hl)
theorem g_if_le (C : gOkQ g T own nL rt R Z ad nc ns E) (j : Nat) {x : Int32} {off : Int} (tgt : Nat) (hd : T[j]? = some (pc, .ifCond .le off, 3)) (ht : (pc : Int) + off = (tgt : Int)) {a b : Option α} [inst : Decidable (x ≤ 0)] (h : (@ite (Option α) (x ≤ 0) inst a b) = some z) (kt : a = some z → g tgt ls st σ) (kf : b = some z → g (pc + 3) ls st σ) : g pc ls (.int x :: st) σ := by
  obtain ⟨p, l, e, s, m, args, below, meth, c, A, D, cy, Q, hx, hT, hr, hml, hown, hts, hlk, hK, hA, hY, hE, hnc, hns, rfl⟩ := C
  intro H locs la hP hD hS hl
  exact lv_if_le hx rfl (hT j _ _ _ hd) ht (fun hc => kt (by rw [if_pos hc] at h; exact h) H locs la hP hD hS hl) (fun hc => kf (by rw [if_neg hc] at h; exact h) H locs la hP hD hS hl)
theorem g_icmp_le (C : gOkQ g T own nL rt R Z ad nc ns E) (j : Nat) {x y : Int32} {off : Int} (tgt : Nat) (hd : T[j]? = some (pc, .if_icmp .le off, 3)) (ht : (pc : Int) + off = (tgt : Int)) {a b : Option α} [inst : Decidable (x ≤ y)] (h : (@ite (Option α) (x ≤ y) inst a b) = some z) (kt : a = some z → g tgt ls st σ) (kf : b = some z → g (pc + 3) ls st σ) : g pc ls (.int y :: .int x :: st) σ := by
  obtain ⟨p, l, e, s, m, args, below, meth, c, A, D, cy, Q, hx, hT, hr, hml, hown, hts, hlk, hK, hA, hY, hE, hnc, hns, rfl⟩ := C
  intro H locs la hP hD hS hl
  exact lv_icmp_le hx rfl (hT j _ _ _ hd) ht (fun hc => kt (by rw [if_pos hc] at h; exact h) H locs la hP hD hS hl) (fun hc => kf (by rw [if_neg hc] at h; exact h) H locs la hP hD hS hl)
theorem g_goto (C : gOkQ g T own nL rt R Z ad nc ns E) (j : Nat) {off : Int} (tgt : Nat) (hd : T[j]? = some (pc, .goto off, 3)) (ht : (pc : Int) + off = (tgt : Int)) (k : g tgt ls st σ) : g pc ls st σ := by
  obtain ⟨p, l, e, s, m, args, below, meth, c, A, D, cy, Q, hx, hT, hr, hml, hown, hts, hlk, hK, hA, hY, hE, hnc, hns, rfl⟩ := C
  intro H locs la hP hD hS hl
  exact lv_goto hx rfl (hT j _ _ _ hd) ht (k H locs la hP hD hS hl)
theorem g_tblAt (C : gOkQ g T own nL rt R Z ad nc ns E) (j : Nat) {dflt lo hi : Int} {offs : Array Int} {len : Nat} {x : Int32} {off : Int} (v : Int32) (hxv : x = v) (tgt : Nat) (hd : T[j]? = some (pc, .tableswitch dflt lo hi offs, len)) (h1 : ¬ v.toInt < lo) (h2 : ¬ hi < v.toInt) (ho : offs[(v.toInt - lo).toNat]? = some off) (ht : (pc : Int) + off = (tgt : Int)) (k : g tgt ls st σ) : g pc ls (.int x :: st) σ := by
  obtain ⟨p, l, e, s, m, args, below, meth, c, A, D, cy, Q, hx, hT, hr, hml, hown, hts, hlk, hK, hA, hY, hE, hnc, hns, rfl⟩ := C
  intro H locs la hP hD hS hl
  subst hxv
  exact lv_tableIn hx rfl (hT j _ _ _ hd) h1 h2 ho ht (k H locs la hP hD hS hl)
theorem g_tblOut (C : gOkQ g T own nL rt R Z ad nc ns E) (j : Nat) {dflt lo hi : Int} {offs : Array Int} {len : Nat} {x : Int32} (tgt : Nat) (hd : T[j]? = some (pc, .tableswitch dflt lo hi offs, len)) (h : x.toInt < lo ∨ hi < x.toInt) (ht : (pc : Int) + dflt = (tgt : Int)) (k : g tgt ls st σ) : g pc ls (.int x :: st) σ := by
  obtain ⟨p, l, e, s, m, args, below, meth, c, A, D, cy, Q, hx, hT, hr, hml, hown, hts, hlk, hK, hA, hY, hE, hnc, hns, rfl⟩ := C
  intro H locs la hP hD hS hl
  exact lv_tableOut hx rfl (hT j _ _ _ hd) h ht (k H locs la hP hD hS hl)
theorem g_lookup (C : gOkQ g T own nL rt R Z ad nc ns E) (j : Nat) {dflt : Int} {ps : Array (Int × Int)} {len : Nat} {x : Int32} {off : Int} (tgt : Nat) (hd : T[j]? = some (pc, .lookupswitch dflt ps, len)) (hp : (ps.toList.zip (ps.toList.drop 1)).all (fun (a, next) => a.1 < next.1) = true) (ho : Op.lookupswitch.offset ps.toList dflt x.toInt = off) (ht : (pc : Int) + off = (tgt : Int)) (k : g tgt ls st σ) : g pc ls (.int x :: st) σ := by
  obtain ⟨p, l, e, s, m, args, below, meth, c, A, D, cy, Q, hx, hT, hr, hml, hown, hts, hlk, hK, hA, hY, hE, hnc, hns, rfl⟩ := C
  intro H locs la hP hD hS hl
  exact lv_lookup hx rfl (hT j _ _ _ hd) hp ho ht (k H locs la hP hD hS hl)
theorem g_sub (C : gOkQ g T own nL rt R Z ad nc ns E) (is : List Nat) (ls2 : List (Nat × Value)) (h2 : lv_pick ls is = ls2) (k : g pc ls2 st σ) : g pc ls st σ := by
  obtain ⟨p, l, e, s, m, args, below, meth, c, A, D, cy, Q, hx, hT, hr, hml, hown, hts, hlk, hK, hA, hY, hE, hnc, hns, rfl⟩ := C
  intro H locs la hP hD hS hl
  exact k H locs la hP hD hS (lv_sub hl is h2)
theorem g_geti (C : gOkQ g T own nL rt R Z ad nc ns E) (j : Nat) {index i k ci : Nat} {fs : List (Option (Option Nat))} (hd : T[j]? = some (pc, .getfield index, 3)) (hw : gFl own index ci k) (hc : Z[i]? = some (.inl (ci, fs))) (hf : fs[k]? = some none) (kk : g (pc + 3) ls (.int (σ i k) :: st) σ) : g pc ls (.ref (ad i) :: st) σ := by
  obtain ⟨p, l, e, s, m, args, below, meth, c, A, D, cy, Q, hx, hT, hr, hml, hown, hts, hlk, hK, hA, hY, hE, hnc, hns, rfl⟩ := C
  intro H locs la hP hD hS hl
  obtain ⟨CN, TN, N, hcl, hk, hin, hw⟩ := hw
  have he := gW_at (cy := cy) (ad := ad) (σ := σ) hc
  rcases hw with hw | ⟨host, hw⟩
  · exact va_get hx rfl hts hin hown hK hP i he hcl k hk (hts _ hw) (fun _ h => h) (gV_at hf) (hT j _ _ _ hd) (kk H locs la hP hD hS hl)
  · exact va_getN hx rfl hts hin hown hK hP i he hcl k hk (hY.use hw args) (fun _ h => h) (gV_at hf) (hT j _ _ _ hd) (kk H locs la hP hD hS hl)
theorem g_getr (C : gOkQ g T own nL rt R Z ad nc ns E) (j : Nat) {index i k ci b : Nat} {fs : List (Option (Option Nat))} (hd : T[j]? = some (pc, .getfield index, 3)) (hw : gFl own index ci k) (hc : Z[i]? = some (.inl (ci, fs))) (hf : fs[k]? = some (some (some b))) (kk : g (pc + 3) ls (.ref (ad b) :: st) σ) : g pc ls (.ref (ad i) :: st) σ := by
  obtain ⟨p, l, e, s, m, args, below, meth, c, A, D, cy, Q, hx, hT, hr, hml, hown, hts, hlk, hK, hA, hY, hE, hnc, hns, rfl⟩ := C
  intro H locs la hP hD hS hl
  obtain ⟨CN, TN, N, hcl, hk, hin, hw⟩ := hw
  have he := gW_at (cy := cy) (ad := ad) (σ := σ) hc
  rcases hw with hw | ⟨host, hw⟩
  · exact va_get hx rfl hts hin hown hK hP i he hcl k hk (hts _ hw) (fun _ h => h) (gV_at hf) (hT j _ _ _ hd) (kk H locs la hP hD hS hl)
  · exact va_getN hx rfl hts hin hown hK hP i he hcl k hk (hY.use hw args) (fun _ h => h) (gV_at hf) (hT j _ _ _ hd) (kk H locs la hP hD hS hl)
theorem g_put (C : gOkQ g T own nL rt R Z ad nc ns E) (j : Nat) {index i k ci : Nat} {fs : List (Option (Option Nat))} {v : Int32} {ty : FieldType} {f : gS → Option α} (hd : T[j]? = some (pc, .putfield index, 3)) (hw : gFp own index ci k ty) (hc : Z[i]? = some (.inl (ci, fs))) (hf : fs[k]? = some none) (hn : narrow ty (.int v) = .int v) (hfit : fits ty (.int v) = true) (h : mLet (gu σ i k v) f = some z) (kk : ∀ σ1, f σ1 = some z → g (pc + 3) ls st σ1) : g pc ls (.int v :: .ref (ad i) :: st) σ := by
  obtain ⟨p, l, e, s, m, args, below, meth, c, A, D, cy, Q, hx, hT, hr, hml, hown, hts, hlk, hK, hA, hY, hE, hnc, hns, rfl⟩ := C
  intro H locs la hP hD hS hl
  obtain ⟨CN, TN, N, hcl, hk, hin, ⟨ty0, hty⟩, hnm, hfin, hpd, hw⟩ := hw
  have he := gW_at (cy := cy) (ad := ad) (σ := σ) hc
  have hkf : k < (fs.mapIdx (gV ad (σ i))).length := by simpa using (List.getElem?_eq_some_iff.mp hf).1
  have hset : (gW cy Z ad σ).set i (ad i, .inr (ci, (fs.mapIdx (gV ad (σ i))).set k (.int v))) = gW cy Z ad (gu σ i k v) := gW_set hc (by rw [gV_set hf]; rfl)
  rcases hw with hw | ⟨host, hw⟩
  · exact va_put hx rfl hts hin ty0 hty hnm hown hK hP hD hS i he hcl k hk (hts _ hw) (fun _ h => h) hfin hpd hn hfit hkf (hT j _ _ _ hd) (fun H1 l1 hP1 hD1 hS1 => kk _ h H1 l1 la (hset ▸ hP1) (hset ▸ hD1) hS1 hl)
  · exact va_putN hx rfl hts hin ty0 hty hnm hown hK hP hD hS i he hcl k hk (hY.use hw args) (fun _ h => h) hfin hpd hn hfit hkf (hT j _ _ _ hd) (fun H1 l1 hP1 hD1 hS1 => kk _ h H1 l1 la (hset ▸ hP1) (hset ▸ hD1) hS1 hl)
theorem g_iald (C : gOkQ g T own nL rt R Z ad nc ns E) (j : Nat) {i n : Nat} {x : Int32} {a : Option α} (hd : T[j]? = some (pc, .iaload, 1)) (hc : Z[i]? = some (.inr (0, n, none))) (h : mIn n x a = some z) (kk : a = some z → g (pc + 1) ls (.int (σ i (nn x)) :: st) σ) : g pc ls (.int x :: .ref (ad i) :: st) σ := by
  obtain ⟨p, l, e, s, m, args, below, meth, c, A, D, cy, Q, hx, hT, hr, hml, hown, hts, hlk, hK, hA, hY, hE, hnc, hns, rfl⟩ := C
  intro H locs la hP hD hS hl
  obtain ⟨hin, h⟩ := h_in h
  exact va_iald hx rfl hK hP i 0 (gW_at hc) rfl hin (hT j _ _ _ hd) (kk h H locs la hP hD hS hl)
theorem g_ialdK (C : gOkQ g T own nL rt R Z ad nc ns E) (j : Nat) {i n : Nat} {x : Int32} (q : Nat) (hd : T[j]? = some (pc, .iaload, 1)) (hc : Z[i]? = some (.inr (0, n, none))) (hq : nn x = q) (hin : vp_in x n) (kk : g (pc + 1) ls (.int (σ i q) :: st) σ) : g pc ls (.int x :: .ref (ad i) :: st) σ := by
  obtain ⟨p, l, e, s, m, args, below, meth, c, A, D, cy, Q, hx, hT, hr, hml, hown, hts, hlk, hK, hA, hY, hE, hnc, hns, rfl⟩ := C
  intro H locs la hP hD hS hl
  subst hq
  exact va_iald hx rfl hK hP i 0 (gW_at hc) rfl hin (hT j _ _ _ hd) (kk H locs la hP hD hS hl)
theorem g_cald (C : gOkQ g T own nL rt R Z ad nc ns E) (j : Nat) {i n : Nat} {x : Int32} {a : Option α} (hd : T[j]? = some (pc, .caload, 1)) (hc : Z[i]? = some (.inr (1, n, none))) (h : mIn n x a = some z) (kk : a = some z → g (pc + 1) ls (.int (σ i (nn x)) :: st) σ) : g pc ls (.int x :: .ref (ad i) :: st) σ := by
  obtain ⟨p, l, e, s, m, args, below, meth, c, A, D, cy, Q, hx, hT, hr, hml, hown, hts, hlk, hK, hA, hY, hE, hnc, hns, rfl⟩ := C
  intro H locs la hP hD hS hl
  obtain ⟨hin, h⟩ := h_in h
  exact va_cald hx rfl hK hP i 1 (gW_at hc) rfl hin (hT j _ _ _ hd) (kk h H locs la hP hD hS hl)
theorem g_caldK (C : gOkQ g T own nL rt R Z ad nc ns E) (j : Nat) {i n : Nat} {x : Int32} (q : Nat) (hd : T[j]? = some (pc, .caload, 1)) (hc : Z[i]? = some (.inr (1, n, none))) (hq : nn x = q) (hin : vp_in x n) (kk : g (pc + 1) ls (.int (σ i q) :: st) σ) : g pc ls (.int x :: .ref (ad i) :: st) σ := by
  obtain ⟨p, l, e, s, m, args, below, meth, c, A, D, cy, Q, hx, hT, hr, hml, hown, hts, hlk, hK, hA, hY, hE, hnc, hns, rfl⟩ := C
  intro H locs la hP hD hS hl
  subst hq
  exact va_cald hx rfl hK hP i 1 (gW_at hc) rfl hin (hT j _ _ _ hd) (kk H locs la hP hD hS hl)
theorem g_zald (C : gOkQ g T own nL rt R Z ad nc ns E) (j : Nat) {i n : Nat} {x : Int32} {a : Option α} (hd : T[j]? = some (pc, .baload, 1)) (hc : Z[i]? = some (.inr (2, n, none))) (h : mIn n x a = some z) (kk : a = some z → g (pc + 1) ls (.int (σ i (nn x)) :: st) σ) : g pc ls (.int x :: .ref (ad i) :: st) σ := by
  obtain ⟨p, l, e, s, m, args, below, meth, c, A, D, cy, Q, hx, hT, hr, hml, hown, hts, hlk, hK, hA, hY, hE, hnc, hns, rfl⟩ := C
  intro H locs la hP hD hS hl
  obtain ⟨hin, h⟩ := h_in h
  exact va_zald hx rfl hK hP i 2 (gW_at hc) rfl hin (hT j _ _ _ hd) (kk h H locs la hP hD hS hl)
theorem g_zaldK (C : gOkQ g T own nL rt R Z ad nc ns E) (j : Nat) {i n : Nat} {x : Int32} (q : Nat) (hd : T[j]? = some (pc, .baload, 1)) (hc : Z[i]? = some (.inr (2, n, none))) (hq : nn x = q) (hin : vp_in x n) (kk : g (pc + 1) ls (.int (σ i q) :: st) σ) : g pc ls (.int x :: .ref (ad i) :: st) σ := by
  obtain ⟨p, l, e, s, m, args, below, meth, c, A, D, cy, Q, hx, hT, hr, hml, hown, hts, hlk, hK, hA, hY, hE, hnc, hns, rfl⟩ := C
  intro H locs la hP hD hS hl
  subst hq
  exact va_zald hx rfl hK hP i 2 (gW_at hc) rfl hin (hT j _ _ _ hd) (kk H locs la hP hD hS hl)
theorem g_iast (C : gOkQ g T own nL rt R Z ad nc ns E) (j : Nat) {i n : Nat} {x v : Int32} {f : gS → Option α} (hd : T[j]? = some (pc, .iastore, 1)) (hc : Z[i]? = some (.inr (0, n, none))) (h : mIn n x (mLet (gu σ i (nn x) v) f) = some z) (kk : ∀ σ1, f σ1 = some z → g (pc + 1) ls st σ1) : g pc ls (.int v :: .int x :: .ref (ad i) :: st) σ := by
  obtain ⟨p, l, e, s, m, args, below, meth, c, A, D, cy, Q, hx, hT, hr, hml, hown, hts, hlk, hK, hA, hY, hE, hnc, hns, rfl⟩ := C
  intro H locs la hP hD hS hl
  obtain ⟨hin, h⟩ := h_in h
  have hset : (gW cy Z ad σ).set i (ad i, .inl (cy 0, n, .inl (upd (σ i) (nn x) v))) = gW cy Z ad (gu σ i (nn x) v) := gW_set hc rfl
  exact va_iast hx rfl hK hP hD hS i 0 (gW_at hc) rfl hin (hT j _ _ _ hd) (fun H1 l1 hP1 hD1 hS1 => kk _ h H1 l1 la (hset ▸ hP1) (hset ▸ hD1) hS1 hl)
theorem g_iastK (C : gOkQ g T own nL rt R Z ad nc ns E) (j : Nat) {i n : Nat} {x v : Int32} {f : gS → Option α} (q : Nat) (hd : T[j]? = some (pc, .iastore, 1)) (hc : Z[i]? = some (.inr (0, n, none))) (hq : nn x = q) (hin : vp_in x n) (h : mLet (gu σ i q v) f = some z) (kk : ∀ σ1, f σ1 = some z → g (pc + 1) ls st σ1) : g pc ls (.int v :: .int x :: .ref (ad i) :: st) σ := by
  obtain ⟨p, l, e, s, m, args, below, meth, c, A, D, cy, Q, hx, hT, hr, hml, hown, hts, hlk, hK, hA, hY, hE, hnc, hns, rfl⟩ := C
  intro H locs la hP hD hS hl
  subst hq
  have hset : (gW cy Z ad σ).set i (ad i, .inl (cy 0, n, .inl (upd (σ i) (nn x) v))) = gW cy Z ad (gu σ i (nn x) v) := gW_set hc rfl
  exact va_iast hx rfl hK hP hD hS i 0 (gW_at hc) rfl hin (hT j _ _ _ hd) (fun H1 l1 hP1 hD1 hS1 => kk _ h H1 l1 la (hset ▸ hP1) (hset ▸ hD1) hS1 hl)
theorem g_zast (C : gOkQ g T own nL rt R Z ad nc ns E) (j : Nat) {i n : Nat} {x v : Int32} {f : gS → Option α} (hd : T[j]? = some (pc, .bastore, 1)) (hc : Z[i]? = some (.inr (2, n, none))) (h : mIn n x (mLet (gu σ i (nn x) (vp_nar .boolean v)) f) = some z) (kk : ∀ σ1, f σ1 = some z → g (pc + 1) ls st σ1) : g pc ls (.int v :: .int x :: .ref (ad i) :: st) σ := by
  obtain ⟨p, l, e, s, m, args, below, meth, c, A, D, cy, Q, hx, hT, hr, hml, hown, hts, hlk, hK, hA, hY, hE, hnc, hns, rfl⟩ := C
  intro H locs la hP hD hS hl
  obtain ⟨hin, h⟩ := h_in h
  have hset : (gW cy Z ad σ).set i (ad i, .inl (cy 2, n, .inl (upd (σ i) (nn x) (vp_nar .boolean v)))) = gW cy Z ad (gu σ i (nn x) (vp_nar .boolean v)) := gW_set hc rfl
  exact va_zast hx rfl hK hP hD hS i 2 (gW_at hc) rfl hin (hT j _ _ _ hd) (fun H1 l1 hP1 hD1 hS1 => kk _ h H1 l1 la (hset ▸ hP1) (hset ▸ hD1) hS1 hl)
theorem g_zastK (C : gOkQ g T own nL rt R Z ad nc ns E) (j : Nat) {i n : Nat} {x v : Int32} {f : gS → Option α} (q : Nat) (hd : T[j]? = some (pc, .bastore, 1)) (hc : Z[i]? = some (.inr (2, n, none))) (hq : nn x = q) (hin : vp_in x n) (h : mLet (gu σ i q (vp_nar .boolean v)) f = some z) (kk : ∀ σ1, f σ1 = some z → g (pc + 1) ls st σ1) : g pc ls (.int v :: .int x :: .ref (ad i) :: st) σ := by
  obtain ⟨p, l, e, s, m, args, below, meth, c, A, D, cy, Q, hx, hT, hr, hml, hown, hts, hlk, hK, hA, hY, hE, hnc, hns, rfl⟩ := C
  intro H locs la hP hD hS hl
  subst hq
  have hset : (gW cy Z ad σ).set i (ad i, .inl (cy 2, n, .inl (upd (σ i) (nn x) (vp_nar .boolean v)))) = gW cy Z ad (gu σ i (nn x) (vp_nar .boolean v)) := gW_set hc rfl
  exact va_zast hx rfl hK hP hD hS i 2 (gW_at hc) rfl hin (hT j _ _ _ hd) (fun H1 l1 hP1 hD1 hS1 => kk _ h H1 l1 la (hset ▸ hP1) (hset ▸ hD1) hS1 hl)
theorem g_aald (C : gOkQ g T own nL rt R Z ad nc ns E) (j : Nat) {i n t : Nat} {rs : Nat → Option Nat} {x : Int32} {a : Option α} (hd : T[j]? = some (pc, .aaload, 1)) (ht : t = 3 ∨ t = 4 ∨ t = 5) (hc : Z[i]? = some (.inr (t, n, some rs))) (h : mIn n x a = some z) (kk : vp_in x n → a = some z → g (pc + 1) ls (va_rf ((rs (nn x)).map ad) :: st) σ) : g pc ls (.int x :: .ref (ad i) :: st) σ := by
  obtain ⟨p, l, e, s, m, args, below, meth, c, A, D, cy, Q, hx, hT, hr, hml, hown, hts, hlk, hK, hA, hY, hE, hnc, hns, rfl⟩ := C
  intro H locs la hP hD hS hl
  obtain ⟨hin, h⟩ := h_in h
  rcases ht with rfl | rfl | rfl
  · exact va_aldq hx rfl hK hP i 3 (gW_at hc) rfl hin (hT j _ _ _ hd) (kk hin h H locs la hP hD hS hl)
  · exact va_aldq hx rfl hK hP i 4 (gW_at hc) rfl hin (hT j _ _ _ hd) (kk hin h H locs la hP hD hS hl)
  · exact va_aldq hx rfl hK hP i 5 (gW_at hc) rfl hin (hT j _ _ _ hd) (kk hin h H locs la hP hD hS hl)
theorem g_alen (C : gOkQ g T own nL rt R Z ad nc ns E) (j : Nat) {i n : Nat} (hd : T[j]? = some (pc, .arraylength, 1)) (hc : Z[i]? = some (.inr (0, n, none))) (kk : g (pc + 1) ls (.int (Int32.ofNat n) :: st) σ) : g pc ls (.ref (ad i) :: st) σ := by
  obtain ⟨p, l, e, s, m, args, below, meth, c, A, D, cy, Q, hx, hT, hr, hml, hown, hts, hlk, hK, hA, hY, hE, hnc, hns, rfl⟩ := C
  intro H locs la hP hD hS hl
  exact va_alen hx rfl hK hP i 0 (gW_at hc) rfl rfl (hT j _ _ _ hd) (kk H locs la hP hD hS hl)
theorem g_ifnull (C : gOkQ g T own nL rt R Z ad nc ns E) (j : Nat) {o : Option Nat} {off : Int} (tgt : Nat) (hd : T[j]? = some (pc, .ifnull off, 3)) (ht : (pc : Int) + off = (tgt : Int)) (kt : o = none → g tgt ls st σ) (kf : ∀ b, o = some b → g (pc + 3) ls st σ) : g pc ls (va_rf (o.map ad) :: st) σ := by
  obtain ⟨p, l, e, s, m, args, below, meth, c, A, D, cy, Q, hx, hT, hr, hml, hown, hts, hlk, hK, hA, hY, hE, hnc, hns, rfl⟩ := C
  intro H locs la hP hD hS hl
  cases o with
  | none => exact lv_ifnullN hx rfl (hT j _ _ _ hd) ht (kt rfl H locs la hP hD hS hl)
  | some b => exact lv_ifnull hx rfl (hT j _ _ _ hd) (kf b rfl H locs la hP hD hS hl)
theorem g_mmax (C : gOkQ g T own nL rt R Z ad nc ns E) (j : Nat) {index : Nat} {x y : Int32} (hd : T[j]? = some (pc, .invokestatic index, 3)) (hw : Cond.methodLink own index Lib.Math.max.name ∈ TB) (hw2 : Cond.static Lib.Math.max.name ∈ TB ∧ Cond.initialized "java/lang/Math" ∈ TB ∧ Cond.code Lib.Math.max.name Lib.Math.max.code 2 (some .int) ∈ TB) (hR : 1 ≤ R.frames ∧ (st.map fun v => v.category).sum + 13 ≤ R.locals) (k : g (pc + 3) ls (.int (mMax x y) :: st) σ) : g pc ls (.int y :: .int x :: st) σ := by
  obtain ⟨p, l, e, s, m, args, below, meth, c, A, D, cy, Q, hx, hT, hr, hml, hown, hts, hlk, hK, hA, hY, hE, hnc, hns, rfl⟩ := C
  intro H locs la hP hD hS hl
  exact va_mmax hx rfl (hml.trans hl.1.symm) hown (hts _ hw) (hts _ hw2.1) (hts _ hw2.2.1) (hts _ hw2.2.2) hR.1 hR.2 hnc hns (hT j _ _ _ hd) (k H locs la hP hD hS hl)
theorem g_mmin (C : gOkQ g T own nL rt R Z ad nc ns E) (j : Nat) {index : Nat} {x y : Int32} (hd : T[j]? = some (pc, .invokestatic index, 3)) (hw : Cond.methodLink own index Lib.Math.min.name ∈ TB) (hw2 : Cond.static Lib.Math.min.name ∈ TB ∧ Cond.initialized "java/lang/Math" ∈ TB ∧ Cond.code Lib.Math.min.name Lib.Math.min.code 2 (some .int) ∈ TB) (hR : 1 ≤ R.frames ∧ (st.map fun v => v.category).sum + 13 ≤ R.locals) (k : g (pc + 3) ls (.int (mMin x y) :: st) σ) : g pc ls (.int y :: .int x :: st) σ := by
  obtain ⟨p, l, e, s, m, args, below, meth, c, A, D, cy, Q, hx, hT, hr, hml, hown, hts, hlk, hK, hA, hY, hE, hnc, hns, rfl⟩ := C
  intro H locs la hP hD hS hl
  exact va_mmin hx rfl (hml.trans hl.1.symm) hown (hts _ hw) (hts _ hw2.1) (hts _ hw2.2.1) (hts _ hw2.2.2) hR.1 hR.2 hnc hns (hT j _ _ _ hd) (k H locs la hP hD hS hl)
theorem g_mabs (C : gOkQ g T own nL rt R Z ad nc ns E) (j : Nat) {index : Nat} {x : Int32} (hd : T[j]? = some (pc, .invokestatic index, 3)) (hw : Cond.methodLink own index Lib.Math.abs.name ∈ TB) (hw2 : Cond.static Lib.Math.abs.name ∈ TB ∧ Cond.initialized "java/lang/Math" ∈ TB ∧ Cond.code Lib.Math.abs.name Lib.Math.abs.code 1 (some .int) ∈ TB) (hR : 1 ≤ R.frames ∧ (st.map fun v => v.category).sum + 13 ≤ R.locals) (k : g (pc + 3) ls (.int (mAbs x) :: st) σ) : g pc ls (.int x :: st) σ := by
  obtain ⟨p, l, e, s, m, args, below, meth, c, A, D, cy, Q, hx, hT, hr, hml, hown, hts, hlk, hK, hA, hY, hE, hnc, hns, rfl⟩ := C
  intro H locs la hP hD hS hl
  exact va_mabs hx rfl (hml.trans hl.1.symm) hown (hts _ hw) (hts _ hw2.1) (hts _ hw2.2.1) (hts _ hw2.2.2) hR.1 hR.2 hnc hns (hT j _ _ _ hd) (k H locs la hP hD hS hl)
theorem g_copy (C : gOkQ g T own nL rt R Z ad nc ns E) (j : Nat) {index a b n0 n1 : Nat} {sp dp n : Int32} {f : gS → Option α} (hd : T[j]? = some (pc, .invokestatic index, 3)) (hw : Cond.methodLink own index arraycopyName ∈ TB) (hw2 : Cond.native arraycopyName ∈ TB ∧ Cond.static arraycopyName ∈ TB ∧ Cond.initialized "java/lang/System" ∈ TB) (hR : 1 ≤ R.frames ∧ (st.map fun v => v.category).sum + (nativeFrameWords "java/lang/System" "arraycopy" 5 + 11) ≤ R.locals) (hc0 : Z[a]? = some (.inr (0, n0, none))) (hc1 : Z[b]? = some (.inr (0, n1, none))) (h : mCopy n0 n1 σ a sp b dp n f = some z) (k : ∀ σ1, f σ1 = some z → g (pc + 3) ls st σ1) : g pc ls (.int n :: .int dp :: .ref (ad b) :: .int sp :: .ref (ad a) :: st) σ := by
  obtain ⟨p, l, e, s, m, args, below, meth, c, A, D, cy, Q, hx, hT, hr, hml, hown, hts, hlk, hK, hA, hY, hE, hnc, hns, rfl⟩ := C
  intro H locs la hP hD hS hl
  unfold mCopy at h
  by_cases hq : ¬ sp < 0 ∧ ¬ dp < 0 ∧ ¬ n < 0 ∧ nn sp + nn n ≤ n0 ∧ nn dp + nn n ≤ n1
  · rw [if_pos hq] at h
    obtain ⟨h1, h2, h3, h4, h5⟩ := hq
    have hset : (gW cy Z ad σ).set b (ad b, .inl (cy 0, n1, .inl (va_cpy (σ a) (σ b) (nn sp) (nn dp) (nn n)))) = gW cy Z ad (gp σ b (va_cpy (σ a) (σ b) (nn sp) (nn dp) (nn n))) := gW_setp hc1 rfl
    exact va_copyi hx rfl (hml.trans hl.1.symm) hown (hts _ hw) (hts _ hw2.1) (hts _ hw2.2.1) (hts _ hw2.2.2) hK hP hD hS a b 0 0 (gW_at hc0) (gW_at hc1) rfl rfl rfl h1 h2 h3 h4 h5 (fun i _ => rfl) hR.1 hR.2 (hT j _ _ _ hd) (fun H1 l1 hP1 hD1 hS1 => k _ h H1 l1 la (hset ▸ hP1) (hset ▸ hD1) hS1 hl)
  · rw [if_neg hq] at h; cases h
theorem g_callVi (C : gOkQ g T own nL rt R Z ad nc ns E) (j : Nat) {index : Nat} {y : MethodName} {cc2 : ByteArray} {nL2 L2 n : Nat} {ty : FieldType} {av : (Nat → Nat) → List Value} {F : gS → Option (Int32 × gS)} {f : Int32 → gS → Option α} (As rest : List Value) {i ci N : Nat} {TT : u_T} {fs : List (Option (Option Nat))} (hd : T[j]? = some (pc, .invokevirtual index, 3)) (hM : gMet y cc2 nL2 (some ty) L2 Z av F) (hln : gCn own index y) (hcw : gCw y cc2 nL2 (some ty) n) (hci : gCi y) (hc : Z[i]? = some (.inl (ci, fs))) (hcl : vwCl[ci]? = some (y.cls, TT, N)) (hav : av ad = .ref (ad i) :: As) (hst : st = As.reverse ++ .ref (ad i) :: rest) (hn : As.length = n) (hro : (rest.map fun v => v.category).sum ≤ 8) (hR : L2 + 1 ≤ R.frames ∧ 8 + (nL2 + 11) + 64 * L2 ≤ R.locals) (h : mCall (F σ) f = some z) (k : ∀ r σ1, f r σ1 = some z → g (pc + 3) ls (.int r :: rest) σ1) : g pc ls st σ := by
  obtain ⟨p, l, e, s, m, args, below, meth, c, A, D, cy, Q, hx, hT, hr, hml, hown, hts, hlk, hK, hA, hY, hE, hnc, hns, rfl⟩ := C
  intro H locs la hP hD hS hl
  have hA1 : ∀ q, va_A (gW cy Z ad σ) H.size q → A q := fun q hq => by
    rcases hq with ⟨k, e, hk⟩ | hq
    · exact hD.2 k (q, e) hk
    · exact hA q (Nat.le_trans hS.1 hq)
  have hpre : ∀ U : State, U.heap = H → s.WarmedH U.vm → U.heap.size = H.size ∧ gPre D cy ad (gW cy Z ad σ) (va_A (gW cy Z ad σ) H.size) U := fun U hU hW => ⟨by rw [hU], by rw [hU]; exact hP, va_K.moved hW.alike hK, hD.weaken (fun _ _ _ _ => trivial), gY.weaken hA1 (gY.moved hW hS hU hY)⟩
  have hbl : FrameBlind (va_Pc (av ad) (fun U => U.heap.size = H.size ∧ gPre D cy ad (gW cy Z ad σ) (va_A (gW cy Z ad σ) H.size) U)) := fun a U g mk q => by
    obtain ⟨q0, q1, qP, qK, qD, qY⟩ := q
    exact ⟨q0, q1, qP, va_K.moved (u := U) (U := U.calling g mk a) (Vm.Alike.refl U.vm) qK, qD, gY.same (U := U) (V := U.calling g mk a) rfl rfl qY⟩
  have hG : GoodIn TB (Cond.code y cc2 nL2 (some ty) :: TB) := TBg hcw.1
  cases hF : F σ with
  | none => rw [hF] at h; cases h
  | some z2 =>
  rw [hF] at h
  have hM2 := hM l D cy ad H.size σ z2 hF
  have hrv := va_recv hK hP hcl (gW_at hc)
  have hPV : PreV s H y.cls (ad i) (va_Pc (av ad) (fun U => U.heap.size = H.size ∧ gPre D cy ad (gW cy Z ad σ) (va_A (gW cy Z ad σ) H.size) U)) As := ⟨hbl, hrv, fun U hU hW => ⟨by rw [hav], hpre U hU hW⟩⟩
  rcases hln with hln | ⟨host, hln⟩
  · exact va_calli (va_runV (As := As) (rest := rest) ⟨hx, rfl, hml, hown, hts⟩ hM2 ⟨callB_of n hts hG rfl rfl rfl (hts _ hcw.2.1) (hts _ hln) hcw.2.2 hR, hts _ hci.1, hts _ hci.2⟩ hPV rfl hn hl.1 hst (lv_room hro) (hT j _ _ _ hd) ⟨hnc, hns⟩) hS (fun q _ h => hA1 q h) hA1 (fun r u t H1 l1 ht hvm hw hB hz1 hk1 hS1 => by
    have e1 : r = z2.1 := congrArg Prod.fst hw
    have e2 : u = z2.2 := congrArg Prod.snd hw
    subst e1; subst e2
    have hP1 : va_P D vwCl (gW cy Z ad z2.2) H1 := by rw [← ht]; exact hB
    exact k _ _ h H1 l1 la hP1 (gD_fst gW_fst hD) hS1 hl)
  · exact va_calli (va_runVN (As := As) (rest := rest) ⟨hx, rfl, hml, hown, hts⟩ hM2 ⟨va_cnB n hts hG rfl rfl rfl (hY.nw _ hln) (hts _ hcw.2.1) hcw.2.2 hR, hts _ hci.1, hts _ hci.2⟩ hPV rfl hn hl.1 hst (lv_room hro) (hT j _ _ _ hd) ⟨hnc, hns⟩) hS (fun q _ h => hA1 q h) hA1 (fun r u t H1 l1 ht hvm hw hB hz1 hk1 hS1 => by
    have e1 : r = z2.1 := congrArg Prod.fst hw
    have e2 : u = z2.2 := congrArg Prod.snd hw
    subst e1; subst e2
    have hP1 : va_P D vwCl (gW cy Z ad z2.2) H1 := by rw [← ht]; exact hB
    exact k _ _ h H1 l1 la hP1 (gD_fst gW_fst hD) hS1 hl)
theorem g_callVv (C : gOkQ g T own nL rt R Z ad nc ns E) (j : Nat) {index : Nat} {y : MethodName} {cc2 : ByteArray} {nL2 L2 n : Nat} {av : (Nat → Nat) → List Value} {F : gS → Option (Int32 × gS)} {f : Int32 → gS → Option α} (As rest : List Value) {i ci N : Nat} {TT : u_T} {fs : List (Option (Option Nat))} (hd : T[j]? = some (pc, .invokevirtual index, 3)) (hM : gMet y cc2 nL2 none L2 Z av F) (hln : gCn own index y) (hcw : gCw y cc2 nL2 none n) (hci : gCi y) (hc : Z[i]? = some (.inl (ci, fs))) (hcl : vwCl[ci]? = some (y.cls, TT, N)) (hav : av ad = .ref (ad i) :: As) (hst : st = As.reverse ++ .ref (ad i) :: rest) (hn : As.length = n) (hro : (rest.map fun v => v.category).sum ≤ 8) (hR : L2 + 1 ≤ R.frames ∧ 8 + (nL2 + 11) + 64 * L2 ≤ R.locals) (h : mCall (F σ) f = some z) (k : ∀ r σ1, f r σ1 = some z → g (pc + 3) ls (rest) σ1) : g pc ls st σ := by
  obtain ⟨p, l, e, s, m, args, below, meth, c, A, D, cy, Q, hx, hT, hr, hml, hown, hts, hlk, hK, hA, hY, hE, hnc, hns, rfl⟩ := C
  intro H locs la hP hD hS hl
  have hA1 : ∀ q, va_A (gW cy Z ad σ) H.size q → A q := fun q hq => by
    rcases hq with ⟨k, e, hk⟩ | hq
    · exact hD.2 k (q, e) hk
    · exact hA q (Nat.le_trans hS.1 hq)
  have hpre : ∀ U : State, U.heap = H → s.WarmedH U.vm → U.heap.size = H.size ∧ gPre D cy ad (gW cy Z ad σ) (va_A (gW cy Z ad σ) H.size) U := fun U hU hW => ⟨by rw [hU], by rw [hU]; exact hP, va_K.moved hW.alike hK, hD.weaken (fun _ _ _ _ => trivial), gY.weaken hA1 (gY.moved hW hS hU hY)⟩
  have hbl : FrameBlind (va_Pc (av ad) (fun U => U.heap.size = H.size ∧ gPre D cy ad (gW cy Z ad σ) (va_A (gW cy Z ad σ) H.size) U)) := fun a U g mk q => by
    obtain ⟨q0, q1, qP, qK, qD, qY⟩ := q
    exact ⟨q0, q1, qP, va_K.moved (u := U) (U := U.calling g mk a) (Vm.Alike.refl U.vm) qK, qD, gY.same (U := U) (V := U.calling g mk a) rfl rfl qY⟩
  have hG : GoodIn TB (Cond.code y cc2 nL2 none :: TB) := TBg hcw.1
  cases hF : F σ with
  | none => rw [hF] at h; cases h
  | some z2 =>
  rw [hF] at h
  have hM2 := hM l D cy ad H.size σ z2 hF
  have hrv := va_recv hK hP hcl (gW_at hc)
  have hPV : PreV s H y.cls (ad i) (va_Pc (av ad) (fun U => U.heap.size = H.size ∧ gPre D cy ad (gW cy Z ad σ) (va_A (gW cy Z ad σ) H.size) U)) As := ⟨hbl, hrv, fun U hU hW => ⟨by rw [hav], hpre U hU hW⟩⟩
  rcases hln with hln | ⟨host, hln⟩
  · exact va_callv (va_runV (As := As) (rest := rest) ⟨hx, rfl, hml, hown, hts⟩ hM2 ⟨callB_of n hts hG rfl rfl rfl (hts _ hcw.2.1) (hts _ hln) hcw.2.2 hR, hts _ hci.1, hts _ hci.2⟩ hPV rfl hn hl.1 hst (lv_room hro) (hT j _ _ _ hd) ⟨hnc, hns⟩) hS (fun q _ h => hA1 q h) hA1 (fun u t H1 l1 ht hvm hw hB hz1 hk1 hS1 => by
    subst hw
    have hP1 : va_P D vwCl (gW cy Z ad z2.2) H1 := by rw [← ht]; exact hB
    exact k _ _ h H1 l1 la hP1 (gD_fst gW_fst hD) hS1 hl)
  · exact va_callv (va_runVN (As := As) (rest := rest) ⟨hx, rfl, hml, hown, hts⟩ hM2 ⟨va_cnB n hts hG rfl rfl rfl (hY.nw _ hln) (hts _ hcw.2.1) hcw.2.2 hR, hts _ hci.1, hts _ hci.2⟩ hPV rfl hn hl.1 hst (lv_room hro) (hT j _ _ _ hd) ⟨hnc, hns⟩) hS (fun q _ h => hA1 q h) hA1 (fun u t H1 l1 ht hvm hw hB hz1 hk1 hS1 => by
    subst hw
    have hP1 : va_P D vwCl (gW cy Z ad z2.2) H1 := by rw [← ht]; exact hB
    exact k _ _ h H1 l1 la hP1 (gD_fst gW_fst hD) hS1 hl)
theorem g_callSi (C : gOkQ g T own nL rt R Z ad nc ns E) (j : Nat) {index : Nat} {y : MethodName} {cc2 : ByteArray} {nL2 L2 n : Nat} {ty : FieldType} {av : (Nat → Nat) → List Value} {F : gS → Option (Int32 × gS)} {f : Int32 → gS → Option α} (As rest : List Value) (hd : T[j]? = some (pc, .invokestatic index, 3)) (hM : gMet y cc2 nL2 (some ty) L2 Z av F) (hln : gCn own index y) (hcw : gCw y cc2 nL2 (some ty) n) (hcs : gCs y) (hav : av ad = As) (hst : st = As.reverse ++ rest) (hn : As.length = n) (hro : (rest.map fun v => v.category).sum ≤ 8) (hR : L2 + 1 ≤ R.frames ∧ 8 + (nL2 + 11) + 64 * L2 ≤ R.locals) (h : mCall (F σ) f = some z) (k : ∀ r σ1, f r σ1 = some z → g (pc + 3) ls (.int r :: rest) σ1) : g pc ls st σ := by
  obtain ⟨p, l, e, s, m, args, below, meth, c, A, D, cy, Q, hx, hT, hr, hml, hown, hts, hlk, hK, hA, hY, hE, hnc, hns, rfl⟩ := C
  intro H locs la hP hD hS hl
  have hA1 : ∀ q, va_A (gW cy Z ad σ) H.size q → A q := fun q hq => by
    rcases hq with ⟨k, e, hk⟩ | hq
    · exact hD.2 k (q, e) hk
    · exact hA q (Nat.le_trans hS.1 hq)
  have hpre : ∀ U : State, U.heap = H → s.WarmedH U.vm → U.heap.size = H.size ∧ gPre D cy ad (gW cy Z ad σ) (va_A (gW cy Z ad σ) H.size) U := fun U hU hW => ⟨by rw [hU], by rw [hU]; exact hP, va_K.moved hW.alike hK, hD.weaken (fun _ _ _ _ => trivial), gY.weaken hA1 (gY.moved hW hS hU hY)⟩
  have hbl : FrameBlind (va_Pc (av ad) (fun U => U.heap.size = H.size ∧ gPre D cy ad (gW cy Z ad σ) (va_A (gW cy Z ad σ) H.size) U)) := fun a U g mk q => by
    obtain ⟨q0, q1, qP, qK, qD, qY⟩ := q
    exact ⟨q0, q1, qP, va_K.moved (u := U) (U := U.calling g mk a) (Vm.Alike.refl U.vm) qK, qD, gY.same (U := U) (V := U.calling g mk a) rfl rfl qY⟩
  have hG : GoodIn TB (Cond.code y cc2 nL2 (some ty) :: TB) := TBg hcw.1
  cases hF : F σ with
  | none => rw [hF] at h; cases h
  | some z2 =>
  rw [hF] at h
  have hM2 := hM l D cy ad H.size σ z2 hF
  have hPS : PreS s H (va_Pc (av ad) (fun U => U.heap.size = H.size ∧ gPre D cy ad (gW cy Z ad σ) (va_A (gW cy Z ad σ) H.size) U)) As := ⟨hbl, fun U hU hW => ⟨by rw [hav], hpre U hU hW⟩⟩
  rcases hln with hln | ⟨host, hln⟩
  · exact va_calli (va_runS (As := As) (rest := rest) ⟨hx, rfl, hml, hown, hts⟩ hM2 ⟨callB_of n hts hG rfl rfl rfl (hts _ hcw.2.1) (hts _ hln) hcw.2.2 hR, hts _ hcs⟩ hPS rfl hn hl.1 hst (lv_room hro) (hT j _ _ _ hd) ⟨hnc, hns⟩) hS (fun q _ h => hA1 q h) hA1 (fun r u t H1 l1 ht hvm hw hB hz1 hk1 hS1 => by
    have e1 : r = z2.1 := congrArg Prod.fst hw
    have e2 : u = z2.2 := congrArg Prod.snd hw
    subst e1; subst e2
    have hP1 : va_P D vwCl (gW cy Z ad z2.2) H1 := by rw [← ht]; exact hB
    exact k _ _ h H1 l1 la hP1 (gD_fst gW_fst hD) hS1 hl)
  · exact va_calli (va_runSN (As := As) (rest := rest) ⟨hx, rfl, hml, hown, hts⟩ hM2 ⟨va_cnB n hts hG rfl rfl rfl (hY.nw _ hln) (hts _ hcw.2.1) hcw.2.2 hR, hts _ hcs, trivial⟩ hPS rfl hn hl.1 hst (lv_room hro) (hT j _ _ _ hd) ⟨hnc, hns⟩) hS (fun q _ h => hA1 q h) hA1 (fun r u t H1 l1 ht hvm hw hB hz1 hk1 hS1 => by
    have e1 : r = z2.1 := congrArg Prod.fst hw
    have e2 : u = z2.2 := congrArg Prod.snd hw
    subst e1; subst e2
    have hP1 : va_P D vwCl (gW cy Z ad z2.2) H1 := by rw [← ht]; exact hB
    exact k _ _ h H1 l1 la hP1 (gD_fst gW_fst hD) hS1 hl)
theorem g_callSv (C : gOkQ g T own nL rt R Z ad nc ns E) (j : Nat) {index : Nat} {y : MethodName} {cc2 : ByteArray} {nL2 L2 n : Nat} {av : (Nat → Nat) → List Value} {F : gS → Option (Int32 × gS)} {f : Int32 → gS → Option α} (As rest : List Value) (hd : T[j]? = some (pc, .invokestatic index, 3)) (hM : gMet y cc2 nL2 none L2 Z av F) (hln : gCn own index y) (hcw : gCw y cc2 nL2 none n) (hcs : gCs y) (hav : av ad = As) (hst : st = As.reverse ++ rest) (hn : As.length = n) (hro : (rest.map fun v => v.category).sum ≤ 8) (hR : L2 + 1 ≤ R.frames ∧ 8 + (nL2 + 11) + 64 * L2 ≤ R.locals) (h : mCall (F σ) f = some z) (k : ∀ r σ1, f r σ1 = some z → g (pc + 3) ls (rest) σ1) : g pc ls st σ := by
  obtain ⟨p, l, e, s, m, args, below, meth, c, A, D, cy, Q, hx, hT, hr, hml, hown, hts, hlk, hK, hA, hY, hE, hnc, hns, rfl⟩ := C
  intro H locs la hP hD hS hl
  have hA1 : ∀ q, va_A (gW cy Z ad σ) H.size q → A q := fun q hq => by
    rcases hq with ⟨k, e, hk⟩ | hq
    · exact hD.2 k (q, e) hk
    · exact hA q (Nat.le_trans hS.1 hq)
  have hpre : ∀ U : State, U.heap = H → s.WarmedH U.vm → U.heap.size = H.size ∧ gPre D cy ad (gW cy Z ad σ) (va_A (gW cy Z ad σ) H.size) U := fun U hU hW => ⟨by rw [hU], by rw [hU]; exact hP, va_K.moved hW.alike hK, hD.weaken (fun _ _ _ _ => trivial), gY.weaken hA1 (gY.moved hW hS hU hY)⟩
  have hbl : FrameBlind (va_Pc (av ad) (fun U => U.heap.size = H.size ∧ gPre D cy ad (gW cy Z ad σ) (va_A (gW cy Z ad σ) H.size) U)) := fun a U g mk q => by
    obtain ⟨q0, q1, qP, qK, qD, qY⟩ := q
    exact ⟨q0, q1, qP, va_K.moved (u := U) (U := U.calling g mk a) (Vm.Alike.refl U.vm) qK, qD, gY.same (U := U) (V := U.calling g mk a) rfl rfl qY⟩
  have hG : GoodIn TB (Cond.code y cc2 nL2 none :: TB) := TBg hcw.1
  cases hF : F σ with
  | none => rw [hF] at h; cases h
  | some z2 =>
  rw [hF] at h
  have hM2 := hM l D cy ad H.size σ z2 hF
  have hPS : PreS s H (va_Pc (av ad) (fun U => U.heap.size = H.size ∧ gPre D cy ad (gW cy Z ad σ) (va_A (gW cy Z ad σ) H.size) U)) As := ⟨hbl, fun U hU hW => ⟨by rw [hav], hpre U hU hW⟩⟩
  rcases hln with hln | ⟨host, hln⟩
  · exact va_callv (va_runS (As := As) (rest := rest) ⟨hx, rfl, hml, hown, hts⟩ hM2 ⟨callB_of n hts hG rfl rfl rfl (hts _ hcw.2.1) (hts _ hln) hcw.2.2 hR, hts _ hcs⟩ hPS rfl hn hl.1 hst (lv_room hro) (hT j _ _ _ hd) ⟨hnc, hns⟩) hS (fun q _ h => hA1 q h) hA1 (fun u t H1 l1 ht hvm hw hB hz1 hk1 hS1 => by
    subst hw
    have hP1 : va_P D vwCl (gW cy Z ad z2.2) H1 := by rw [← ht]; exact hB
    exact k _ _ h H1 l1 la hP1 (gD_fst gW_fst hD) hS1 hl)
  · exact va_callv (va_runSN (As := As) (rest := rest) ⟨hx, rfl, hml, hown, hts⟩ hM2 ⟨va_cnB n hts hG rfl rfl rfl (hY.nw _ hln) (hts _ hcw.2.1) hcw.2.2 hR, hts _ hcs, trivial⟩ hPS rfl hn hl.1 hst (lv_room hro) (hT j _ _ _ hd) ⟨hnc, hns⟩) hS (fun q _ h => hA1 q h) hA1 (fun u t H1 l1 ht hvm hw hB hz1 hk1 hS1 => by
    subst hw
    have hP1 : va_P D vwCl (gW cy Z ad z2.2) H1 := by rw [← ht]; exact hB
    exact k _ _ h H1 l1 la hP1 (gD_fst gW_fst hD) hS1 hl)
theorem g_callKi (C : gOkQ g T own nL rt R Z ad nc ns E) (j : Nat) {index : Nat} {y : MethodName} {cc2 : ByteArray} {nL2 L2 n : Nat} {ty : FieldType} {av : (Nat → Nat) → List Value} {F : gS → Option (Int32 × gS)} {f : Int32 → gS → Option α} (As rest : List Value) {i : Nat} (hi : i < 6) (hd : T[j]? = some (pc, .invokevirtual index, 3)) (hM : gMet y cc2 nL2 (some ty) L2 Z av F) (hln : gCn own index y) (hcw : gCw y cc2 nL2 (some ty) n) (hci : gCi y) (hyc : y.cls = "java/lang/String") (hav : av ad = .ref (ad (100000 + i)) :: As) (hst : st = As.reverse ++ .ref (ad (100000 + i)) :: rest) (hn : As.length = n) (hro : (rest.map fun v => v.category).sum ≤ 8) (hR : L2 + 1 ≤ R.frames ∧ 8 + (nL2 + 11) + 64 * L2 ≤ R.locals) (h : mCall (F σ) f = some z) (k : ∀ r σ1, f r σ1 = some z → g (pc + 3) ls (.int r :: rest) σ1) : g pc ls st σ := by
  obtain ⟨p, l, e, s, m, args, below, meth, c, A, D, cy, Q, hx, hT, hr, hml, hown, hts, hlk, hK, hA, hY, hE, hnc, hns, rfl⟩ := C
  intro H locs la hP hD hS hl
  have hA1 : ∀ q, va_A (gW cy Z ad σ) H.size q → A q := fun q hq => by
    rcases hq with ⟨k, e, hk⟩ | hq
    · exact hD.2 k (q, e) hk
    · exact hA q (Nat.le_trans hS.1 hq)
  have hpre : ∀ U : State, U.heap = H → s.WarmedH U.vm → U.heap.size = H.size ∧ gPre D cy ad (gW cy Z ad σ) (va_A (gW cy Z ad σ) H.size) U := fun U hU hW => ⟨by rw [hU], by rw [hU]; exact hP, va_K.moved hW.alike hK, hD.weaken (fun _ _ _ _ => trivial), gY.weaken hA1 (gY.moved hW hS hU hY)⟩
  have hbl : FrameBlind (va_Pc (av ad) (fun U => U.heap.size = H.size ∧ gPre D cy ad (gW cy Z ad σ) (va_A (gW cy Z ad σ) H.size) U)) := fun a U g mk q => by
    obtain ⟨q0, q1, qP, qK, qD, qY⟩ := q
    exact ⟨q0, q1, qP, va_K.moved (u := U) (U := U.calling g mk a) (Vm.Alike.refl U.vm) qK, qD, gY.same (U := U) (V := U.calling g mk a) rfl rfl qY⟩
  have hG : GoodIn TB (Cond.code y cc2 nL2 (some ty) :: TB) := TBg hcw.1
  cases hF : F σ with
  | none => rw [hF] at h; cases h
  | some z2 =>
  rw [hF] at h
  have hM2 := hM l D cy ad H.size σ z2 hF
  have hrv := vk_recv hY.2.2.2.2.2.1 hi hS
  rw [← hyc] at hrv
  have hPV : PreV s H y.cls (ad (100000 + i)) (va_Pc (av ad) (fun U => U.heap.size = H.size ∧ gPre D cy ad (gW cy Z ad σ) (va_A (gW cy Z ad σ) H.size) U)) As := ⟨hbl, hrv, fun U hU hW => ⟨by rw [hav], hpre U hU hW⟩⟩
  rcases hln with hln | ⟨host, hln⟩
  · exact va_calli (va_runV (As := As) (rest := rest) ⟨hx, rfl, hml, hown, hts⟩ hM2 ⟨callB_of n hts hG rfl rfl rfl (hts _ hcw.2.1) (hts _ hln) hcw.2.2 hR, hts _ hci.1, hts _ hci.2⟩ hPV rfl hn hl.1 hst (lv_room hro) (hT j _ _ _ hd) ⟨hnc, hns⟩) hS (fun q _ h => hA1 q h) hA1 (fun r u t H1 l1 ht hvm hw hB hz1 hk1 hS1 => by
    have e1 : r = z2.1 := congrArg Prod.fst hw
    have e2 : u = z2.2 := congrArg Prod.snd hw
    subst e1; subst e2
    have hP1 : va_P D vwCl (gW cy Z ad z2.2) H1 := by rw [← ht]; exact hB
    exact k _ _ h H1 l1 la hP1 (gD_fst gW_fst hD) hS1 hl)
  · exact va_calli (va_runVN (As := As) (rest := rest) ⟨hx, rfl, hml, hown, hts⟩ hM2 ⟨va_cnB n hts hG rfl rfl rfl (hY.nw _ hln) (hts _ hcw.2.1) hcw.2.2 hR, hts _ hci.1, hts _ hci.2⟩ hPV rfl hn hl.1 hst (lv_room hro) (hT j _ _ _ hd) ⟨hnc, hns⟩) hS (fun q _ h => hA1 q h) hA1 (fun r u t H1 l1 ht hvm hw hB hz1 hk1 hS1 => by
    have e1 : r = z2.1 := congrArg Prod.fst hw
    have e2 : u = z2.2 := congrArg Prod.snd hw
    subst e1; subst e2
    have hP1 : va_P D vwCl (gW cy Z ad z2.2) H1 := by rw [← ht]; exact hB
    exact k _ _ h H1 l1 la hP1 (gD_fst gW_fst hD) hS1 hl)
theorem g_kab (C : gOkQ g T own nL rt R Z ad nc ns E) (j : Nat) {index : Nat} (hd : T[j]? = some (pc, .getstatic index, 3)) {host : String} (hw : Cond.fieldLinkNest own index "CopiedFire" "KIND_ABOVE" "[I" host ∈ NW) (k : g (pc + 3) ls (.ref (ad 300000) :: st) σ) : g pc ls st σ := by
  obtain ⟨p, l, e, s, m, args, below, meth, c, A, D, cy, Q, hx, hT, hr, hml, hown, hts, hlk, hK, hA, hY, hE, hnc, hns, rfl⟩ := C
  intro H locs la hP hD hS hl
  exact va_getsN hx rfl hY.2.1 hS hown (hY.use hw args) (fun _ h => h) (hT j _ _ _ hd) (k H locs la hP hD hS hl)
theorem g_kald (C : gOkQ g T own nL rt R Z ad nc ns E) (j : Nat) {x : Int32} {a : Option α} (hd : T[j]? = some (pc, .iaload, 1)) (h : mIn 6 x a = some z) (k : a = some z → g (pc + 1) ls (.int (kab (nn x)) :: st) σ) : g pc ls (.int x :: .ref (ad 300000) :: st) σ := by
  obtain ⟨p, l, e, s, m, args, below, meth, c, A, D, cy, Q, hx, hT, hr, hml, hown, hts, hlk, hK, hA, hY, hE, hnc, hns, rfl⟩ := C
  intro H locs la hP hD hS hl
  obtain ⟨hin, h⟩ := h_in h
  exact va_ti hx rfl hY.2.2.1 hS hin rfl (hT j _ _ _ hd) (k h H locs la hP hD hS hl)
theorem g_cst (C : gOkQ g T own nL rt R Z ad nc ns E) (j : Nat) {index : Nat} (hd : T[j]? = some (pc, .getstatic index, 3)) (hw : Cond.fieldLink own index "java/lang/String" "COMPACT_STRINGS" "Z" ∈ TB) (k : g (pc + 3) ls (.int 1 :: st) σ) : g pc ls st σ := by
  obtain ⟨p, l, e, s, m, args, below, meth, c, A, D, cy, Q, hx, hT, hr, hml, hown, hts, hlk, hK, hA, hY, hE, hnc, hns, rfl⟩ := C
  intro H locs la hP hD hS hl
  exact va_gets hx rfl hY.2.2.2.1 hS hown (hts _ hw) (fun _ h => h) (hT j _ _ _ hd) (k H locs la hP hD hS hl)
theorem g_siob (C : gOkQ g T own nL rt R Z ad nc ns E) (j : Nat) {index : Nat} (hd : T[j]? = some (pc, .getstatic index, 3)) (hw : Cond.fieldLink own index "jdk/internal/util/Preconditions" "SIOOBE_FORMATTER" "Ljava/util/function/BiFunction;" ∈ TB) (k : ∀ v : Value, v.category = 1 → g (pc + 3) ls (v :: st) σ) : g pc ls st σ := by
  obtain ⟨p, l, e, s, m, args, below, meth, c, A, D, cy, Q, hx, hT, hr, hml, hown, hts, hlk, hK, hA, hY, hE, hnc, hns, rfl⟩ := C
  intro H locs la hP hD hS hl
  rcases hY.2.2.2.2.1 with hq | ⟨t, hq⟩
  · exact va_gets hx rfl hq hS hown (hts _ hw) (fun _ h => h) (hT j _ _ _ hd) (k _ rfl H locs la hP hD hS hl)
  · exact va_gets hx rfl hq hS hown (hts _ hw) (fun _ h => h) (hT j _ _ _ hd) (k _ rfl H locs la hP hD hS hl)
theorem g_ldcS (C : gOkQ g T own nL rt R Z ad nc ns E) (j : Nat) {index : Nat} (i : Nat) (hi : i < 6) (ho : own = "CopiedFire$Reader") (hix : sIx.getD i 0 = index) (hd : T[j]? = some (pc, .ldc index, 2)) (k : g (pc + 2) ls (.ref (ad (100000 + i)) :: st) σ) : g pc ls st σ := by
  obtain ⟨p, l, e, s, m, args, below, meth, c, A, D, cy, Q, hx, hT, hr, hml, hown, hts, hlk, hK, hA, hY, hE, hnc, hns, rfl⟩ := C
  intro H locs la hP hD hS hl
  subst ho; subst hix
  exact va_ldcS hx rfl hown (hY.2.2.2.2.2.2 i hi) (hT j _ _ _ hd) (k H locs la hP hD hS hl)
theorem g_sval (C : gOkQ g T own nL rt R Z ad nc ns E) (j : Nat) {index i : Nat} (hi : i < 6) (hd : T[j]? = some (pc, .getfield index, 3)) (hw : Cond.fieldLink own index "java/lang/String" "value" "[B" ∈ TB) (k : g (pc + 3) ls (.ref (ad (200000 + i)) :: st) σ) : g pc ls (.ref (ad (100000 + i)) :: st) σ := by
  obtain ⟨p, l, e, s, m, args, below, meth, c, A, D, cy, Q, hx, hT, hr, hml, hown, hts, hlk, hK, hA, hY, hE, hnc, hns, rfl⟩ := C
  intro H locs la hP hD hS hl
  exact vk_getf hx rfl (hY.2.2.2.2.2.1.1 i hi).2.2.1 hS hown (hts _ hw) (fun _ h => h) (hT j _ _ _ hd) (k H locs la hP hD hS hl)
theorem g_scod (C : gOkQ g T own nL rt R Z ad nc ns E) (j : Nat) {index i : Nat} (hi : i < 6) (hd : T[j]? = some (pc, .getfield index, 3)) (hw : Cond.fieldLink own index "java/lang/String" "coder" "B" ∈ TB) (k : g (pc + 3) ls (.int 0 :: st) σ) : g pc ls (.ref (ad (100000 + i)) :: st) σ := by
  obtain ⟨p, l, e, s, m, args, below, meth, c, A, D, cy, Q, hx, hT, hr, hml, hown, hts, hlk, hK, hA, hY, hE, hnc, hns, rfl⟩ := C
  intro H locs la hP hD hS hl
  exact vk_getf hx rfl (hY.2.2.2.2.2.1.1 i hi).2.1 hS hown (hts _ hw) (fun _ h => h) (hT j _ _ _ hd) (k H locs la hP hD hS hl)
theorem g_balen (C : gOkQ g T own nL rt R Z ad nc ns E) (j : Nat) {i : Nat} (hi : i < 6) (hd : T[j]? = some (pc, .arraylength, 1)) (k : g (pc + 1) ls (.int (Int32.ofNat (sLen.getD i 0)) :: st) σ) : g pc ls (.ref (ad (200000 + i)) :: st) σ := by
  obtain ⟨p, l, e, s, m, args, below, meth, c, A, D, cy, Q, hx, hT, hr, hml, hown, hts, hlk, hK, hA, hY, hE, hnc, hns, rfl⟩ := C
  intro H locs la hP hD hS hl
  exact va_tlen hx rfl (hY.2.2.2.2.2.1.1 i hi).2.2.2 hS rfl (hT j _ _ _ hd) (k H locs la hP hD hS hl)
theorem g_bald (C : gOkQ g T own nL rt R Z ad nc ns E) (j : Nat) {i : Nat} {x : Int32} {a : Option α} (hi : i < 6) (hd : T[j]? = some (pc, .baload, 1)) (h : mIn (sLen.getD i 0) x a = some z) (k : a = some z → g (pc + 1) ls (.int ((sByt.getD i []).getD (nn x) 0) :: st) σ) : g pc ls (.int x :: .ref (ad (200000 + i)) :: st) σ := by
  obtain ⟨p, l, e, s, m, args, below, meth, c, A, D, cy, Q, hx, hT, hr, hml, hown, hts, hlk, hK, hA, hY, hE, hnc, hns, rfl⟩ := C
  intro H locs la hP hD hS hl
  obtain ⟨hin, h⟩ := h_in h
  exact va_tb hx rfl (hY.2.2.2.2.2.1.1 i hi).2.2.2 hS hin rfl (hT j _ _ _ hd) (k h H locs la hP hD hS hl)
theorem g_i2b (C : gOkQ g T own nL rt R Z ad nc ns E) (j : Nat) {x : Int32} (hd : T[j]? = some (pc, .i2b, 1)) (k : g (pc + 1) ls (.int x.toInt8.toInt32 :: st) σ) : g pc ls (.int x :: st) σ := by
  obtain ⟨p, l, e, s, m, args, below, meth, c, A, D, cy, Q, hx, hT, hr, hml, hown, hts, hlk, hK, hA, hY, hE, hnc, hns, rfl⟩ := C
  intro H locs la hP hD hS hl
  exact lv_i2b hx rfl (hT j _ _ _ hd) rfl (k H locs la hP hD hS hl)
end
theorem g_ireturn {g : Nat → List (Nat × Value) → List Value → gS → Prop} {T : List (Nat × Instr × Nat)} {own : String} {nL : Nat} {L : Nat} {Z : List gH} {ad : Nat → Nat} {pc : Nat} {ls : List (Nat × Value)} {σ : gS} {z : Int32 × gS} {v : Int32} (C : gOk g T own nL (some .int) L Z ad z) (j : Nat) (hd : T[j]? = some (pc, .ireturn, 1)) (h : some (v, σ) = some z) : g pc ls [.int v] σ := by
  obtain ⟨p, l, e, s, m, args, below, meth, c, A, D, cy, Q, hx, hT, hr, hml, hown, hts, hlk, hK, hA, hY, hQ, hnc, hns, rfl⟩ := C
  intro H locs la hP hD hS hl
  subst hQ
  have hz : (v, σ) = z := Option.some.inj h
  exact W.zret hx rfl hr rfl (fun t ht hW => ⟨⟨v, σ, rfl, hz, by show va_P _ _ _ _; rw [ht]; exact hP⟩, hS.F ht⟩) hS.2.2 (hT j _ _ _ hd) hlk
theorem g_zreturn {g : Nat → List (Nat × Value) → List Value → gS → Prop} {T : List (Nat × Instr × Nat)} {own : String} {nL : Nat} {L : Nat} {Z : List gH} {ad : Nat → Nat} {pc : Nat} {ls : List (Nat × Value)} {σ : gS} {z : Int32 × gS} {v : Int32} (C : gOk g T own nL (some .boolean) L Z ad z) (j : Nat) (hd : T[j]? = some (pc, .ireturn, 1)) (h : mZ v σ = some z) : g pc ls [.int v] σ := by
  obtain ⟨p, l, e, s, m, args, below, meth, c, A, D, cy, Q, hx, hT, hr, hml, hown, hts, hlk, hK, hA, hY, hQ, hnc, hns, rfl⟩ := C
  intro H locs la hP hD hS hl
  subst hQ
  unfold mZ at h
  by_cases hv : v = 0 ∨ v = 1
  · rw [if_pos hv] at h
    have hz : (v, σ) = z := Option.some.inj h
    exact W.zret hx rfl hr (by rcases hv with rfl | rfl <;> rfl) (fun t ht hW => ⟨⟨v, σ, rfl, hz, by show va_P _ _ _ _; rw [ht]; exact hP⟩, hS.F ht⟩) hS.2.2 (hT j _ _ _ hd) hlk
  · rw [if_neg hv] at h; cases h
theorem g_nreturn {g : Nat → List (Nat × Value) → List Value → gS → Prop} {T : List (Nat × Instr × Nat)} {own : String} {nL : Nat} {L : Nat} {Z : List gH} {ad : Nat → Nat} {pc : Nat} {ls : List (Nat × Value)} {σ : gS} {z : Int32 × gS} {v : Int32} {ty : FieldType} (C : gOk g T own nL (some ty) L Z ad z) (j : Nat) (hty : ty = .char ∨ ty = .byte) (hd : T[j]? = some (pc, .ireturn, 1)) (h : (if vp_nar ty v = v then some (v, σ) else none) = some z) : g pc ls [.int v] σ := by
  obtain ⟨p, l, e, s, m, args, below, meth, c, A, D, cy, Q, hx, hT, hr, hml, hown, hts, hlk, hK, hA, hY, hQ, hnc, hns, rfl⟩ := C
  intro H locs la hP hD hS hl
  subst hQ
  by_cases hv : vp_nar ty v = v
  · rw [if_pos hv] at h
    have hz : (v, σ) = z := Option.some.inj h
    have hn : narrow ty (.int v) = .int v := by
      have e : narrow ty (.int v) = .int (vp_nar ty v) := by rcases hty with rfl | rfl <;> rfl
      rw [e, hv]
    exact W.zret hx rfl hr hn (fun t ht hW => ⟨⟨v, σ, rfl, hz, by show va_P _ _ _ _; rw [ht]; exact hP⟩, hS.F ht⟩) hS.2.2 (hT j _ _ _ hd) hlk
  · rw [if_neg hv] at h; cases h
theorem g_return {g : Nat → List (Nat × Value) → List Value → gS → Prop} {T : List (Nat × Instr × Nat)} {own : String} {nL : Nat} {L : Nat} {Z : List gH} {ad : Nat → Nat} {pc : Nat} {ls : List (Nat × Value)} {σ : gS} {z : Int32 × gS} (C : gOk g T own nL none L Z ad z) (j : Nat) (hd : T[j]? = some (pc, .return_, 1)) (h : some (0, σ) = some z) : g pc ls [] σ := by
  obtain ⟨p, l, e, s, m, args, below, meth, c, A, D, cy, Q, hx, hT, hr, hml, hown, hts, hlk, hK, hA, hY, hQ, hnc, hns, rfl⟩ := C
  intro H locs la hP hD hS hl
  subst hQ
  have hz : σ = z.2 := congrArg Prod.snd (Option.some.inj h)
  exact W.vret hx rfl hr (fun t ht hW => ⟨⟨σ, rfl, hz, by show va_P _ _ _ _; rw [ht]; exact hP⟩, hS.F ht⟩) hS.2.2 (hT j _ _ _ hd) hlk
theorem h_let {α β : Type} {a : α} {f : α → β} {w : β} {P : α → Prop} (h : mLet a f = w) (k : ∀ x, f x = w → P x) : P a := k a h
theorem h_some {α β : Type} {o : Option β} {f : β → Option α} {z : α} {P : Prop} (h : mSome o f = some z) (k : ∀ c, o = some c → f c = some z → P) : P := by
  cases o with
  | none => cases h
  | some c => exact k c rfl h
