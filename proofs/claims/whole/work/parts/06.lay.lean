/-! ===== the layout of the fixed cells ===== -/
def hsh (h : Nat) : List (Option (Option Nat)) := [some (some 1), some (some (h + 1)), some (some (h + 2)), some (some (h + 3)), some (some (h + 4)), some (some (h + 5)), some (some (h + 6)), some (some (h + 7)), some (some (h + 8)), none, none, none, none, none, none, none, none, none, none]
def ssh (c : Nat) : List (Option (Option Nat)) := [some (some (c + 1)), none, none]
def lsh (c : Nat) : List (Option (Option Nat)) := [some (some (c + 1)), none, none, none, none]
def tsh (c : Nat) : List (Option (Option Nat)) := [none, none, some (some (c + 1))]
def rsh (n a b : Nat) (j : Nat) : Option Nat := if j < n then some (a + b * j) else none
def LAY : List gH := [.inl (8, [some (some 1), some (some 4), some (some 13), some (some 22), some (some 31), some (some 34), some (some 36), some (some 38), some (some 47), some (some 63), some (some 64), none, none]),
  .inl (1, [some (some 2), some (some 3)]),
  .inr (5, 14, some (fun _ => none)),
  .inr (0, 96, none),
  .inl (0, hsh 4),
  .inr (0, 12, none),
  .inr (0, 12, none),
  .inr (0, 12, none),
  .inr (0, 12, none),
  .inr (0, 8, none),
  .inr (0, 64, none),
  .inr (0, 6, none),
  .inr (0, 3, none),
  .inl (0, hsh 13),
  .inr (0, 12, none),
  .inr (0, 12, none),
  .inr (0, 12, none),
  .inr (0, 12, none),
  .inr (0, 8, none),
  .inr (0, 64, none),
  .inr (0, 6, none),
  .inr (0, 3, none),
  .inl (0, hsh 22),
  .inr (0, 12, none),
  .inr (0, 12, none),
  .inr (0, 12, none),
  .inr (0, 12, none),
  .inr (0, 8, none),
  .inr (0, 64, none),
  .inr (0, 6, none),
  .inr (0, 3, none),
  .inl (3, [some (some 32), some (some 33)]),
  .inr (0, 64, none),
  .inr (0, 6, none),
  .inl (6, [some (some 35), none]),
  .inr (0, 96, none),
  .inl (2, [some (some 34), some (some 37), none, none, none, none, none, none, none]),
  .inr (0, 96, none),
  .inr (3, 4, some (rsh 4 39 2)),
  .inl (4, ssh 39),
  .inr (0, 24, none),
  .inl (4, ssh 41),
  .inr (0, 24, none),
  .inl (4, ssh 43),
  .inr (0, 24, none),
  .inl (4, ssh 45),
  .inr (0, 24, none),
  .inr (4, 5, some (rsh 5 48 3)),
  .inl (5, lsh 48),
  .inl (4, ssh 49),
  .inr (0, 24, none),
  .inl (5, lsh 51),
  .inl (4, ssh 52),
  .inr (0, 24, none),
  .inl (5, lsh 54),
  .inl (4, ssh 55),
  .inr (0, 24, none),
  .inl (5, lsh 57),
  .inl (4, ssh 58),
  .inr (0, 24, none),
  .inl (5, lsh 60),
  .inl (4, ssh 61),
  .inr (0, 24, none),
  .inr (0, 8, none),
  .inr (0, 60, none),
  .inl (9, [some (some 66), some (some 67), some (some 68), none, some (some 69), some (some 70), none, some (some 71), some (some 72), some (some 73), none, none, none, none, none, none, none, some (some 74), some (some 75), some (some 76), none, none, some (some 77), none, some (some 78), some (some 79), some (some 80), some (some 81), some (some 82), some (some 83), some (some 84), some (some 85), some (some 86), some (some 87), some (some 88), some (some 89), none]),
  .inr (0, 1508, none),
  .inr (0, 1508, none),
  .inr (0, 1508, none),
  .inr (0, 6, none),
  .inr (0, 6, none),
  .inr (0, 1508, none),
  .inr (0, 8, none),
  .inr (0, 96, none),
  .inr (1, 11, none),
  .inr (0, 4, none),
  .inr (0, 96, none),
  .inr (0, 96, none),
  .inr (2, 10, none),
  .inr (0, 96, none),
  .inr (0, 4, none),
  .inr (0, 4, none),
  .inr (0, 4, none),
  .inr (0, 96, none),
  .inr (0, 5, none),
  .inr (0, 5, none),
  .inr (0, 5, none),
  .inr (0, 120, none),
  .inr (0, 24, none),
  .inr (0, 60, none)]
def zl (Z : List gH) (c : Nat) : Nat := match (Z[c]? : Option gH) with
  | some (Sum.inr (_, n, _)) => n
  | _ => 0
def zr (Z : List gH) (t : Nat) : Option Nat := match (Z[2]? : Option gH) with
  | some (Sum.inr (_, _, some rs)) => rs t
  | _ => none
/-- a cell is an array of ints -/
def IA (Z : List gH) (a : Nat) : Prop := Z[a]? = some (.inr (0, zl Z a, none))
/-- a cell is a Text, its steps behind it -/
def TxB (Z : List gH) (c : Nat) : Prop := Z[c]? = some (.inl (7, tsh c)) ∧ IA Z (c + 1)
def HB (h : Nat) : Prop := h = 4 ∨ h = 13 ∨ h = 22
def SB (c : Nat) : Prop := c = 39 ∨ c = 41 ∨ c = 43 ∨ c = 45 ∨ c = 49 ∨ c = 52 ∨ c = 55 ∨ c = 58 ∨ c = 61
def LB (c : Nat) : Prop := c = 48 ∨ c = 51 ∨ c = 54 ∨ c = 57 ∨ c = 60
def Lay (Z : List gH) : Prop := (∀ (i : Nat) (h : gH), i ≠ 2 → LAY[i]? = some h → Z[i]? = some h) ∧ Z[2]? = some (.inr (5, 14, some (zr Z))) ∧ ∀ (t c : Nat), zr Z t = some c → TxB Z c
theorem Lay.at {Z : List gH} (hZ : Lay Z) {i : Nat} {h : gH} (hl : LAY[i]? = some h) (hi : i ≠ 2 := by decide) : Z[i]? = some h := hZ.1 i h hi hl
theorem hb_obj {Z : List gH} (hZ : Lay Z) {h : Nat} (hh : HB h) : Z[h]? = some (.inl (0, hsh h)) := by
  rcases hh with rfl | rfl | rfl
  · exact hZ.at rfl
  · exact hZ.at rfl
  · exact hZ.at rfl
theorem hb_kinds {Z : List gH} (hZ : Lay Z) {h : Nat} (hh : HB h) : Z[h + 1]? = some (.inr (0, 12, none)) := by
  rcases hh with rfl | rfl | rfl
  · exact hZ.at rfl
  · exact hZ.at rfl
  · exact hZ.at rfl
theorem hb_rooms {Z : List gH} (hZ : Lay Z) {h : Nat} (hh : HB h) : Z[h + 2]? = some (.inr (0, 12, none)) := by
  rcases hh with rfl | rfl | rfl
  · exact hZ.at rfl
  · exact hZ.at rfl
  · exact hZ.at rfl
theorem hb_fuels {Z : List gH} (hZ : Lay Z) {h : Nat} (hh : HB h) : Z[h + 3]? = some (.inr (0, 12, none)) := by
  rcases hh with rfl | rfl | rfl
  · exact hZ.at rfl
  · exact hZ.at rfl
  · exact hZ.at rfl
theorem hb_lits {Z : List gH} (hZ : Lay Z) {h : Nat} (hh : HB h) : Z[h + 4]? = some (.inr (0, 12, none)) := by
  rcases hh with rfl | rfl | rfl
  · exact hZ.at rfl
  · exact hZ.at rfl
  · exact hZ.at rfl
theorem hb_heats {Z : List gH} (hZ : Lay Z) {h : Nat} (hh : HB h) : Z[h + 5]? = some (.inr (0, 8, none)) := by
  rcases hh with rfl | rfl | rfl
  · exact hZ.at rfl
  · exact hZ.at rfl
  · exact hZ.at rfl
theorem hb_doors {Z : List gH} (hZ : Lay Z) {h : Nat} (hh : HB h) : Z[h + 6]? = some (.inr (0, 64, none)) := by
  rcases hh with rfl | rfl | rfl
  · exact hZ.at rfl
  · exact hZ.at rfl
  · exact hZ.at rfl
theorem hb_liked {Z : List gH} (hZ : Lay Z) {h : Nat} (hh : HB h) : Z[h + 7]? = some (.inr (0, 6, none)) := by
  rcases hh with rfl | rfl | rfl
  · exact hZ.at rfl
  · exact hZ.at rfl
  · exact hZ.at rfl
theorem hb_counting {Z : List gH} (hZ : Lay Z) {h : Nat} (hh : HB h) : Z[h + 8]? = some (.inr (0, 3, none)) := by
  rcases hh with rfl | rfl | rfl
  · exact hZ.at rfl
  · exact hZ.at rfl
  · exact hZ.at rfl
theorem sb_obj {Z : List gH} (hZ : Lay Z) {c : Nat} (hc : SB c) : Z[c]? = some (.inl (4, ssh c)) := by
  rcases hc with rfl | rfl | rfl | rfl | rfl | rfl | rfl | rfl | rfl <;> exact hZ.at rfl
theorem sb_places {Z : List gH} (hZ : Lay Z) {c : Nat} (hc : SB c) : Z[c + 1]? = some (.inr (0, 24, none)) := by
  rcases hc with rfl | rfl | rfl | rfl | rfl | rfl | rfl | rfl | rfl <;> exact hZ.at rfl
theorem lb_obj {Z : List gH} (hZ : Lay Z) {c : Nat} (hc : LB c) : Z[c]? = some (.inl (5, lsh c)) := by
  rcases hc with rfl | rfl | rfl | rfl | rfl <;> exact hZ.at rfl
theorem lb_row {c : Nat} (hc : LB c) : SB (c + 1) := by
  rcases hc with rfl | rfl | rfl | rfl | rfl <;> simp [SB]
theorem sb_sheets {x : Int32} (h : vp_in x 4) : rsh 4 39 2 (nn x) = some (39 + 2 * nn x) ∧ SB (39 + 2 * nn x) := by
  have h1 : nn x < 4 := Nat.not_le.mp fun q => h (Or.inr q)
  refine ⟨if_pos h1, ?_⟩
  unfold SB
  omega
theorem lb_slots {x : Int32} (h : vp_in x 5) : rsh 5 48 3 (nn x) = some (48 + 3 * nn x) ∧ LB (48 + 3 * nn x) := by
  have h1 : nn x < 5 := Nat.not_le.mp fun q => h (Or.inr q)
  refine ⟨if_pos h1, ?_⟩
  unfold LB
  omega
theorem tx_obj {Z : List gH} {c : Nat} (h : TxB Z c) : Z[c]? = some (.inl (7, tsh c)) := h.1
theorem tx_steps {Z : List gH} {c : Nat} (h : TxB Z c) : IA Z (c + 1) := h.2
theorem ia_of {Z : List gH} {c n : Nat} (h : Z[c]? = some (.inr (0, n, none))) : IA Z c := by
  have e : zl Z c = n := by unfold zl; rw [h]
  unfold IA; rw [e]; exact h
def mFuel : Nat := 5000
def mSh {α : Type} (x : Int32) (f : Nat → Option α) : Option α := mIn 4 x (f (39 + 2 * nn x))
def mSl {α : Type} (x : Int32) (f : Nat → Option α) : Option α := mIn 5 x (f (48 + 3 * nn x))
theorem g_sheet {g : Nat → List (Nat × Value) → List Value → gS → Prop} {T : List (Nat × Instr × Nat)} {own : String} {nL : Nat} {rt : Option FieldType} {R : Room} {Z : List gH} {ad : Nat → Nat} {nc ns : Nat} {E : (p : Program) → (l : Launch) → (e : Env) → (s : State) → (m : MethodId) → (args : Array Value) → (below : List Frame) → (meth : Method) → (c : Code) → (A : Nat → Prop) → (D : va_G) → (cy : Nat → ClassId) → (Q : State → Prop) → Prop} {pc : Nat} {ls : List (Nat × Value)} {st : List Value} {σ : gS} {α : Type} {z : α} (C : gOkQ g T own nL rt R Z ad nc ns E) (j : Nat) {x : Int32} {f : Nat → Option α} (hZ : Lay Z) (hd : T[j]? = some (pc, .aaload, 1)) (h : mSh x f = some z) (kk : ∀ c, SB c → f c = some z → g (pc + 1) ls (.ref (ad c) :: st) σ) : g pc ls (.int x :: .ref (ad 38) :: st) σ := by
  refine g_aald C j hd (Or.inl rfl) (hZ.at (i := 38) rfl) h (fun hin h => ?_)
  rw [(sb_sheets hin).1]
  exact kk _ (sb_sheets hin).2 h
theorem g_slot {g : Nat → List (Nat × Value) → List Value → gS → Prop} {T : List (Nat × Instr × Nat)} {own : String} {nL : Nat} {rt : Option FieldType} {R : Room} {Z : List gH} {ad : Nat → Nat} {nc ns : Nat} {E : (p : Program) → (l : Launch) → (e : Env) → (s : State) → (m : MethodId) → (args : Array Value) → (below : List Frame) → (meth : Method) → (c : Code) → (A : Nat → Prop) → (D : va_G) → (cy : Nat → ClassId) → (Q : State → Prop) → Prop} {pc : Nat} {ls : List (Nat × Value)} {st : List Value} {σ : gS} {α : Type} {z : α} (C : gOkQ g T own nL rt R Z ad nc ns E) (j : Nat) {x : Int32} {f : Nat → Option α} (hZ : Lay Z) (hd : T[j]? = some (pc, .aaload, 1)) (h : mSl x f = some z) (kk : ∀ c, LB c → f c = some z → g (pc + 1) ls (.ref (ad c) :: st) σ) : g pc ls (.int x :: .ref (ad 47) :: st) σ := by
  refine g_aald C j hd (Or.inr (Or.inl rfl)) (hZ.at (i := 47) rfl) h (fun hin h => ?_)
  rw [(lb_slots hin).1]
  exact kk _ (lb_slots hin).2 h
theorem g_let {g : Nat → List (Nat × Value) → List Value → gS → Prop} {pc : Nat} {ls : List (Nat × Value)} {st : List Value} {σ : gS} {α : Type} {z : α} {a : Int32} {f : Int32 → Option α} (h : mLet a f = some z) (k : ∀ x, f x = some z → g pc ls (.int x :: st) σ) : g pc ls (.int a :: st) σ := k a h
theorem g_getq {g : Nat → List (Nat × Value) → List Value → gS → Prop} {pc : Nat} {ls : List (Nat × Value)} {st : List Value} {σ : gS} {α : Type} {z : α} {ad : Nat → Nat} {o : Option Nat} {f : Nat → Option α} (h : mSome o f = some z) (k : ∀ c, o = some c → f c = some z → g pc ls (.ref (ad c) :: st) σ) : g pc ls (va_rf (o.map ad) :: st) σ := by
  cases o with
  | none => cases h
  | some c => exact k c rfl h
