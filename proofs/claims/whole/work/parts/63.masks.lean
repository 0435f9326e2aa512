/-! ===== rooms as bits ===== -/
def bt (x : Int32) (r : Nat) : Bool := x.toBitVec.getLsbD r
def MK (x : Int32) (p : Nat → Bool) : Prop := ∀ r, bt x r = (decide (r < 8) && p r)
theorem bt_or (x y : Int32) (r : Nat) : bt (x ||| y) r = (bt x r || bt y r) := BitVec.getLsbD_or
theorem bt_and (x y : Int32) (r : Nat) : bt (x &&& y) r = (bt x r && bt y r) := BitVec.getLsbD_and
theorem bt_nat (m r : Nat) : bt (Int32.ofNat m) r = (decide (r < 32) && m.testBit r) := BitVec.getLsbD_ofNat 32 m r
theorem bt_pow {r : Nat} (hr : r < 8) (k : Nat) : bt (Int32.ofNat (2 ^ r)) k = (k == r) := by
  rw [bt_nat, Nat.testBit_two_pow]
  by_cases e : k = r
  · subst e
    rw [decide_eq_true (by omega : k < 32), decide_eq_true rfl]
    simp
  · have e2 : ¬ r = k := fun q => e q.symm
    simp [e, e2]
theorem shl1 : ∀ r, r < 8 → (1 : Int32) <<< (Int32.ofNat r &&& 31) = Int32.ofNat (2 ^ r) := by decide +kernel
theorem bt_cpl {r : Nat} (hr : r < 8) (k : Nat) : bt (Int32.ofNat (2 ^ r) ^^^ -1) k = ((k == r) != decide (k < 32)) := by
  have e : bt (Int32.ofNat (2 ^ r) ^^^ -1) k = (bt (Int32.ofNat (2 ^ r)) k ^^ (BitVec.allOnes 32).getLsbD k) := BitVec.getLsbD_xor
  rw [e, bt_pow hr, BitVec.getLsbD_allOnes]
theorem MK.rem {x : Int32} {p : Nat → Bool} (h : MK x p) {r : Nat} (hr : r < 8) : MK (x &&& (Int32.ofNat (2 ^ r) ^^^ -1)) (qrem p r) := by
  intro k
  rw [bt_and, h k, bt_cpl hr]
  unfold qrem
  by_cases c : k < 8
  · rw [decide_eq_true c, decide_eq_true (by omega : k < 32)]
    cases p k <;> cases (k == r) <;> rfl
  · rw [decide_eq_false c]; simp
theorem MK.and {x y : Int32} {p q : Nat → Bool} (h1 : MK x p) (h2 : MK y q) : MK (x &&& y) (fun r => p r && q r) := by
  intro k
  rw [bt_and, h1 k, h2 k]
  show _ = (decide (k < 8) && (p k && q k))
  cases decide (k < 8) <;> cases p k <;> cases q k <;> rfl
theorem MK.or {x y : Int32} {p q : Nat → Bool} (h1 : MK x p) (h2 : MK y q) : MK (x ||| y) (fun r => p r || q r) := by
  intro k
  rw [bt_or, h1 k, h2 k]
  show _ = (decide (k < 8) && (p k || q k))
  cases decide (k < 8) <;> cases p k <;> cases q k <;> rfl
theorem MK.cg {x : Int32} {p q : Nat → Bool} (h : MK x p) (e : ∀ r, r < 8 → p r = q r) : MK x q := by
  intro k
  rw [h k]
  by_cases c : k < 8
  · rw [e k c]
  · rw [decide_eq_false c]; rfl
theorem mk_zero : MK 0 (fun _ => false) := by
  intro k
  have : bt 0 k = (decide (k < 32) && (0 : Nat).testBit k) := bt_nat 0 k
  rw [this]; simp
theorem mk_255 : MK 255 (fun _ => true) := by
  intro k
  have e : bt 255 k = (decide (k < 32) && (255 : Nat).testBit k) := bt_nat 255 k
  have e2 : (255 : Nat).testBit k = decide (k < 8) := Nat.testBit_two_pow_sub_one 8 k
  rw [e, e2]
  by_cases c : k < 8
  · rw [decide_eq_true c, decide_eq_true (by omega : k < 32)]
  · rw [decide_eq_false c]; simp
theorem MK.nat {x : Int32} {p : Nat → Bool} (h : MK x p) : ∃ m, m < 256 ∧ x = Int32.ofNat m ∧ ∀ r, r < 8 → m.testBit r = p r := by
  refine ⟨x.toBitVec.toNat, ?_, ?_, fun r hr => ?_⟩
  · refine Nat.lt_pow_two_of_testBit (n := 8) _ (fun i hi => ?_)
    have := h i
    rw [decide_eq_false (by omega)] at this
    exact this
  · apply Int32.toBitVec_inj.mp
    show x.toBitVec = BitVec.ofNat 32 x.toBitVec.toNat
    exact BitVec.eq_of_toNat_eq (by rw [BitVec.toNat_ofNat, Nat.mod_eq_of_lt (BitVec.isLt _)])
  · have := h r
    rw [decide_eq_true hr] at this
    exact this
theorem bc_all : ∀ m, m < 256 → bcx (Int32.ofNat m) = Int32.ofNat (qcnt 8 (fun r => m.testBit r)) := by decide +kernel
theorem MK.bc {x : Int32} {p : Nat → Bool} (h : MK x p) : bcx x = Int32.ofNat (qcnt 8 p) := by
  obtain ⟨m, m1, rfl, m3⟩ := h.nat
  rw [bc_all m m1, qcnt_eq m3]
theorem MK.z {x : Int32} {p : Nat → Bool} {r : Nat} (h : MK x p) (hr : r < 8) : x &&& Int32.ofNat (2 ^ r) = 0 ↔ p r = false := by
  constructor
  · intro e
    have : bt (x &&& Int32.ofNat (2 ^ r)) r = false := by
      rw [e, mk_zero r]; simp
    rw [bt_and, h r, bt_pow hr, decide_eq_true hr] at this
    simpa using this
  · intro e
    apply Int32.toBitVec_inj.mp
    apply BitVec.eq_of_getLsbD_eq
    intro i hi
    show bt (x &&& Int32.ofNat (2 ^ r)) i = bt 0 i
    rw [bt_and, h i, bt_pow hr, mk_zero i]
    by_cases c : i = r
    · subst c; rw [e]; simp
    · simp [c]
theorem bt1_aux (x : BitVec 32) (s : Nat) (hs : s < 8) : (x.sshiftRight s) &&& 1#32 = if x.getLsbD s = true then 1#32 else 0#32 := by
  have h1 : ∀ i, i < 32 → 0 < i → (1#32).getLsbD i = false := by decide
  have h2 : ∀ i, i < 32 → (0#32).getLsbD i = false := by decide
  apply BitVec.eq_of_getLsbD_eq
  intro i hi
  rw [BitVec.getLsbD_and, BitVec.getLsbD_sshiftRight]
  by_cases h : i = 0
  · subst h
    rw [if_pos (by omega)]
    cases q : x.getLsbD s
    · simp [q]
    · simp [q]
  · rw [h1 i hi (by omega)]
    cases q : x.getLsbD s
    · simp
    · simp [h]
theorem bt1 (x : Int32) {r : Nat} (hr : r < 8) : ((x >>> (Int32.ofNat r &&& 31)) &&& 1) = if bt x r = true then 1 else 0 := by
  apply Int32.toBitVec_inj.mp
  have key : ((x >>> (Int32.ofNat r &&& 31)) &&& 1).toBitVec = (x.toBitVec.sshiftRight r) &&& 1#32 := by
    rcases (show r = 0 ∨ r = 1 ∨ r = 2 ∨ r = 3 ∨ r = 4 ∨ r = 5 ∨ r = 6 ∨ r = 7 by omega) with rfl | rfl | rfl | rfl | rfl | rfl | rfl | rfl <;> rfl
  rw [key, bt1_aux _ _ hr]
  unfold bt
  split <;> rfl
