/-! ===== the class seats ===== -/
/-- visitor i likes the room r, and it is not too hot -/
def qA (σ : gS) (i r : Nat) : Bool := bt (σ 11 i) r && decide (¬ (30 : Int32) ≤ σ 9 r)
def qls (A : Nat → Nat → Bool) : Nat → Nat → List (Nat → Bool)
  | _, 0 => []
  | v, n + 1 => A v :: qls A (v + 1) n
def qnm (A : Nat → Nat → Bool) : Nat → Nat → Nat → Bool
  | 0, _, _ => false
  | i + 1, g, r => qnm A i g r || (g.testBit i && A i r)
theorem qnb_ls {A : Nat → Nat → Bool} {r : Nat} : ∀ (n v : Nat) (g : Nat → Bool), qnb (qls A v n) g r = true ↔ ∃ i, i < n ∧ g i = true ∧ A (v + i) r = true := by
  intro n
  induction n with
  | zero =>
    intro v g
    refine ⟨fun h => ?_, fun ⟨i, h, _⟩ => by omega⟩
    simp only [qls, qnb] at h
    exact absurd h (by decide)
  | succ n ih =>
    intro v g
    have h := ih (v + 1) (fun i => g (i + 1))
    simp only [qls, qnb]
    constructor
    · intro q
      rcases Bool.or_eq_true _ _ |>.mp q with q | q
      · have := Bool.and_eq_true _ _ |>.mp q
        exact ⟨0, by omega, this.1, this.2⟩
      · obtain ⟨i, h1, h2, h3⟩ := h.mp q
        refine ⟨i + 1, by omega, h2, ?_⟩
        rw [show v + (i + 1) = v + 1 + i by omega]; exact h3
    · rintro ⟨i, h1, h2, h3⟩
      cases i with
      | zero => rw [h2, show A v r = true from h3]; rfl
      | succ i =>
        have : qnb (qls A (v + 1) n) (fun i => g (i + 1)) r = true := h.mpr ⟨i, by omega, h2, by rw [show v + 1 + i = v + (i + 1) by omega]; exact h3⟩
        rw [this]; simp
theorem qnm_iff {A : Nat → Nat → Bool} {g r : Nat} : ∀ (n : Nat), qnm A n g r = true ↔ ∃ j, j < n ∧ g.testBit j = true ∧ A j r = true := by
  intro n
  induction n with
  | zero =>
    refine ⟨fun h => ?_, fun ⟨i, h, _⟩ => by omega⟩
    simp only [qnm] at h
    exact absurd h (by decide)
  | succ n ih =>
    simp only [qnm]
    constructor
    · intro q
      rcases Bool.or_eq_true _ _ |>.mp q with q | q
      · obtain ⟨j, h1, h2⟩ := ih.mp q
        exact ⟨j, by omega, h2⟩
      · have := Bool.and_eq_true _ _ |>.mp q
        exact ⟨n, by omega, this.1, this.2⟩
    · rintro ⟨j, h1, h2, h3⟩
      by_cases e : j = n
      · subst e; rw [h2, h3]; simp
      · rw [ih.mpr ⟨j, by omega, h2, h3⟩]; rfl
theorem qnm_cg {A : Nat → Nat → Bool} {g h r n : Nat} (e : ∀ j, j < n → g.testBit j = h.testBit j) : qnm A n g r = qnm A n h r := by
  apply Bool.eq_iff_iff.mpr
  rw [qnm_iff, qnm_iff]
  constructor
  · rintro ⟨j, h1, h2, h3⟩; exact ⟨j, h1, by rw [← e j h1]; exact h2, h3⟩
  · rintro ⟨j, h1, h2, h3⟩; exact ⟨j, h1, by rw [e j h1]; exact h2, h3⟩
theorem qnm_link {A : Nat → Nat → Bool} {g v V r : Nat} (hv : v ≤ V) : qnm A V (g * 2 ^ v) r = qnb (qls A v (V - v)) (fun i => g.testBit i) r := by
  apply Bool.eq_iff_iff.mpr
  rw [qnm_iff, qnb_ls, ← Nat.shiftLeft_eq]
  constructor
  · rintro ⟨j, h1, h2, h3⟩
    rw [Nat.testBit_shiftLeft] at h2
    have := Bool.and_eq_true _ _ |>.mp h2
    have h4 : v ≤ j := of_decide_eq_true this.1
    exact ⟨j - v, by omega, this.2, by rw [show v + (j - v) = j by omega]; exact h3⟩
  · rintro ⟨i, h1, h2, h3⟩
    refine ⟨v + i, by omega, ?_, h3⟩
    rw [Nat.testBit_shiftLeft, decide_eq_true (by omega : v + i ≥ v), show v + i - v = i by omega, h2]
    rfl
theorem qcnt_hd (p : Nat → Bool) : ∀ n, qcnt (n + 1) p = (if p 0 = true then 1 else 0) + qcnt n (fun i => p (i + 1)) := by
  intro n
  induction n with
  | zero => simp only [qcnt]; omega
  | succ n ih =>
    have e1 : qcnt (n + 1 + 1) p = qcnt (n + 1) p + (if p (n + 1) = true then 1 else 0) := rfl
    have e2 : qcnt (n + 1) (fun i => p (i + 1)) = qcnt n (fun i => p (i + 1)) + (if p (n + 1) = true then 1 else 0) := rfl
    omega
theorem qout_cnt {A : Nat → Nat → Bool} : ∀ (n v : Nat) (g : Nat → Bool), qout (qls A v n) g + qcnt n g = n := by
  intro n
  induction n with
  | zero => intro v g; rfl
  | succ n ih =>
    intro v g
    have := ih (v + 1) (fun i => g (i + 1))
    have e := qcnt_hd g n
    have e2 : qout (qls A v (n + 1)) g = (if g 0 = true then 0 else 1) + qout (qls A (v + 1) n) (fun i => g (i + 1)) := rfl
    by_cases c : g 0 = true
    · rw [if_pos c] at e e2; omega
    · rw [if_neg c] at e e2; omega
theorem qcnt_cut {p : Nat → Bool} {n : Nat} : ∀ (k : Nat), (∀ i, n ≤ i → p i = false) → qcnt (n + k) p = qcnt n p := by
  intro k
  induction k with
  | zero => intro _; rfl
  | succ k ih =>
    intro h
    have e : qcnt (n + (k + 1)) p = qcnt (n + k) p + (if p (n + k) = true then 1 else 0) := rfl
    rw [e, h (n + k) (by omega), ih h]
    rfl
/-- a group as a number below 2^n -/
def qmk : Nat → (Nat → Bool) → Nat
  | 0, _ => 0
  | n + 1, g => (if g 0 = true then 1 else 0) + 2 * qmk n (fun i => g (i + 1))
theorem qmk_lt : ∀ (n : Nat) (g : Nat → Bool), qmk n g < 2 ^ n := by
  intro n
  induction n with
  | zero => intro g; exact Nat.one_pos
  | succ n ih =>
    intro g
    have := ih (fun i => g (i + 1))
    have e : qmk (n + 1) g = (if g 0 = true then 1 else 0) + 2 * qmk n (fun i => g (i + 1)) := rfl
    rw [e, Nat.pow_succ]
    split <;> omega
theorem qmk_bit : ∀ (n : Nat) (g : Nat → Bool) (i : Nat), i < n → (qmk n g).testBit i = g i := by
  intro n
  induction n with
  | zero => intro g i h; omega
  | succ n ih =>
    intro g i h
    have e : qmk (n + 1) g = (if g 0 = true then 1 else 0) + 2 * qmk n (fun i => g (i + 1)) := rfl
    cases i with
    | zero =>
      rw [Nat.testBit_zero, e]
      cases c : g 0
      · rw [if_neg (by decide)]; simp
      · rw [if_pos rfl]; simp
    | succ i =>
      rw [Nat.testBit_succ, show qmk (n + 1) g / 2 = qmk n (fun i => g (i + 1)) by rw [e]; split <;> omega]
      exact ih (fun i => g (i + 1)) i (by omega)
theorem qf_cg {A : Nat → Nat → Bool} {u g h : Nat → Bool} {v n : Nat} (e : ∀ i, i < n → g i = h i) : qf (qls A v n) u g = qf (qls A v n) u h := by
  have e1 : qout (qls A v n) g = qout (qls A v n) h := by
    have a := qout_cnt (A := A) n v g
    have b := qout_cnt (A := A) n v h
    have c := qcnt_eq e
    omega
  have e2 : ∀ r, qnb (qls A v n) g r = qnb (qls A v n) h r := fun r => by
    apply Bool.eq_iff_iff.mpr
    rw [qnb_ls, qnb_ls]
    constructor
    · rintro ⟨j, h1, h2, h3⟩; exact ⟨j, h1, by rw [← e j h1]; exact h2, h3⟩
    · rintro ⟨j, h1, h2, h3⟩; exact ⟨j, h1, by rw [e j h1]; exact h2, h3⟩
  unfold qf
  rw [e1, qcnt_eq (p := fun r => qnb (qls A v n) g r && u r) (q := fun r => qnb (qls A v n) h r && u r) (fun r _ => by rw [e2 r])]
/-- the least over the numbers below 2^n is the most that can have a seat -/
theorem qmin {A : Nat → Nat → Bool} {u : Nat → Bool} {v n a : Nat} (h1 : ∀ g, g < 2 ^ n → a ≤ qf (qls A v n) u (fun i => g.testBit i)) (h2 : ∃ g, g < 2 ^ n ∧ qf (qls A v n) u (fun i => g.testBit i) = a) : a = qmx (qls A v n) u := by
  obtain ⟨l, g, e⟩ := qhall (qls A v n) u
  obtain ⟨g2, l2, e2⟩ := h2
  have b := l (fun i => g2.testBit i)
  have c := h1 (qmk n g) (qmk_lt n g)
  rw [qf_cg (h := g) (fun i hi => qmk_bit n g i hi)] at c
  omega
section
variable {Z : List gH}
theorem bc_eq (x : Int32) (σ : gS) : F_JI_bitCount Z x σ = some (bcx x, σ) := rfl
theorem shl_tab : ∀ v, v < 7 → ∀ g, g < 64 → Int32.ofNat g <<< (Int32.ofNat v &&& 31) = Int32.ofNat (g * 2 ^ v) := by decide +kernel
theorem or_tab : ∀ i, i < 6 → ∀ g, g < 32 → g < 2 ^ i → Int32.ofNat (2 ^ i) ||| Int32.ofNat g = Int32.ofNat (2 ^ i + g) := by decide +kernel
theorem pow_le6 {i : Nat} (h : i ≤ 6) : 2 ^ i ≤ 64 := by
  have := Nat.pow_le_pow_right (show 0 < 2 by decide) h
  exact this
theorem pow_le5 {i : Nat} (h : i < 6) : 2 ^ i ≤ 32 := by
  have := Nat.pow_le_pow_right (show 0 < 2 by decide) (show i ≤ 5 by omega)
  exact this
/-- the table of the groups -/
def QT (s : gS) (A : Nat → Nat → Bool) (V : Nat) : Prop := ∀ g, g < 2 ^ V → MK (s 32 g) (qnm A V g)
theorem most_L {s : gS} {A : Nat → Nat → Bool} {u : Nat → Bool} {x : Int32} {v V : Nat} (ht : QT s A V) (hu : MK x u) (hv : v ≤ V) (hV : V ≤ 6) : ∀ (n j a : Nat), (∀ g, g < j → a ≤ qf (qls A v (V - v)) u (fun i => g.testBit i)) → (∃ g, g < j ∧ qf (qls A v (V - v)) u (fun i => g.testBit i) = a) → a ≤ 6 → j ≤ 2 ^ (V - v) → 2 ^ (V - v) - j < n → F_X4_mostSeated_L12 Z (Int32.ofNat v) x n (Int32.ofNat (V - v)) (Int32.ofNat a) (Int32.ofNat j) s = some (Int32.ofNat (qmx (qls A v (V - v)) u), s) := by
  have p6 := pow_le6 (show V - v ≤ 6 by omega)
  have sh : (1 : Int32) <<< (Int32.ofNat (V - v) &&& 31) = Int32.ofNat (2 ^ (V - v)) := shl1 (V - v) (by omega)
  intro n
  induction n with
  | zero => intro j a h1 h2 h3 h4 h5; omega
  | succ n ih =>
    intro j a h1 h2 h3 h4 h5
    have ej : Int32.ofNat j + 1 = Int32.ofNat (j + 1) := addk j 1
    rw [F_X4_mostSeated_L12, sh]
    by_cases hd : 2 ^ (V - v) ≤ j
    · have e : j = 2 ^ (V - v) := by omega
      rw [if_pos ((lek (by omega) (by omega)).mpr hd), ← qmin (a := a) (fun g hg => h1 g (by omega)) (by obtain ⟨g, q1, q2⟩ := h2; exact ⟨g, by omega, q2⟩)]
    · have hj : j < 2 ^ (V - v) := by omega
      have hidx : j * 2 ^ v < 2 ^ V := by
        have := Nat.mul_lt_mul_of_pos_right hj (Nat.two_pow_pos v)
        rw [← Nat.pow_add, show V - v + v = V by omega] at this
        exact this
      have p6V := pow_le6 hV
      have oc := qout_cnt (A := A) (V - v) v (fun i => j.testBit i)
      have cut : qcnt 8 (fun i => j.testBit i) = qcnt (V - v) (fun i => j.testBit i) := by
        have := qcnt_cut (p := fun i => j.testBit i) (n := V - v) (8 - (V - v)) (fun i hi => Nat.testBit_lt_two_pow (Nat.lt_of_lt_of_le hj (Nat.pow_le_pow_right (by decide) hi)))
        rw [show V - v + (8 - (V - v)) = 8 by omega] at this
        exact this
      have mk := (ht (j * 2 ^ v) hidx).and hu
      have bc2 := mk.bc
      have e2 : qcnt 8 (fun r => qnm A V (j * 2 ^ v) r && u r) = qcnt 8 (fun r => qnb (qls A v (V - v)) (fun i => j.testBit i) r && u r) := qcnt_eq (fun r _ => by rw [qnm_link hv])
      have c8 : qcnt 8 (fun r => qnb (qls A v (V - v)) (fun i => j.testBit i) r && u r) ≤ 8 := by
        have := qcnt_le (p := fun r => qnb (qls A v (V - v)) (fun i => j.testBit i) r && u r) (q := fun _ => true) (k := 8) (fun _ _ _ => rfl)
        exact this
      rw [if_neg (fun q => hd ((lek (by omega) (by omega)).mp q)), bc_eq, mCall_some, bc_all j (by omega), cut, mLet_eq, subk (by omega), shl_tab v (by omega) j (by omega), mInk (k := j * 2 ^ v) (by omega) (by decide), nnk (k := j * 2 ^ v) (by omega), bc_eq, mCall_some, bc2, e2, addk, mLet_eq, minK (by omega) (by omega), ej]
      have ef : V - v - qcnt (V - v) (fun i => j.testBit i) + qcnt 8 (fun r => qnb (qls A v (V - v)) (fun i => j.testBit i) r && u r) = qf (qls A v (V - v)) u (fun i => j.testBit i) := by
        unfold qf; omega
      rw [ef]
      refine ih (j + 1) _ (fun g hg => ?_) ?_ (by omega) (by omega) (by omega)
      · by_cases e : g = j
        · subst e; omega
        · have := h1 g (by omega); omega
      · by_cases c : a ≤ qf (qls A v (V - v)) u (fun i => j.testBit i)
        · obtain ⟨g, q1, q2⟩ := h2
          exact ⟨g, by omega, by rw [q2]; omega⟩
        · exact ⟨j, by omega, by omega⟩
theorem most_eq {s : gS} {A : Nat → Nat → Bool} {u : Nat → Bool} {x : Int32} {v V : Nat} (ht : QT s A V) (hu : MK x u) (hv : v ≤ V) (hV : V ≤ 6) : F_X4_mostSeated Z (Int32.ofNat v) (Int32.ofNat V) x s = some (Int32.ofNat (qmx (qls A v (V - v)) u), s) := by
  have m5 : mFuel = 5000 := rfl
  have p6 := pow_le6 (show V - v ≤ 6 by omega)
  have q0 : qf (qls A v (V - v)) u (fun i => (0 : Nat).testBit i) = V - v := by
    have oc := qout_cnt (A := A) (V - v) v (fun i => (0 : Nat).testBit i)
    have z1 : qcnt (V - v) (fun i => (0 : Nat).testBit i) = 0 := by
      have := qcnt_cut (p := fun i => (0 : Nat).testBit i) (n := 0) (V - v) (fun i _ => Nat.zero_testBit i)
      rw [Nat.zero_add] at this
      exact this
    have z2 : qcnt 8 (fun r => qnb (qls A v (V - v)) (fun i => (0 : Nat).testBit i) r && u r) = 0 := by
      have h : ∀ r, (qnb (qls A v (V - v)) (fun i => (0 : Nat).testBit i) r && u r) = false := fun r => by
        have : qnb (qls A v (V - v)) (fun i => (0 : Nat).testBit i) r = false := by
          apply Bool.eq_false_iff.mpr
          intro q
          obtain ⟨i, _, h2, _⟩ := (qnb_ls _ _ _).mp q
          rw [Nat.zero_testBit] at h2
          exact absurd h2 (by decide)
        rw [this]; rfl
      exact qcnt_cut (n := 0) 8 (fun i _ => h i)
    unfold qf; omega
  unfold F_X4_mostSeated
  rw [subk hv, mLet_eq]
  have := Nat.two_pow_pos (V - v)
  have l0 : ∀ g, g < 1 → V - v ≤ qf (qls A v (V - v)) u (fun i => g.testBit i) := fun g hg => by
    obtain rfl : g = 0 := by omega
    omega
  exact most_L (Z := Z) ht hu hv hV mFuel 1 (V - v) l0 ⟨0, by omega, q0⟩ (by omega) (by omega) (by omega)
end
