section
variable {Z : List gH}
theorem seat_L {A : Nat → Nat → Bool} {V : Nat} {l4 : Int32} (hV : V ≤ 6) : ∀ (n i : Nat) (u : Nat → Bool) (x : Int32) (s : gS), MK x u → QT s A V → i ≤ V → V - i < n → ∃ s2, F_X4_seatAll_L30 Z n (Int32.ofNat V) x l4 (Int32.ofNat (qmx (qls A i (V - i)) u)) (Int32.ofNat i) s = some (l4, s2) ∧ (∀ c, c ≠ 33 → s2 c = s c) ∧ (∀ k, k < i → s2 33 k = s 33 k) ∧ QS (qls A i (V - i)) u (fun k => s2 33 (i + k)) := by
  have m5 : mFuel = 5000 := rfl
  intro n
  induction n with
  | zero => intro i u x s h1 h2 h3 h4; omega
  | succ n ih =>
    intro i u x s h1 h2 h3 h4
    have ei : Int32.ofNat i + 1 = Int32.ofNat (i + 1) := addk i 1
    rw [F_X4_seatAll_L30]
    by_cases hd : V ≤ i
    · rw [if_pos ((lek (by omega) (by omega)).mpr hd)]
      refine ⟨s, rfl, fun _ _ => rfl, fun _ _ => rfl, ?_⟩
      rw [show V - i = 0 by omega]
      trivial
    have hc : qls A i (V - i) = A i :: qls A (i + 1) (V - (i + 1)) := by
      rw [show V - i = (V - (i + 1)) + 1 by omega]; rfl
    have ml := qmx_le (qls A i (V - i)) u
    rw [qls_len] at ml
    have key := least_L (Z := Z) (s := s) (A := A) (u := u) (x := x) (v := i) (V := V) (m := qmx (qls A i (V - i)) u) h2 h1 (by omega) hV (by omega) mFuel 0 (by omega) (by omega)
    rw [if_neg (fun q => hd ((lek (by omega) (by omega)).mp q))]
    have sh : ∀ (s2 : gS), (fun k => s2 33 (i + 1 + k)) = (fun k => s2 33 (i + (k + 1))) := fun s2 => by
      funext k; rw [show i + 1 + k = i + (k + 1) by omega]
    rcases key with ⟨q, -, q2, q3, q4, q5⟩ | ⟨q1, q2⟩
    · have q5 : F_X4_leastRoom Z (Int32.ofNat i) (Int32.ofNat V) x (Int32.ofNat (qmx (qls A i (V - i)) u)) s = some (Int32.ofNat q, s) := q5
      have em : Int32.ofNat (qmx (qls A i (V - i)) u) + -1 = Int32.ofNat (qmx (qls A (i + 1) (V - (i + 1))) (qrem u q)) := by
        rw [← q3.2, ← Int32.sub_eq_add_neg]
        exact (subk (b := 1) (by omega)).trans (by congr 1; omega)
      have t1 : QT (gu s 33 i (Int32.ofNat q)) A V := fun g hg => by rw [gu_ne _ _ _ (by decide)]; exact h2 g hg
      obtain ⟨s2, a1, a2, a3, a4⟩ := ih (i + 1) (qrem u q) (x &&& (Int32.ofNat (2 ^ q) ^^^ -1)) (gu s 33 i (Int32.ofNat q)) (h1.rem q2) t1 (by omega) (by omega)
      rw [q5, mCall_some, mInk (k := i) (by omega) (by decide), nnk (k := i) (by omega), mLet_eq, if_neg (noneK (by omega)), mLet_eq, shl2 q2, em, ei, a1]
      refine ⟨s2, rfl, fun c hc => by rw [a2 c hc, gu_ne _ _ _ hc], fun k hk => by rw [a3 k (by omega), gu_off _ _ (Or.inr (by omega))], ?_⟩
      rw [hc] at q3 q4 ⊢
      refine Or.inl ⟨q, q2, q3, fun q' hq' => q4 q' (by omega) hq', ?_, ?_⟩
      · show s2 33 (i + 0) = _
        rw [Nat.add_zero, a3 i (by omega), gu_self]
      · rw [sh] at a4; exact a4
    · have q2 : F_X4_leastRoom Z (Int32.ofNat i) (Int32.ofNat V) x (Int32.ofNat (qmx (qls A i (V - i)) u)) s = some (-1000000005, s) := q2
      have em : qmx (qls A i (V - i)) u = qmx (qls A (i + 1) (V - (i + 1))) u := by
        rw [hc] at q1 ⊢
        exact qmx_none (fun r hr => q1 r (by omega) hr)
      have t1 : QT (gu s 33 i (-1000000005)) A V := fun g hg => by rw [gu_ne _ _ _ (by decide)]; exact h2 g hg
      obtain ⟨s2, a1, a2, a3, a4⟩ := ih (i + 1) u x (gu s 33 i (-1000000005)) h1 t1 (by omega) (by omega)
      rw [q2, mCall_some, mInk (k := i) (by omega) (by decide), nnk (k := i) (by omega), mLet_eq, if_pos rfl, em, ei, a1]
      refine ⟨s2, rfl, fun c hc => by rw [a2 c hc, gu_ne _ _ _ hc], fun k hk => by rw [a3 k (by omega), gu_off _ _ (Or.inr (by omega))], ?_⟩
      rw [hc] at q1 ⊢
      refine Or.inr ⟨fun r hr => q1 r (by omega) hr, ?_, ?_⟩
      · show s2 33 (i + 0) = _
        rw [Nat.add_zero, a3 i (by omega), gu_self]
      · rw [sh] at a4; exact a4
theorem seatAll_eq {V : Nat} (hV : V ≤ 6) (σ : gS) (e10 : σ 4 10 = Int32.ofNat V) : ∃ s2, F_X4_seatAll Z 4 σ = some (Int32.ofNat (qmx (qls (qA σ) 0 V) (fun _ => true)), s2) ∧ (∀ c, c ≠ 32 → c ≠ 33 → s2 c = σ c) ∧ QS (qls (qA σ) 0 V) (fun _ => true) (fun k => s2 33 k) := by
  have m5 : mFuel = 5000 := rfl
  obtain ⟨s1, a1, a2, a3⟩ := gather_eq (Z := Z) hV σ e10
  have mo := most_eq (Z := Z) (v := 0) (V := V) (x := 255) a3 mk_255 (by omega) hV
  have mo : F_X4_mostSeated Z 0 (Int32.ofNat V) 255 s1 = some (Int32.ofNat (qmx (qls (qA σ) 0 (V - 0)) (fun _ => true)), s1) := mo
  obtain ⟨s2, b1, b2, b3, b4⟩ := seat_L (Z := Z) (A := qA σ) (l4 := Int32.ofNat (qmx (qls (qA σ) 0 (V - 0)) (fun _ => true))) hV mFuel 0 (fun _ => true) 255 s1 mk_255 a3 (by omega) (by omega)
  have b1 : F_X4_seatAll_L30 Z mFuel (Int32.ofNat V) 255 (Int32.ofNat (qmx (qls (qA σ) 0 (V - 0)) (fun _ => true))) (Int32.ofNat (qmx (qls (qA σ) 0 (V - 0)) (fun _ => true))) 0 s1 = _ := b1
  unfold F_X4_seatAll
  rw [a1, mCall_some, mLet_eq, a2 4 (by decide), e10, mo, mCall_some, b1]
  rw [Nat.sub_zero] at b4 ⊢
  refine ⟨s2, rfl, fun c h1 h2 => by rw [b2 c h2, a2 c h1], ?_⟩
  have e : (fun k => s2 33 (0 + k)) = (fun k => s2 33 k) := by funext k; rw [Nat.zero_add]
  rw [e] at b4
  exact b4
/-- the best so far, one more than it is -/
def bv (b : Nat) : Int32 := Int32.ofNat b - 1
theorem bv_succ (c : Nat) : bv (c + 1) = Int32.ofNat c := subk (b := 1) (by omega)
theorem bv_le {b c : Nat} (hb : b ≤ 100) (hc : c ≤ 100) : Int32.ofNat c ≤ bv b ↔ c < b := by
  cases b with
  | zero =>
    have e : bv 0 = -1 := rfl
    rw [e]
    constructor
    · intro h
      rw [Int32.le_iff_toInt_le, Int32.toInt_ofNat_of_lt (by omega), show (-1 : Int32).toInt = -1 from rfl] at h
      omega
    · intro h; omega
  | succ b =>
    rw [bv_succ, lek (by omega) (by omega)]
    omega
theorem save_L {rG : Int32 → Int32 → Int32 → gS → Option (Int32 × gS)} (t : gS) : ∀ (n i : Nat) (u : gS), (∀ c, c ≠ 70 → u c = t c) → (∀ k, k < i → u 70 k = t 69 k) → i ≤ 6 → 6 - i < n → ∃ t2, F_X10_gives_L26 Z rG n (Int32.ofNat i) u = some (0, t2) ∧ (∀ c, c ≠ 70 → t2 c = t c) ∧ ∀ k, k < 6 → t2 70 k = t 69 k := by
  intro n
  induction n with
  | zero => intro i u h1 h2 h3 h4; omega
  | succ n ih =>
    intro i u h1 h2 h3 h4
    have ei : Int32.ofNat i + 1 = Int32.ofNat (i + 1) := addk i 1
    rw [F_X10_gives_L26]
    by_cases hd : 6 ≤ i
    · have c : (6 : Int32) ≤ Int32.ofNat i := (lek (a := 6) (by omega) (by omega)).mpr hd
      rw [if_pos c]
      exact ⟨u, rfl, h1, fun k hk => h2 k (by omega)⟩
    · have c : ¬ (6 : Int32) ≤ Int32.ofNat i := fun q => hd ((lek (a := 6) (by omega) (by omega)).mp q)
      rw [if_neg c, mInk (k := i) (by omega) (by decide), mInk (k := i) (by omega) (by decide), nnk (k := i) (by omega), mLet_eq, ei]
      refine ih (i + 1) _ (fun c hc => by rw [gu_ne _ _ _ hc]; exact h1 c hc) (fun k hk => ?_) (by omega) (by omega)
      by_cases e : k = i
      · subst e; rw [gu_self, h1 69 (by decide)]
      · rw [gu_off _ _ (Or.inr e)]; exact h2 k (by omega)
/-- what a call of the model's trying may change, the visitors ahead of v having theirs -/
def GF (v : Nat) (t t2 : gS) : Prop := (∀ c, c ≠ 65 → c ≠ 69 → c ≠ 70 → t2 c = t c) ∧ (∀ k, k ≠ 6 → t2 65 k = t 65 k) ∧ ∀ k, k < v → t2 69 k = t 69 k
/-- what it has found: the best was b - 1 -/
def GR (L : List (Nat → Bool)) (u : Nat → Bool) (v c b : Nat) (t t2 : gS) : Prop := (c + qmx L u < b ∧ t2 65 6 = bv b ∧ t2 70 = t 70) ∨ (b ≤ c + qmx L u ∧ t2 65 6 = bv (c + qmx L u + 1) ∧ (∀ k, k < v → t2 70 k = t 69 k) ∧ QS L u (fun k => t2 70 (v + k)))
def GB (x : Int32) (u : Nat → Bool) : Prop := ∀ r, r < 8 → bt x r = !u r
theorem GF.trans {v : Nat} {a b c : gS} (h1 : GF v a b) (h2 : GF v b c) : GF v a c := ⟨fun x p q r => (h2.1 x p q r).trans (h1.1 x p q r), fun k hk => (h2.2.1 k hk).trans (h1.2.1 k hk), fun k hk => (h2.2.2 k hk).trans (h1.2.2 k hk)⟩
theorem GF.lo {v w : Nat} {a b : gS} (h : GF w a b) (hv : v ≤ w) : GF v a b := ⟨h.1, h.2.1, fun k hk => h.2.2 k (by omega)⟩
theorem GF.put {v : Nat} {a : gS} {x : Int32} : GF v a (gu a 69 v x) := ⟨fun c _ h _ => gu_ne _ _ _ h, fun k _ => by rw [gu_ne _ _ _ (by decide)], fun k hk => gu_off _ _ (Or.inr (by omega))⟩
end
