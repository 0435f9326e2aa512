section
variable {Z : List gH}
theorem shl2 {i : Nat} (h : i < 8) : (1 : Int32) <<< (Int32.ofNat i &&& 31) = Int32.ofNat (2 ^ i) := shl1 i h
theorem below_L (σ : gS) : ∀ (n i : Nat) (w : Int32), MK w (fun k => decide (k < i) && decide (¬ (30 : Int32) ≤ σ 9 k)) → i ≤ 8 → 8 - i < n → ∃ w2, F_X4_gatherLikes_L4 Z 4 n w (Int32.ofNat i) σ = F_X4_gatherLikes_L42 Z 4 mFuel w2 0 (gu σ 32 0 0) ∧ MK w2 (fun k => decide (¬ (30 : Int32) ≤ σ 9 k)) := by
  intro n
  induction n with
  | zero => intro i w h1 h2 h3; omega
  | succ n ih =>
    intro i w h1 h2 h3
    have ei : Int32.ofNat i + 1 = Int32.ofNat (i + 1) := addk i 1
    rw [F_X4_gatherLikes_L4]
    by_cases hd : 8 ≤ i
    · have c : (8 : Int32) ≤ Int32.ofNat i := (lek (a := 8) (by omega) (by omega)).mpr hd
      rw [if_pos c, mLet_eq]
      exact ⟨w, rfl, h1.cg (fun r hr => by rw [decide_eq_true (by omega : r < i)]; rfl)⟩
    · have c : ¬ (8 : Int32) ≤ Int32.ofNat i := fun q => hd ((lek (a := 8) (by omega) (by omega)).mp q)
      rw [if_neg c, mInk (k := i) (by omega) (by decide), nnk (k := i) (by omega), ei, shl2 (by omega), mLet_eq]
      show ∃ w2, (if 30 ≤ σ 9 i then _ else _) = _ ∧ _
      by_cases hh : (30 : Int32) ≤ σ 9 i
      · rw [if_pos hh]
        refine ih (i + 1) w (h1.cg (fun r hr => ?_)) (by omega) (by omega)
        by_cases e : r = i
        · subst e; simp [hh]
        · by_cases l : r < i
          · rw [decide_eq_true l, decide_eq_true (by omega : r < i + 1)]
          · rw [decide_eq_false l, decide_eq_false (by omega : ¬ r < i + 1)]
      · rw [if_neg hh]
        refine ih (i + 1) _ (fun r => ?_) (by omega) (by omega)
        rw [bt_or, h1 r, bt_pow (by omega)]
        by_cases e : r = i
        · subst e; simp [hh]; omega
        · by_cases l : r < i
          · simp [e, l, (by omega : r < i + 1)]
          · show ((decide (r < 8) && (decide (r < i) && decide (¬ (30 : Int32) ≤ σ 9 r))) || (r == i)) = (decide (r < 8) && (decide (r < i + 1) && decide (¬ (30 : Int32) ≤ σ 9 r)))
            rw [beq_false_of_ne e, decide_eq_false l, decide_eq_false (by omega : ¬ r < i + 1)]; simp
theorem group_L {V i : Nat} {w : Int32} {k42 : Int32 → Int32 → gS → Option (Int32 × gS)} (hi : i < V) (hV : V ≤ 6) (σ : gS) (hw : MK w (fun k => decide (¬ (30 : Int32) ≤ σ 9 k))) : ∀ (n j : Nat) (s : gS), (∀ c, c ≠ 32 → s c = σ c) → (∀ g, g < 2 ^ i → MK (s 32 g) (qnm (qA σ) i g)) → (∀ g, g < j → MK (s 32 (2 ^ i + g)) (qnm (qA σ) (i + 1) (2 ^ i + g))) → j ≤ 2 ^ i → 2 ^ i - j < n → ∃ s2, F_X4_gatherLikes_L58 Z k42 4 n w (Int32.ofNat i) (Int32.ofNat (2 ^ i)) (Int32.ofNat j) s = k42 w (Int32.ofNat (i + 1)) s2 ∧ (∀ c, c ≠ 32 → s2 c = σ c) ∧ ∀ g, g < 2 ^ (i + 1) → MK (s2 32 g) (qnm (qA σ) (i + 1) g) := by
  have p5 := pow_le5 (show i < 6 by omega)
  intro n
  induction n with
  | zero => intro j s h1 h2 h3 h4 h5; omega
  | succ n ih =>
    intro j s h1 h2 h3 h4 h5
    have ei : Int32.ofNat i + 1 = Int32.ofNat (i + 1) := addk i 1
    have ej : Int32.ofNat j + 1 = Int32.ofNat (j + 1) := addk j 1
    rw [F_X4_gatherLikes_L58]
    by_cases hd : 2 ^ i ≤ j
    · rw [if_pos ((lek (by omega) (by omega)).mpr hd), ei]
      refine ⟨s, rfl, h1, fun g hg => ?_⟩
      rw [Nat.pow_succ] at hg
      by_cases c : g < 2 ^ i
      · refine (h2 g c).cg (fun r _ => ?_)
        show _ = (qnm (qA σ) i g r || (g.testBit i && qA σ i r))
        rw [Nat.testBit_lt_two_pow c]; simp
      · have := h3 (g - 2 ^ i) (by omega)
        rw [show 2 ^ i + (g - 2 ^ i) = g by omega] at this
        exact this
    · rw [if_neg (fun q => hd ((lek (by omega) (by omega)).mp q)), mInk (k := j) (by omega) (by decide), mInk (k := i) (by omega) (by decide), or_tab i (by omega) j (by omega) (by omega), mInk (k := 2 ^ i + j) (by omega) (by decide), nnk (k := i) (by omega), nnk (k := j) (by omega), nnk (k := 2 ^ i + j) (by omega), mLet_eq, ej]
      refine ih (j + 1) _ (fun c hc => by rw [gu_ne _ _ _ hc]; exact h1 c hc) (fun g hg => ?_) (fun g hg => ?_) (by omega) (by omega)
      · rw [gu_off _ _ (Or.inr (by omega))]; exact h2 g hg
      · by_cases e : g = j
        · subst e
          rw [gu_self]
          have e11 : s (4 + 7) i = σ 11 i := by rw [h1 (4 + 7) (by decide)]
          intro r
          rw [bt_or, bt_and, h2 g (by omega) r, hw r, e11]
          have q1 : qnm (qA σ) i (2 ^ i + g) r = qnm (qA σ) i g r := qnm_cg (fun k hk => Nat.testBit_two_pow_add_gt hk g)
          have q2 : (2 ^ i + g).testBit i = true := by rw [Nat.testBit_two_pow_add_eq, Nat.testBit_lt_two_pow (by omega)]; rfl
          show _ = (decide (r < 8) && (qnm (qA σ) i (2 ^ i + g) r || ((2 ^ i + g).testBit i && qA σ i r)))
          rw [q1, q2]
          show ((decide (r < 8) && qnm (qA σ) i g r) || (bt (σ 11 i) r && (decide (r < 8) && decide (¬ (30 : Int32) ≤ σ 9 r)))) = (decide (r < 8) && (qnm (qA σ) i g r || (true && qA σ i r)))
          unfold qA
          generalize qnm (fun i r => bt (σ 11 i) r && decide (¬ (30 : Int32) ≤ σ 9 r)) i g r = a
          generalize bt (σ 11 i) r = b
          generalize decide (¬ (30 : Int32) ≤ σ 9 r) = c
          cases decide (r < 8) <;> cases a <;> cases b <;> cases c <;> rfl
        · rw [gu_off _ _ (Or.inr (by omega))]; exact h3 g (by omega)
theorem gather_L {V : Nat} {w : Int32} (hV : V ≤ 6) (σ : gS) (e10 : σ 4 10 = Int32.ofNat V) (hw : MK w (fun k => decide (¬ (30 : Int32) ≤ σ 9 k))) : ∀ (n i : Nat) (s : gS), (∀ c, c ≠ 32 → s c = σ c) → (∀ g, g < 2 ^ i → MK (s 32 g) (qnm (qA σ) i g)) → i ≤ V → V - i < n → ∃ s2, F_X4_gatherLikes_L42 Z 4 n w (Int32.ofNat i) s = some (0, s2) ∧ (∀ c, c ≠ 32 → s2 c = σ c) ∧ QT s2 (qA σ) V := by
  have m5 : mFuel = 5000 := rfl
  intro n
  induction n with
  | zero => intro i s h1 h2 h3 h4; omega
  | succ n ih =>
    intro i s h1 h2 h3 h4
    rw [F_X4_gatherLikes_L42, h1 4 (by decide), e10]
    by_cases hd : V ≤ i
    · obtain rfl : i = V := by omega
      rw [if_pos ((lek (by omega) (by omega)).mpr hd)]
      exact ⟨s, rfl, h1, h2⟩
    · have p5 := pow_le5 (show i < 6 by omega)
      have pp := Nat.two_pow_pos i
      obtain ⟨s2, a1, a2, a3⟩ := group_L (Z := Z) (V := V) (i := i) (w := w) (k42 := F_X4_gatherLikes_L42 Z 4 n) (by omega) hV σ hw mFuel 0 s h1 h2 (fun g hg => by omega) (by omega) (by omega)
      rw [if_neg (fun q => hd ((lek (by omega) (by omega)).mp q)), shl2 (by omega), mLet_eq]
      have a1 : F_X4_gatherLikes_L58 Z (F_X4_gatherLikes_L42 Z 4 n) 4 mFuel w (Int32.ofNat i) (Int32.ofNat (2 ^ i)) 0 s = _ := a1
      rw [a1]
      exact ih (i + 1) s2 a2 a3 (by omega) (by omega)
theorem gather_eq {V : Nat} (hV : V ≤ 6) (σ : gS) (e10 : σ 4 10 = Int32.ofNat V) : ∃ s2, F_X4_gatherLikes Z 4 σ = some (0, s2) ∧ (∀ c, c ≠ 32 → s2 c = σ c) ∧ QT s2 (qA σ) V := by
  have m5 : mFuel = 5000 := rfl
  obtain ⟨w, a1, a2⟩ := below_L (Z := Z) σ mFuel 0 0 (mk_zero.cg (fun r _ => by simp)) (by omega) (by omega)
  have a1 : F_X4_gatherLikes Z 4 σ = F_X4_gatherLikes_L42 Z 4 mFuel w 0 (gu σ 32 0 0) := a1
  rw [a1]
  refine gather_L (Z := Z) hV σ e10 a2 mFuel 0 (gu σ 32 0 0) (fun c hc => gu_ne _ _ _ hc) (fun g hg => ?_) (by omega) (by omega)
  obtain rfl : g = 0 := by
    have : g < 1 := hg
    omega
  rw [gu_self]
  exact mk_zero.cg (fun r _ => rfl)
/-- a room is as good as there can be -/
def QC (S : Nat → Bool) (L : List (Nat → Bool)) (u : Nat → Bool) (m r : Nat) : Prop := (S r && u r) = true ∧ 1 + qmx L (qrem u r) = m
/-- the seats: the first rooms as good as there can be -/
def QS : List (Nat → Bool) → (Nat → Bool) → (Nat → Int32) → Prop
  | [], _, _ => True
  | S :: L, u, f => (∃ r, r < 8 ∧ QC S L u (qmx (S :: L) u) r ∧ (∀ q, q < r → ¬ QC S L u (qmx (S :: L) u) q) ∧ f 0 = Int32.ofNat r ∧ QS L (qrem u r) (fun i => f (i + 1))) ∨ ((∀ r, r < 8 → ¬ QC S L u (qmx (S :: L) u) r) ∧ f 0 = -1000000005 ∧ QS L u (fun i => f (i + 1)))
theorem QS.uniq (L : List (Nat → Bool)) : ∀ (u : Nat → Bool) (f h : Nat → Int32), QS L u f → QS L u h → ∀ i, i < L.length → f i = h i := by
  induction L with
  | nil => intro u f h _ _ i hi; exact absurd hi (Nat.not_lt_zero i)
  | cons S L ih =>
    intro u f h a b i hi
    rcases a with ⟨r, a1, a2, a3, a4, a5⟩ | ⟨a1, a2, a3⟩ <;> rcases b with ⟨q, b1, b2, b3, b4, b5⟩ | ⟨b1, b2, b3⟩
    · have e : r = q := by
        rcases Nat.lt_trichotomy r q with l | l | l
        · exact absurd a2 (b3 r l)
        · exact l
        · exact absurd b2 (a3 q l)
      subst e
      cases i with
      | zero => rw [a4, b4]
      | succ i => exact ih _ _ _ a5 b5 i (by simp at hi; omega)
    · exact absurd a2 (b1 r a1)
    · exact absurd b2 (a1 q b1)
    · cases i with
      | zero => rw [a2, b2]
      | succ i => exact ih _ _ _ a3 b3 i (by simp at hi; omega)
theorem QS.cg (L : List (Nat → Bool)) : ∀ (u : Nat → Bool) (f h : Nat → Int32), QS L u f → (∀ i, i < L.length → f i = h i) → QS L u h := by
  induction L with
  | nil => intro u f h _ _; trivial
  | cons S L ih =>
    intro u f h a e
    have e0 := e 0 (by simp)
    have e1 : ∀ i, i < L.length → f (i + 1) = h (i + 1) := fun i hi => e (i + 1) (by simp; omega)
    rcases a with ⟨r, a1, a2, a3, a4, a5⟩ | ⟨a1, a2, a3⟩
    · exact Or.inl ⟨r, a1, a2, a3, by rw [← e0]; exact a4, ih _ _ _ a5 e1⟩
    · exact Or.inr ⟨a1, by rw [← e0]; exact a2, ih _ _ _ a3 e1⟩
theorem qbest_at {p : Nat → Bool} {w : Nat → Nat} : ∀ (k : Nat), qbest k p w = 0 ∨ ∃ r, r < k ∧ p r = true ∧ w r = qbest k p w := by
  intro k
  induction k with
  | zero => exact Or.inl rfl
  | succ k ih =>
    have e : qbest (k + 1) p w = max (qbest k p w) (if p k = true then w k else 0) := rfl
    by_cases c : p k = true
    · rw [if_pos c] at e
      by_cases l : qbest k p w ≤ w k
      · exact Or.inr ⟨k, by omega, c, by omega⟩
      · rcases ih with h | ⟨r, h1, h2, h3⟩
        · omega
        · exact Or.inr ⟨r, by omega, h2, by omega⟩
    · rw [if_neg c] at e
      rcases ih with h | ⟨r, h1, h2, h3⟩
      · left; omega
      · exact Or.inr ⟨r, by omega, h2, by omega⟩
theorem qmx_cons (S : Nat → Bool) (L : List (Nat → Bool)) (u : Nat → Bool) : qmx (S :: L) u = max (qmx L u) (qbest 8 (fun r => S r && u r) (fun r => 1 + qmx L (qrem u r))) := rfl
theorem qmx_none {S : Nat → Bool} {L : List (Nat → Bool)} {u : Nat → Bool} (h : ∀ r, r < 8 → ¬ QC S L u (qmx (S :: L) u) r) : qmx (S :: L) u = qmx L u := by
  have e := qmx_cons S L u
  rcases qbest_at (p := fun r => S r && u r) (w := fun r => 1 + qmx L (qrem u r)) 8 with q | ⟨r, q1, q2, q3⟩
  · omega
  · by_cases l : qmx L u < qbest 8 (fun r => S r && u r) (fun r => 1 + qmx L (qrem u r))
    · exact absurd ⟨q2, by rw [e]; omega⟩ (h r q1)
    · omega
theorem qmx_le (L : List (Nat → Bool)) : ∀ u, qmx L u ≤ L.length := by
  induction L with
  | nil => intro u; exact Nat.le_refl _
  | cons S L ih =>
    intro u
    have e := qmx_cons S L u
    have a := ih u
    have b := qbest_le (k := 8) (p := fun r => S r && u r) (w := fun r => 1 + qmx L (qrem u r)) (m := L.length + 1) (fun r _ _ => by have := ih (qrem u r); omega)
    have c : (S :: L).length = L.length + 1 := rfl
    omega
theorem qls_len {A : Nat → Nat → Bool} : ∀ (n v : Nat), (qls A v n).length = n := by
  intro n
  induction n with
  | zero => intro v; rfl
  | succ n ih => intro v; show (qls A (v + 1) n).length + 1 = n + 1; rw [ih]
theorem least_L {s : gS} {A : Nat → Nat → Bool} {u : Nat → Bool} {x : Int32} {v V m : Nat} (ht : QT s A V) (hu : MK x u) (hv : v < V) (hV : V ≤ 6) (hm : m ≤ 6) : ∀ (n r : Nat), r ≤ 8 → 8 - r < n → (∃ q, r ≤ q ∧ q < 8 ∧ QC (A v) (qls A (v + 1) (V - (v + 1))) u m q ∧ (∀ q', r ≤ q' → q' < q → ¬ QC (A v) (qls A (v + 1) (V - (v + 1))) u m q') ∧ F_X4_leastRoom_L3 Z (Int32.ofNat v) (Int32.ofNat V) x (Int32.ofNat m) n (Int32.ofNat r) s = some (Int32.ofNat q, s)) ∨ ((∀ q, r ≤ q → q < 8 → ¬ QC (A v) (qls A (v + 1) (V - (v + 1))) u m q) ∧ F_X4_leastRoom_L3 Z (Int32.ofNat v) (Int32.ofNat V) x (Int32.ofNat m) n (Int32.ofNat r) s = some (-1000000005, s)) := by
  have p5 := pow_le5 (show v < 6 by omega)
  have pV : 2 ^ v < 2 ^ V := Nat.pow_lt_pow_right (by decide) hv
  intro n
  induction n with
  | zero => intro r h1 h2; omega
  | succ n ih =>
    intro r h1 h2
    have er : Int32.ofNat r + 1 = Int32.ofNat (r + 1) := addk r 1
    have ev : Int32.ofNat v + 1 = Int32.ofNat (v + 1) := addk v 1
    rw [F_X4_leastRoom_L3]
    by_cases hd : 8 ≤ r
    · have c : (8 : Int32) ≤ Int32.ofNat r := (lek (a := 8) (by omega) (by omega)).mpr hd
      rw [if_pos c]
      exact Or.inr ⟨fun q h3 h4 => by omega, rfl⟩
    have c : ¬ (8 : Int32) ≤ Int32.ofNat r := fun q => hd ((lek (a := 8) (by omega) (by omega)).mp q)
    have mk := (ht (2 ^ v) pV).and hu
    have eq1 : qnm A V (2 ^ v) r = A v r := by
      apply Bool.eq_iff_iff.mpr
      rw [qnm_iff]
      constructor
      · rintro ⟨j, h1, h2, h3⟩
        rw [Nat.testBit_two_pow] at h2
        have : v = j := of_decide_eq_true h2
        rw [this]; exact h3
      · intro q; exact ⟨v, hv, Nat.testBit_two_pow_self, q⟩
    have mz := mk.z (r := r) (by omega)
    have rest := ih (r + 1) (by omega) (by omega)
    have most := most_eq (Z := Z) (v := v + 1) ht (hu.rem (r := r) (by omega)) (by omega) hV
    have ml := qmx_le (qls A (v + 1) (V - (v + 1))) (qrem u r)
    rw [qls_len] at ml
    have e1 : (1 : Int32) + Int32.ofNat (qmx (qls A (v + 1) (V - (v + 1))) (qrem u r)) = Int32.ofNat (1 + qmx (qls A (v + 1) (V - (v + 1))) (qrem u r)) := addk 1 _
    rw [if_neg c, shl2 (i := r) (by omega), shl2 (i := v) (by omega), mLet_eq, mInk (k := 2 ^ v) (by omega) (by decide), nnk (k := 2 ^ v) (by omega), er, ev, most, mCall_some, e1]
    have skip : ¬ QC (A v) (qls A (v + 1) (V - (v + 1))) u m r → ((∃ q, r ≤ q ∧ q < 8 ∧ QC (A v) (qls A (v + 1) (V - (v + 1))) u m q ∧ (∀ q', r ≤ q' → q' < q → ¬ QC (A v) (qls A (v + 1) (V - (v + 1))) u m q') ∧ F_X4_leastRoom_L3 Z (Int32.ofNat v) (Int32.ofNat V) x (Int32.ofNat m) n (Int32.ofNat (r + 1)) s = some (Int32.ofNat q, s)) ∨ ((∀ q, r ≤ q → q < 8 → ¬ QC (A v) (qls A (v + 1) (V - (v + 1))) u m q) ∧ F_X4_leastRoom_L3 Z (Int32.ofNat v) (Int32.ofNat V) x (Int32.ofNat m) n (Int32.ofNat (r + 1)) s = some (-1000000005, s))) := by
      intro nq
      rcases rest with ⟨q, q1, q2, q3, q4, q5⟩ | ⟨q1, q2⟩
      · refine Or.inl ⟨q, by omega, q2, q3, fun q' h1 h2 => ?_, q5⟩
        by_cases e : q' = r
        · rw [e]; exact nq
        · exact q4 q' (by omega) h2
      · refine Or.inr ⟨fun q h1 h2 => ?_, q2⟩
        by_cases e : q = r
        · rw [e]; exact nq
        · exact q1 q (by omega) h2
    by_cases z : (s 32 (2 ^ v) &&& x) &&& Int32.ofNat (2 ^ r) = 0
    · rw [if_pos z]
      have := mz.mp z
      rw [eq1] at this
      exact skip (fun h => by
        have h1 := h.1
        rw [this] at h1
        exact absurd h1 (by decide))
    · rw [if_neg z]
      have sr : (A v r && u r) = true := by
        rw [← eq1]
        cases h : (qnm A V (2 ^ v) r && u r)
        · exact absurd (mz.mpr h) z
        · rfl
      by_cases e : 1 + qmx (qls A (v + 1) (V - (v + 1))) (qrem u r) = m
      · rw [if_pos (by rw [e])]
        exact Or.inl ⟨r, by omega, by omega, ⟨sr, e⟩, fun q' h1 h2 => by omega, rfl⟩
      · rw [if_neg (fun h => e ((eqk (by omega) (by omega)).mp h))]
        exact skip (fun h => e h.2)
end
