/-! ===== who can have a seat: most of all, and which of them first ===== -/
def qcnt : Nat → (Nat → Bool) → Nat
  | 0, _ => 0
  | k + 1, p => qcnt k p + (if p k = true then 1 else 0)
theorem qcnt_le {p q : Nat → Bool} : ∀ {k : Nat}, (∀ r, r < k → p r = true → q r = true) → qcnt k p ≤ qcnt k q := by
  intro k
  induction k with
  | zero => intro _; exact Nat.le_refl _
  | succ k ih =>
    intro h
    have h1 := ih (fun r hr => h r (by omega))
    have h2 := h k (by omega)
    unfold qcnt
    by_cases c : p k = true
    · rw [if_pos c, if_pos (h2 c)]; omega
    · rw [if_neg c]; split <;> omega
theorem qcnt_eq {p q : Nat → Bool} {k : Nat} (h : ∀ r, r < k → p r = q r) : qcnt k p = qcnt k q :=
  Nat.le_antisymm (qcnt_le (fun r hr e => by rw [← h r hr]; exact e)) (qcnt_le (fun r hr e => by rw [h r hr]; exact e))
theorem qcnt_oa (p q : Nat → Bool) : ∀ k, qcnt k (fun r => p r || q r) + qcnt k (fun r => p r && q r) = qcnt k p + qcnt k q := by
  intro k
  induction k with
  | zero => rfl
  | succ k ih =>
    simp only [qcnt]
    by_cases hp : p k = true <;> by_cases hq : q k = true <;> simp [hp, hq] <;> omega
theorem qcnt_lt {p q : Nat → Bool} {r0 : Nat} (hp : p r0 = false) (hq : q r0 = true) : ∀ {k : Nat}, (∀ r, r < k → p r = true → q r = true) → r0 < k → qcnt k p + 1 ≤ qcnt k q := by
  intro k
  induction k with
  | zero => intro _ h; omega
  | succ k ih =>
    intro h h0
    unfold qcnt
    by_cases e : r0 = k
    · subst e
      have h1 := qcnt_le (k := r0) (fun r hr => h r (by omega))
      rw [hp, hq]
      simp
      omega
    · have h1 := ih (fun r hr => h r (by omega)) (by omega)
      have h2 := h k (by omega)
      by_cases c : p k = true
      · rw [if_pos c, if_pos (h2 c)]; omega
      · rw [if_neg c]; split <;> omega
theorem qcnt_le1 {p q : Nat → Bool} {r0 : Nat} : ∀ {k : Nat}, (∀ r, r < k → r ≠ r0 → p r = true → q r = true) → qcnt k p ≤ qcnt k q + 1 := by
  intro k
  induction k with
  | zero => intro _; unfold qcnt; omega
  | succ k ih =>
    intro h
    unfold qcnt
    by_cases e : k = r0
    · have h1 := qcnt_le (k := k) (fun r hr => h r (by omega) (by omega))
      split <;> split <;> omega
    · have h1 := ih (fun r hr => h r (by omega))
      have h2 := h k (by omega) e
      by_cases c : p k = true
      · rw [if_pos c, if_pos (h2 c)]; omega
      · rw [if_neg c]; split <;> omega
/-- the rooms that a group likes -/
def qnb : List (Nat → Bool) → (Nat → Bool) → Nat → Bool
  | [], _, _ => false
  | S :: L, g, r => (g 0 && S r) || qnb L (fun i => g (i + 1)) r
/-- how many are not of the group -/
def qout : List (Nat → Bool) → (Nat → Bool) → Nat
  | [], _ => 0
  | _ :: L, g => (if g 0 = true then 0 else 1) + qout L (fun i => g (i + 1))
def qf (L : List (Nat → Bool)) (u g : Nat → Bool) : Nat := qout L g + qcnt 8 (fun r => qnb L g r && u r)
def qrem (u : Nat → Bool) (r : Nat) : Nat → Bool := fun x => u x && !(x == r)
def qbest : Nat → (Nat → Bool) → (Nat → Nat) → Nat
  | 0, _, _ => 0
  | k + 1, p, w => max (qbest k p w) (if p k = true then w k else 0)
/-- the most that can have a seat -/
def qmx : List (Nat → Bool) → (Nat → Bool) → Nat
  | [], _ => 0
  | S :: L, u => max (qmx L u) (qbest 8 (fun r => S r && u r) (fun r => 1 + qmx L (qrem u r)))
theorem qbest_ge {p : Nat → Bool} {w : Nat → Nat} : ∀ {k r : Nat}, r < k → p r = true → w r ≤ qbest k p w := by
  intro k
  induction k with
  | zero => intro r h; omega
  | succ k ih =>
    intro r h hp
    unfold qbest
    by_cases e : r = k
    · subst e; rw [if_pos hp]; omega
    · have := ih (r := r) (by omega) hp
      omega
theorem qbest_le {p : Nat → Bool} {w : Nat → Nat} {m : Nat} : ∀ {k : Nat}, (∀ r, r < k → p r = true → w r ≤ m) → qbest k p w ≤ m := by
  intro k
  induction k with
  | zero => intro _; unfold qbest; omega
  | succ k ih =>
    intro h
    unfold qbest
    have h1 := ih (fun r hr => h r (by omega))
    by_cases c : p k = true
    · rw [if_pos c]; have := h k (by omega) c; omega
    · rw [if_neg c]; omega
theorem qnb_or (L : List (Nat → Bool)) : ∀ (g h : Nat → Bool) (r : Nat), qnb L (fun i => g i || h i) r = (qnb L g r || qnb L h r) := by
  induction L with
  | nil => intro g h r; rfl
  | cons S L ih =>
    intro g h r
    have := ih (fun i => g (i + 1)) (fun i => h (i + 1)) r
    simp only [qnb]
    rw [this]
    cases g 0 <;> cases h 0 <;> cases S r <;> simp
theorem qnb_and (L : List (Nat → Bool)) : ∀ (g h : Nat → Bool) (r : Nat), qnb L (fun i => g i && h i) r = true → (qnb L g r && qnb L h r) = true := by
  induction L with
  | nil => intro g h r q; simp only [qnb] at q; exact absurd q (by decide)
  | cons S L ih =>
    intro g h r
    have := ih (fun i => g (i + 1)) (fun i => h (i + 1)) r
    simp only [qnb]
    generalize qnb L (fun i => g (i + 1) && h (i + 1)) r = a at this ⊢
    generalize qnb L (fun i => g (i + 1)) r = b at this ⊢
    generalize qnb L (fun i => h (i + 1)) r = c at this ⊢
    cases g 0 <;> cases h 0 <;> cases S r <;> cases a <;> cases b <;> cases c <;> simp_all
theorem qout_oa (L : List (Nat → Bool)) : ∀ (g h : Nat → Bool), qout L (fun i => g i || h i) + qout L (fun i => g i && h i) = qout L g + qout L h := by
  induction L with
  | nil => intro g h; rfl
  | cons S L ih =>
    intro g h
    have := ih (fun i => g (i + 1)) (fun i => h (i + 1))
    simp only [qout]
    by_cases hp : g 0 = true <;> by_cases hq : h 0 = true <;> simp [hp, hq] <;> omega
theorem qf_sub (L : List (Nat → Bool)) (u g h : Nat → Bool) : qf L u (fun i => g i || h i) + qf L u (fun i => g i && h i) ≤ qf L u g + qf L u h := by
  unfold qf
  have h1 := qout_oa L g h
  have h2 := qcnt_oa (fun r => qnb L g r && u r) (fun r => qnb L h r && u r) 8
  have h3 : qcnt 8 (fun r => qnb L (fun i => g i || h i) r && u r) = qcnt 8 (fun r => (qnb L g r && u r) || (qnb L h r && u r)) := qcnt_eq (fun r _ => by rw [qnb_or]; cases qnb L g r <;> cases qnb L h r <;> cases u r <;> rfl)
  have h4 : qcnt 8 (fun r => qnb L (fun i => g i && h i) r && u r) ≤ qcnt 8 (fun r => (qnb L g r && u r) && (qnb L h r && u r)) := qcnt_le (fun r _ q => by
    have q1 : qnb L (fun i => g i && h i) r = true ∧ u r = true := by simpa using q
    have := qnb_and L g h r q1.1
    simp at this
    simp [this.1, this.2, q1.2])
  omega
/-- Hall, with what is wanting -/
theorem qhall (L : List (Nat → Bool)) : ∀ (u : Nat → Bool), (∀ g, qmx L u ≤ qf L u g) ∧ ∃ g, qf L u g = qmx L u := by
  induction L with
  | nil =>
    intro u
    exact ⟨fun g => Nat.zero_le _, fun _ => false, rfl⟩
  | cons S L ih =>
    intro u
    obtain ⟨l0, g0, e0⟩ := ih u
    -- a room fewer: one less at most
    have up : ∀ r, qmx L (qrem u r) ≤ qmx L u := fun r => by
      have h1 := (ih (qrem u r)).1 g0
      have h2 : qf L (qrem u r) g0 ≤ qf L u g0 := by
        unfold qf
        have : qcnt 8 (fun x => qnb L g0 x && qrem u r x) ≤ qcnt 8 (fun x => qnb L g0 x && u x) := qcnt_le (fun x _ q => by
          unfold qrem at q
          cases h : qnb L g0 x <;> cases h' : u x <;> simp_all)
        omega
      omega
    have even : ∀ g, g 0 = false → qf (S :: L) u g = 1 + qf L u (fun i => g (i + 1)) := fun g hg => by
      simp only [qf, qout, qnb, hg]
      simp
      omega
    have odd : ∀ g, g 0 = true → qf (S :: L) u g = qout L (fun i => g (i + 1)) + qcnt 8 (fun r => (S r || qnb L (fun i => g (i + 1)) r) && u r) := fun g hg => by
      simp only [qf, qout, qnb, hg]
      simp
    by_cases hc : ∃ r, r < 8 ∧ (S r && u r) = true ∧ qmx L u ≤ qmx L (qrem u r)
    · obtain ⟨r0, h0, h1, h2⟩ := hc
      have hS : S r0 = true ∧ u r0 = true := by simpa using h1
      have e1 : qmx (S :: L) u = qmx L u + 1 := by
        have a := qbest_ge (p := fun r => S r && u r) (w := fun r => 1 + qmx L (qrem u r)) h0 h1
        have b := qbest_le (k := 8) (p := fun r => S r && u r) (w := fun r => 1 + qmx L (qrem u r)) (m := qmx L u + 1) (fun r _ _ => by have := up r; omega)
        have e : qmx (S :: L) u = max (qmx L u) (qbest 8 (fun r => S r && u r) (fun r => 1 + qmx L (qrem u r))) := rfl
        rw [e]
        omega
      rw [e1]
      refine ⟨fun g => ?_, fun i => match i with | 0 => false | i + 1 => g0 i, ?_⟩
      · cases hg : g 0
        · rw [even g hg]; have := l0 (fun i => g (i + 1)); omega
        · rw [odd g hg]
          have a := (ih (qrem u r0)).1 (fun i => g (i + 1))
          unfold qf at a
          have b : qcnt 8 (fun r => qnb L (fun i => g (i + 1)) r && qrem u r0 r) + 1 ≤ qcnt 8 (fun r => (S r || qnb L (fun i => g (i + 1)) r) && u r) := by
            refine qcnt_lt (r0 := r0) ?_ ?_ (fun x _ q => ?_) h0
            · unfold qrem; simp
            · simp [hS.1, hS.2]
            · unfold qrem at q
              cases h : qnb L (fun i => g (i + 1)) x <;> cases h' : u x <;> simp_all
          omega
      · rw [even _ rfl]
        show 1 + qf L u g0 = _
        omega
    · have hb : ∀ r, r < 8 → (S r && u r) = true → qmx L (qrem u r) < qmx L u := fun r hr hp => by
        apply Nat.lt_of_not_le
        intro q
        exact hc ⟨r, hr, hp, q⟩
      have e1 : qmx (S :: L) u = qmx L u := by
        have b := qbest_le (k := 8) (p := fun r => S r && u r) (w := fun r => 1 + qmx L (qrem u r)) (m := qmx L u) (fun r hr hp => by have := hb r hr hp; omega)
        have e : qmx (S :: L) u = max (qmx L u) (qbest 8 (fun r => S r && u r) (fun r => 1 + qmx L (qrem u r))) := rfl
        rw [e]
        omega
      rw [e1]
      refine ⟨fun g => ?_, ?_⟩
      · cases hg : g 0
        · rw [even g hg]; have := l0 (fun i => g (i + 1)); omega
        · rw [odd g hg]
          have a := l0 (fun i => g (i + 1))
          unfold qf at a
          have b : qcnt 8 (fun r => qnb L (fun i => g (i + 1)) r && u r) ≤ qcnt 8 (fun r => (S r || qnb L (fun i => g (i + 1)) r) && u r) := qcnt_le (fun x _ q => by
            cases h : qnb L (fun i => g (i + 1)) x <;> cases h' : u x <;> simp_all)
          omega
      · -- a tight group that likes all that S likes
        have tight : ∀ k, k ≤ 8 → ∃ G, qf L u G = qmx L u ∧ ∀ r, r < k → (S r && u r) = true → qnb L G r = true := by
          intro k
          induction k with
          | zero => intro _; exact ⟨g0, e0, fun r hr => by omega⟩
          | succ k ihk =>
            intro hk
            obtain ⟨G, G1, G2⟩ := ihk (by omega)
            by_cases hp : (S k && u k) = true
            · obtain ⟨h, eh⟩ := (ih (qrem u k)).2
              have lt := hb k (by omega) hp
              have ge := l0 h
              have le1 : qf L u h ≤ qf L (qrem u k) h + 1 := by
                unfold qf
                have : qcnt 8 (fun r => qnb L h r && u r) ≤ qcnt 8 (fun r => qnb L h r && qrem u k r) + 1 := qcnt_le1 (r0 := k) (fun x _ hx q => by
                  unfold qrem
                  cases h1 : qnb L h x <;> cases h2 : u x <;> simp_all)
                omega
              have th : qf L u h = qmx L u := by omega
              have nk : qnb L h k = true := by
                cases q : qnb L h k
                · exfalso
                  have : qf L u h ≤ qf L (qrem u k) h := by
                    unfold qf
                    have : qcnt 8 (fun r => qnb L h r && u r) ≤ qcnt 8 (fun r => qnb L h r && qrem u k r) := qcnt_le (fun x _ w => by
                      unfold qrem
                      by_cases e : x = k
                      · subst e; rw [q] at w; simp at w
                      · cases h1 : qnb L h x <;> cases h2 : u x <;> simp_all)
                    omega
                  omega
                · rfl
              have sub := qf_sub L u G h
              have a1 := l0 (fun i => G i || h i)
              have a2 := l0 (fun i => G i && h i)
              refine ⟨fun i => G i || h i, by omega, fun r hr hp' => ?_⟩
              rw [qnb_or]
              by_cases e : r = k
              · subst e; rw [nk]; simp
              · rw [G2 r (by omega) hp']; rfl
            · refine ⟨G, G1, fun r hr hp' => ?_⟩
              by_cases e : r = k
              · subst e; exact absurd hp' hp
              · exact G2 r (by omega) hp'
        obtain ⟨G, G1, G2⟩ := tight 8 (Nat.le_refl 8)
        refine ⟨fun i => match i with | 0 => true | i + 1 => G i, ?_⟩
        rw [odd _ rfl]
        show qout L G + qcnt 8 (fun r => (S r || qnb L G r) && u r) = _
        have e : qcnt 8 (fun r => (S r || qnb L G r) && u r) = qcnt 8 (fun r => qnb L G r && u r) := qcnt_eq (fun r hr => by
          have := G2 r hr
          cases h1 : S r <;> cases h2 : u r <;> cases h3 : qnb L G r <;> simp_all)
        rw [e]
        exact G1
