section
variable {Z : List gH}
/-- what stands behind the rooms below r -/
def GS (S : Nat → Bool) (L : List (Nat → Bool)) (u : Nat → Bool) (v c b r : Nat) (t t' : gS) : Prop := (t' 65 6 = bv b ∧ t' 70 = t 70 ∧ ∀ q, q < r → (S q && u q) = true → c + (1 + qmx L (qrem u q)) < b) ∨ ∃ q0, q0 < r ∧ (S q0 && u q0) = true ∧ b ≤ c + (1 + qmx L (qrem u q0)) ∧ t' 65 6 = bv (c + (1 + qmx L (qrem u q0)) + 1) ∧ (∀ q, q < r → (S q && u q) = true → qmx L (qrem u q) ≤ qmx L (qrem u q0)) ∧ (∀ q, q < q0 → (S q && u q) = true → qmx L (qrem u q) < qmx L (qrem u q0)) ∧ (∀ k, k < v → t' 70 k = t 69 k) ∧ t' 70 v = Int32.ofNat q0 ∧ QS L (qrem u q0) (fun k => t' 70 (v + 1 + k))
theorem GS.skip {S : Nat → Bool} {L : List (Nat → Bool)} {u : Nat → Bool} {v c b r : Nat} {t t' : gS} (h : GS S L u v c b r t t') (hs : ¬ (S r && u r) = true) : GS S L u v c b (r + 1) t t' := by
  have ex : ∀ {P : Nat → Prop}, (∀ q, q < r → (S q && u q) = true → P q) → ∀ q, q < r + 1 → (S q && u q) = true → P q := fun hP q hq hp => by
    by_cases e : q = r
    · subst e; exact absurd hp hs
    · exact hP q (by omega) hp
  rcases h with ⟨a1, a2, a3⟩ | ⟨q0, a1, a2, a3, a4, a5, a6, a7, a8, a9⟩
  · exact Or.inl ⟨a1, a2, ex a3⟩
  · exact Or.inr ⟨q0, by omega, a2, a3, a4, ex a5, a6, a7, a8, a9⟩
/-- the end, behind the eight rooms and none -/
theorem GS.fin {S : Nat → Bool} {L : List (Nat → Bool)} {u : Nat → Bool} {v c b : Nat} {t t' t1 t2 : gS} (h : GS S L u v c b 8 t t') (e1 : ∀ k, k < v → t1 69 k = t 69 k) (e2 : t1 69 v = -1000000005) (e3 : t1 70 = t' 70) {b' : Nat} (eb : (t' 65 6 = bv b ∧ t' 70 = t 70 ∧ (∀ q, q < 8 → (S q && u q) = true → c + (1 + qmx L (qrem u q)) < b) ∧ b' = b) ∨ ∃ q0, q0 < 8 ∧ (S q0 && u q0) = true ∧ b ≤ c + (1 + qmx L (qrem u q0)) ∧ (∀ q, q < 8 → (S q && u q) = true → qmx L (qrem u q) ≤ qmx L (qrem u q0)) ∧ (∀ q, q < q0 → (S q && u q) = true → qmx L (qrem u q) < qmx L (qrem u q0)) ∧ (∀ k, k < v → t' 70 k = t 69 k) ∧ t' 70 v = Int32.ofNat q0 ∧ QS L (qrem u q0) (fun k => t' 70 (v + 1 + k)) ∧ b' = c + (1 + qmx L (qrem u q0)) + 1) (gr : GR L u (v + 1) c b' t1 t2) : GR (S :: L) u v c b t t2 := by
  have em := qmx_cons S L u
  have sh : (fun k => t2 70 (v + 1 + k)) = (fun k => t2 70 (v + (k + 1))) := by
    funext k; rw [show v + 1 + k = v + (k + 1) by omega]
  rcases eb with ⟨a1, a2, a3, rfl⟩ | ⟨q0, a1, a2, a3, a5, a6, a7, a8, a9, rfl⟩
  · rcases gr with ⟨g1, g2, g3⟩ | ⟨g1, g2, g3, g4⟩
    · -- nothing better
      refine Or.inl ⟨?_, g2, by rw [g3, e3, a2]⟩
      rcases qbest_at (p := fun r => S r && u r) (w := fun r => 1 + qmx L (qrem u r)) 8 with q | ⟨r, q1, q2, q3⟩
      · omega
      · have := a3 r q1 q2; omega
    · -- none is best
      have hb : qbest 8 (fun r => S r && u r) (fun r => 1 + qmx L (qrem u r)) ≤ qmx L u := qbest_le (fun r hr hp => by have := a3 r hr hp; omega)
      have e : qmx (S :: L) u = qmx L u := by omega
      refine Or.inr ⟨by omega, by rw [e]; exact g2, fun k hk => by rw [g3 k (by omega), e1 k hk], Or.inr ⟨fun r hr hq => ?_, ?_, ?_⟩⟩
      · have := a3 r hr hq.1
        have := hq.2
        omega
      · show t2 70 (v + 0) = _
        rw [Nat.add_zero, g3 v (by omega), e2]
      · rw [sh] at g4; exact g4
  · have hb : qbest 8 (fun r => S r && u r) (fun r => 1 + qmx L (qrem u r)) ≤ 1 + qmx L (qrem u q0) := qbest_le (fun r hr hp => by have := a5 r hr hp; omega)
    have hb2 := qbest_ge (p := fun r => S r && u r) (w := fun r => 1 + qmx L (qrem u r)) a1 a2
    rcases gr with ⟨g1, g2, g3⟩ | ⟨g1, g2, g3, g4⟩
    · -- the room q0 is best
      have e : qmx (S :: L) u = 1 + qmx L (qrem u q0) := by omega
      have e70 : t2 70 = t' 70 := by rw [g3, e3]
      refine Or.inr ⟨by omega, by rw [e]; exact g2, fun k hk => by rw [e70]; exact a7 k hk, Or.inl ⟨q0, a1, ⟨a2, by omega⟩, fun q hq hc => ?_, ?_, ?_⟩⟩
      · have := a6 q hq hc.1
        have := hc.2
        omega
      · show t2 70 (v + 0) = _
        rw [Nat.add_zero, e70]; exact a8
      · rw [← e70, sh] at a9; exact a9
    · -- none is better still
      have e : qmx (S :: L) u = qmx L u := by omega
      refine Or.inr ⟨by omega, by rw [e]; exact g2, fun k hk => by rw [g3 k (by omega), e1 k hk], Or.inr ⟨fun r hr hq => ?_, ?_, ?_⟩⟩
      · have := a5 r hr hq.1
        have := hq.2
        omega
      · show t2 70 (v + 0) = _
        rw [Nat.add_zero, g3 v (by omega), e2]
      · rw [sh] at g4; exact g4
theorem dfs_loop {A : Nat → Nat → Bool} {V v c b d : Nat} {u : Nat → Bool} {x : Int32} (hV : V ≤ 6) (hv : v < V) (τ : gS) (hA : ∀ i r, i < V → r < 8 → A i r = (bt (τ 66 (130 + i)) r && decide (¬ (30 : Int32) ≤ τ 66 (10 + r)))) (t : gS) (h66 : t 66 = τ 66) (gb : GB x u) (hc : c ≤ v) (hb : b ≤ 10) (hrec : ∀ (u : Nat → Bool) (x : Int32) (c b : Nat) (t : gS), GB x u → t 66 = τ 66 → t 65 6 = bv b → c ≤ v + 1 → b ≤ 10 → ∃ t2, F_givesR Z d (Int32.ofNat (v + 1)) x (Int32.ofNat c) t = some (0, t2) ∧ GF (v + 1) t t2 ∧ GR (qls A (v + 1) (V - (v + 1))) u (v + 1) c b t t2) : ∀ (m r : Nat) (t' : gS), GF v t t' → GS (A v) (qls A (v + 1) (V - (v + 1))) u v c b r t t' → r ≤ 8 → 8 - r < m → ∃ t2, F_X10_gives_L57 Z (F_givesR Z d) (Int32.ofNat v) x (Int32.ofNat c) m (Int32.ofNat r) t' = some (0, t2) ∧ GF v t t2 ∧ GR (A v :: qls A (v + 1) (V - (v + 1))) u v c b t t2 := by
  have ml : ∀ u', qmx (qls A (v + 1) (V - (v + 1))) u' ≤ V - (v + 1) := fun u' => by
    have := qmx_le (qls A (v + 1) (V - (v + 1))) u'
    rw [qls_len] at this
    exact this
  intro m
  induction m with
  | zero => intro r t' h1 h2 h3 h4; omega
  | succ m ih =>
    intro r t' gf gs h3 h4
    have er : Int32.ofNat r + 1 = Int32.ofNat (r + 1) := addk r 1
    have ev : Int32.ofNat v + 1 = Int32.ofNat (v + 1) := addk v 1
    have ec : Int32.ofNat c + 1 = Int32.ofNat (c + 1) := addk c 1
    have e66 : t' 66 = τ 66 := (gf.1 66 (by decide) (by decide) (by decide)).trans h66
    rw [F_X10_gives_L57]
    by_cases hd : 8 ≤ r
    · obtain rfl : r = 8 := by omega
      have c8 : (8 : Int32) ≤ Int32.ofNat 8 := by decide
      obtain ⟨b', eb, hb', e6⟩ : ∃ b', ((t' 65 6 = bv b ∧ t' 70 = t 70 ∧ (∀ q, q < 8 → (A v q && u q) = true → c + (1 + qmx (qls A (v + 1) (V - (v + 1))) (qrem u q)) < b) ∧ b' = b) ∨ ∃ q0, q0 < 8 ∧ (A v q0 && u q0) = true ∧ b ≤ c + (1 + qmx (qls A (v + 1) (V - (v + 1))) (qrem u q0)) ∧ (∀ q, q < 8 → (A v q && u q) = true → qmx (qls A (v + 1) (V - (v + 1))) (qrem u q) ≤ qmx (qls A (v + 1) (V - (v + 1))) (qrem u q0)) ∧ (∀ q, q < q0 → (A v q && u q) = true → qmx (qls A (v + 1) (V - (v + 1))) (qrem u q) < qmx (qls A (v + 1) (V - (v + 1))) (qrem u q0)) ∧ (∀ k, k < v → t' 70 k = t 69 k) ∧ t' 70 v = Int32.ofNat q0 ∧ QS (qls A (v + 1) (V - (v + 1))) (qrem u q0) (fun k => t' 70 (v + 1 + k)) ∧ b' = c + (1 + qmx (qls A (v + 1) (V - (v + 1))) (qrem u q0)) + 1) ∧ b' ≤ 10 ∧ t' 65 6 = bv b' := by
        rcases gs with ⟨a1, a2, a3⟩ | ⟨q0, a1, a2, a3, a4, a5, a6, a7, a8, a9⟩
        · exact ⟨b, Or.inl ⟨a1, a2, a3, rfl⟩, hb, a1⟩
        · have := ml (qrem u q0)
          exact ⟨_, Or.inr ⟨q0, a1, a2, a3, a5, a6, a7, a8, a9, rfl⟩, by omega, a4⟩
      obtain ⟨t2, r1, r2, r3⟩ := hrec u x c b' (gu t' 69 v (-1000000005)) gb (by rw [gu_ne _ _ _ (by decide)]; exact e66) (by rw [gu_ne _ _ _ (by decide)]; exact e6) (by omega) hb'
      rw [if_pos c8, mInk (k := v) (by omega) (by decide), nnk (k := v) (by omega), mLet_eq, ev, r1, mCall_some]
      refine ⟨t2, rfl, gf.trans (GF.put.trans (r2.lo (by omega))), GS.fin gs (t1 := gu t' 69 v (-1000000005)) (fun k hk => by rw [gu_off _ _ (Or.inr (by omega))]; exact gf.2.2 k hk) (gu_self _ _ _ _) (gu_ne _ _ _ (by decide)) eb r3⟩
    have c8 : ¬ (8 : Int32) ≤ Int32.ofNat r := fun q => hd ((lek (a := 8) (by omega) (by omega)).mp q)
    have i1 : (130 : Int32) + Int32.ofNat v = Int32.ofNat (130 + v) := addk 130 v
    have i2 : (10 : Int32) + Int32.ofNat r = Int32.ofNat (10 + r) := addk 10 r
    have hAr := hA v r hv (by omega)
    have skip : ¬ (A v r && u r) = true → ∃ t2, F_X10_gives_L57 Z (F_givesR Z d) (Int32.ofNat v) x (Int32.ofNat c) m (Int32.ofNat (r + 1)) t' = some (0, t2) ∧ GF v t t2 ∧ GR (A v :: qls A (v + 1) (V - (v + 1))) u v c b t t2 := fun hs => ih (r + 1) t' gf (gs.skip hs) (by omega) (by omega)
    rw [if_neg c8, i1, i2, mInk (k := 130 + v) (by omega) (by decide), mInk (k := 10 + r) (by omega) (by decide), mInk (k := v) (by omega) (by decide), nnk (k := 130 + v) (by omega), nnk (k := 10 + r) (by omega), nnk (k := v) (by omega), bt1 _ (by omega), bt1 _ (by omega), e66, er, ev, ec, shl2 (by omega), mLet_eq]
    cases hbt : bt (τ 66 (130 + v)) r
    · rw [if_neg (by decide)]
      exact skip (fun h => by rw [hAr, hbt] at h; simp at h)
    rw [if_pos rfl, if_pos rfl, gb r (by omega)]
    cases hur : u r
    · rw [show (if (!false) = true then (1 : Int32) else 0) = 1 from rfl, if10]
      exact skip (fun h => by rw [hur] at h; simp at h)
    rw [show (if (!true) = true then (1 : Int32) else 0) = 0 from rfl, if00]
    by_cases hh : (30 : Int32) ≤ τ 66 (10 + r)
    · rw [if_pos hh]
      exact skip (fun h => by rw [hAr, decide_eq_false (fun q => q hh)] at h; simp at h)
    rw [if_neg hh]
    have hp : (A v r && u r) = true := by rw [hAr, hbt, hur, decide_eq_true hh]; rfl
    have gb' : GB (x ||| Int32.ofNat (2 ^ r)) (qrem u r) := fun k hk => by
      rw [bt_or, gb k hk, bt_pow (by omega)]
      unfold qrem
      cases u k <;> cases (k == r) <;> rfl
    obtain ⟨b', hb', e6, st⟩ : ∃ b', b' ≤ 10 ∧ t' 65 6 = bv b' ∧ ∀ t2, GF (v + 1) (gu t' 69 v (Int32.ofNat r)) t2 → GR (qls A (v + 1) (V - (v + 1))) (qrem u r) (v + 1) (c + 1) b' (gu t' 69 v (Int32.ofNat r)) t2 → GS (A v) (qls A (v + 1) (V - (v + 1))) u v c b (r + 1) t t2 := by
      have new : ∀ t2 : gS, (∀ k, k < v + 1 → t2 70 k = gu t' 69 v (Int32.ofNat r) 69 k) → (∀ k, k < v → t2 70 k = t 69 k) ∧ t2 70 v = Int32.ofNat r := fun t2 h => by
        refine ⟨fun k hk => ?_, ?_⟩
        · rw [h k (by omega), gu_off _ _ (Or.inr (by omega))]; exact gf.2.2 k hk
        · rw [h v (by omega), gu_self]
      have g70 : gu t' 69 v (Int32.ofNat r) 70 = t' 70 := gu_ne _ _ _ (by decide)
      rcases gs with ⟨a1, a2, a3⟩ | ⟨q0, a1, a2, a3, a4, a5, a6, a7, a8, a9⟩
      · refine ⟨b, hb, a1, fun t2 _ gr => ?_⟩
        rcases gr with ⟨g1, g2, g3⟩ | ⟨g1, g2, g3, g4⟩
        · refine Or.inl ⟨g2, by rw [g3, g70, a2], fun q hq hpq => ?_⟩
          by_cases e : q = r
          · subst e; omega
          · exact a3 q (by omega) hpq
        · obtain ⟨n1, n2⟩ := new t2 g3
          refine Or.inr ⟨r, by omega, hp, by omega, ?_, fun q hq hpq => ?_, fun q hq hpq => ?_, n1, n2, g4⟩
          · rw [g2]; congr 1; omega
          · by_cases e : q = r
            · subst e; omega
            · have := a3 q (by omega) hpq; omega
          · have := a3 q (by omega) hpq; omega
      · have := ml (qrem u q0)
        refine ⟨c + (1 + qmx (qls A (v + 1) (V - (v + 1))) (qrem u q0)) + 1, by omega, a4, fun t2 _ gr => ?_⟩
        rcases gr with ⟨g1, g2, g3⟩ | ⟨g1, g2, g3, g4⟩
        · have e70 : t2 70 = t' 70 := by rw [g3, g70]
          refine Or.inr ⟨q0, by omega, a2, a3, g2, fun q hq hpq => ?_, a6, fun k hk => by rw [e70]; exact a7 k hk, by rw [e70]; exact a8, by rw [e70]; exact a9⟩
          by_cases e : q = r
          · subst e; omega
          · exact a5 q (by omega) hpq
        · obtain ⟨n1, n2⟩ := new t2 g3
          refine Or.inr ⟨r, by omega, hp, by omega, ?_, fun q hq hpq => ?_, fun q hq hpq => ?_, n1, n2, g4⟩
          · rw [g2]; congr 1; omega
          · by_cases e : q = r
            · subst e; omega
            · have := a5 q (by omega) hpq; omega
          · have := a5 q (by omega) hpq; omega
    obtain ⟨t2, r1, r2, r3⟩ := hrec (qrem u r) (x ||| Int32.ofNat (2 ^ r)) (c + 1) b' (gu t' 69 v (Int32.ofNat r)) gb' (by rw [gu_ne _ _ _ (by decide)]; exact e66) (by rw [gu_ne _ _ _ (by decide)]; exact e6) (by omega) hb'
    rw [r1, mCall_some]
    exact ih (r + 1) t2 (gf.trans (GF.put.trans (r2.lo (by omega)))) (st t2 r2 r3) (by omega) (by omega)
theorem dfs {A : Nat → Nat → Bool} {V : Nat} (hV : V ≤ 6) (τ : gS) (e5 : τ 66 5 = Int32.ofNat V) (hA : ∀ i r, i < V → r < 8 → A i r = (bt (τ 66 (130 + i)) r && decide (¬ (30 : Int32) ≤ τ 66 (10 + r)))) : ∀ (n d v : Nat) (u : Nat → Bool) (x : Int32) (c b : Nat) (t : gS), V - v = n → v ≤ V → n < d → GB x u → t 66 = τ 66 → t 65 6 = bv b → c ≤ v → b ≤ 10 → ∃ t2, F_givesR Z d (Int32.ofNat v) x (Int32.ofNat c) t = some (0, t2) ∧ GF v t t2 ∧ GR (qls A v (V - v)) u v c b t t2 := by
  have m5 : mFuel = 5000 := rfl
  intro n
  induction n with
  | zero =>
    intro d v u x c b t h1 h2 h3 gb h66 h6 hc hb
    obtain ⟨d, rfl⟩ : ∃ p, d = p + 1 := ⟨d - 1, by omega⟩
    obtain rfl : v = V := by omega
    rw [F_givesR, F_X10_gives, h66, e5, if_pos rfl, h6, Nat.sub_self]
    by_cases l : c < b
    · rw [if_pos ((bv_le (by omega) (by omega)).mpr l)]
      exact ⟨t, rfl, ⟨fun _ _ _ _ => rfl, fun _ _ => rfl, fun _ _ => rfl⟩, Or.inl ⟨by show c + 0 < b; omega, h6, rfl⟩⟩
    · rw [if_neg (fun q => l ((bv_le (by omega) (by omega)).mp q)), mLet_eq]
      obtain ⟨t2, a1, a2, a3⟩ := save_L (Z := Z) (rG := F_givesR Z d) (gu t 65 6 (Int32.ofNat c)) mFuel 0 (gu t 65 6 (Int32.ofNat c)) (fun _ _ => rfl) (fun k hk => by omega) (by omega) (by omega)
      refine ⟨t2, a1, ⟨fun y h1 h2 h3 => by rw [a2 y h3, gu_ne _ _ _ h1], fun k hk => by rw [a2 65 (by decide), gu_off _ _ (Or.inr hk)], fun k hk => by rw [a2 69 (by decide), gu_ne _ _ _ (by decide)]⟩, Or.inr ⟨by show b ≤ c + 0; omega, ?_, fun k hk => by rw [a3 k (by omega), gu_ne _ _ _ (by decide)], trivial⟩⟩
      show t2 65 6 = bv (c + 1)
      rw [a2 65 (by decide), gu_self, bv_succ]
  | succ n ihn =>
    intro d v u x c b t h1 h2 h3 gb h66 h6 hc hb
    obtain ⟨d, rfl⟩ : ∃ p, d = p + 1 := ⟨d - 1, by omega⟩
    have hcons : qls A v (V - v) = A v :: qls A (v + 1) (V - (v + 1)) := by
      rw [show V - v = (V - (v + 1)) + 1 by omega]; rfl
    rw [F_givesR, F_X10_gives, h66, e5, if_neg (fun q => by have := (eqk (by omega) (by omega)).mp q; omega), hcons]
    exact dfs_loop hV (by omega) τ hA t h66 gb hc hb (fun u x c b t g1 g2 g3 g4 g5 => ihn d (v + 1) u x c b t (by omega) (by omega) (by omega) g1 g2 g3 g4 g5) mFuel 0 t ⟨fun _ _ _ _ => rfl, fun _ _ => rfl, fun _ _ => rfl⟩ (Or.inl ⟨h6, rfl, fun q hq => by omega⟩) (by omega) (by omega)
end
