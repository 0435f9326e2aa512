section
variable {Z : List gH}
theorem abs_eq (d : Int32) : mAbs (-d) = if 0 ≤ d then d else -d := by
  have b1 := d.le_toInt
  have b2 := d.toInt_lt
  have z0 : (0 : Int32).toInt = 0 := rfl
  have e0 : (0 : Int32) - -d = d := by rw [Int32.zero_sub, Int32.neg_neg]
  unfold mAbs
  rw [e0]
  by_cases c : 0 ≤ d
  · rw [if_pos c]
    by_cases c2 : 0 ≤ -d
    · rw [if_pos c2]
      rw [Int32.le_iff_toInt_le, z0] at c c2
      rw [Int32.toInt_neg, Int.bmod_eq_of_le_mul_two (by omega) (by omega)] at c2
      have : d = 0 := Int32.toInt_inj.mp (by rw [z0]; omega)
      rw [this]; rfl
    · rw [if_neg c2]
  · rw [if_neg c]
    by_cases c2 : 0 ≤ -d
    · rw [if_pos c2]
    · rw [if_neg c2]
      rw [Int32.le_iff_toInt_le, z0] at c c2
      by_cases m : d.toInt = -2 ^ 31
      · apply Int32.toInt_inj.mp
        rw [Int32.toInt_neg, m]; rfl
      · rw [Int32.toInt_neg, Int.bmod_eq_of_le_mul_two (by omega) (by omega)] at c2
        omega
theorem TK.cl {σ τ s s2 t : gS} (tk : TK σ τ s t) (h : ∀ c, c ≠ 63 → s2 c = s c) : TK σ τ s2 t :=
  ⟨fun c hc => (h c (by unfold pcl at hc; omega)).trans (tk.1 c hc), tk.2⟩
theorem TK.md {σ τ s t t2 : gS} (tk : TK σ τ s t) (h : ∀ c, c ≠ 72 → t2 c = t c) : TK σ τ s t2 := by
  obtain ⟨k1, k2, k3, k4⟩ := tk
  have e := h 65 (by decide)
  exact ⟨k1, fun c hc => (h c (by unfold pml at hc; omega)).trans (k2 c hc), ⟨by rw [e]; exact k3.1, by rw [e]; exact k3.2.1, by rw [e]; exact k3.2.2⟩, fun q hq => by rw [h 71 (by decide)]; exact k4 q hq⟩
theorem TK.puts2 (hZ : Lay Z) {σ τ s t : gS} (tk : TK σ τ s t) : ∃ t2, F_X10_putsBack Z t = some (0, t2) ∧ TK σ τ s t2 ∧ FR τ t2 ∧ ∀ c, c ≠ 66 → t2 c = t c := by
  obtain ⟨t2, a1, a2, a3⟩ := tk.puts hZ
  obtain ⟨t3, b1, b2, b3⟩ := copyAll_eq (Z := Z) (a := 71) (b := 66) (by decide) (zl_at (hZ.at (i := 71) rfl)) (zl_at (hZ.at (i := 66) rfl)) t
  have e : t2 = t3 := by
    unfold F_X10_putsBack at a1
    rw [b1, mCall_some] at a1
    exact ((Prod.mk.inj (Option.some.inj a1)).2).symm
  subst e
  exact ⟨t2, a1, a2, a3, b2⟩
theorem TK.anew2 {σ τ s t : gS} (tk : TK σ τ s t) (fr : FR τ t) {N V T M B : Nat} (hp : HP Z σ τ 4 66 N V T M B) : ∃ s2, F_X0_becomeAs Z 22 4 s = some (0, s2) ∧ TK σ τ s2 t ∧ HP Z s2 t 22 66 N V T M B ∧ ∀ c, c < 22 ∨ 30 < c → s2 c = s c := by
  obtain ⟨s2, a1, a2, a3⟩ := tk.anew fr hp
  obtain ⟨s3, b1, b2, b3⟩ := become_eq (Z := Z) (l0 := 22) (l1 := 4) s (by omega)
  have e : s2 = s3 := by
    rw [b1] at a1
    exact ((Prod.mk.inj (Option.some.inj a1)).2).symm
  subst e
  exact ⟨s2, a1, a2, a3, b3⟩
theorem neg_sub' (a b : Int32) : a - b = -(b - a) := Int32.neg_sub.symm
/-- one place of a sheet against the heats of the eight rooms -/
theorem sum_L {q k : Nat} {y v : Int32} {k21 : Int32 → gS → Option (Int32 × gS)} {k58 : Int32 → gS → Option (Int32 × gS)} (hk : k < 24) (hv : ¬ v = -1000000005) (s0 t0 : gS) (ev : s0 (39 + 2 * q + 1) k = v) (hq : q ≤ 3) (eh : ∀ r, r < 8 → s0 27 r = t0 66 (10 + r)) : ∀ (n r : Nat) (s t : gS), (∀ c, c ≠ 63 → s c = s0 c) → (∀ c, c ≠ 72 → t c = t0 c) → (∀ i, i < 8 → s 63 i = t 72 i) → r ≤ 8 → 8 - r < n → ∃ s2 t2, F_X9_sumDifferences_L50 Z k21 (39 + 2 * q) n (Int32.ofNat k) (Int32.ofNat r) s = k21 (Int32.ofNat (k + 1)) s2 ∧ F_X10_like_L84 Z k58 (Int32.ofNat q) y n (Int32.ofNat k) v (Int32.ofNat r) t = mCall (F_X10_minute Z t2) (fun r1 s2 => k58 (Int32.ofNat (k + 1)) s2) ∧ (∀ c, c ≠ 63 → s2 c = s0 c) ∧ (∀ c, c ≠ 72 → t2 c = t0 c) ∧ ∀ i, i < 8 → s2 63 i = t2 72 i := by
  intro n
  induction n with
  | zero => intro r s t h1 h2 h3 h4 h5; omega
  | succ n ih =>
    intro r s t h1 h2 h3 h4 h5
    have er : Int32.ofNat r + 1 = Int32.ofNat (r + 1) := addk r 1
    have ek : Int32.ofNat k + 1 = Int32.ofNat (k + 1) := addk k 1
    have e10 : (10 : Int32) + Int32.ofNat r = Int32.ofNat (10 + r) := addk 10 r
    rw [F_X9_sumDifferences_L50, F_X10_like_L84]
    by_cases hd : 8 ≤ r
    · have c : (8 : Int32) ≤ Int32.ofNat r := (lek (a := 8) (by omega) (by omega)).mpr hd
      rw [if_pos c, if_pos c, ek]
      exact ⟨s, t, rfl, rfl, h1, h2, h3⟩
    · have c : ¬ (8 : Int32) ≤ Int32.ofNat r := fun x => hd ((lek (a := 8) (by omega) (by omega)).mp x)
      have i8 : ∀ {α : Type} {a : Option α}, mIn 8 (Int32.ofNat r) a = a := mInk (k := r) (by omega) (by decide)
      have v1 : s (39 + 2 * q + 1) k = v := by rw [h1 _ (by omega)]; exact ev
      have h27 : s 27 r = t 66 (10 + r) := by rw [h1 27 (by decide), h2 66 (by decide)]; exact eh r (by omega)
      rw [if_neg c, if_neg c, if_neg hv, e10, mInk (k := 10 + r) (by omega) (by decide), nnk (k := 10 + r) (by omega)]
      simp only [mLet_eq, i8, nnk (k := r) (by omega)]
      rw [mInk (k := k) hk (by decide), nnk (k := k) (by omega), v1, h27, er, neg_sub' (t 66 (10 + r)) v, abs_eq]
      have key : ∀ w, ∃ s2 t2, F_X9_sumDifferences_L50 Z k21 (39 + 2 * q) n (Int32.ofNat k) (Int32.ofNat (r + 1)) (gu s 63 r (s 63 r + w)) = k21 (Int32.ofNat (k + 1)) s2 ∧ F_X10_like_L84 Z k58 (Int32.ofNat q) y n (Int32.ofNat k) v (Int32.ofNat (r + 1)) (gu t 72 r (t 72 r + w)) = mCall (F_X10_minute Z t2) (fun r1 s2 => k58 (Int32.ofNat (k + 1)) s2) ∧ (∀ c, c ≠ 63 → s2 c = s0 c) ∧ (∀ c, c ≠ 72 → t2 c = t0 c) ∧ ∀ i, i < 8 → s2 63 i = t2 72 i := fun w => by
        refine ih (r + 1) _ _ (fun c hc => by rw [gu_ne _ _ _ hc]; exact h1 c hc) (fun c hc => by rw [gu_ne _ _ _ hc]; exact h2 c hc) (fun i hi => ?_) (by omega) (by omega)
        by_cases e : i = r
        · subst e; rw [gu_self, gu_self, h3 i hi]
        · rw [gu_off _ _ (Or.inr e), gu_off _ _ (Or.inr e)]; exact h3 i hi
      by_cases p : 0 ≤ v - t 66 (10 + r)
      · rw [if_pos p, if_pos p]; exact key _
      · rw [if_neg p, if_neg p]; exact key _
theorem like_mid (hZ : Lay Z) {σ τ : gS} {N V T q L : Nat} {y : Int32} (hq : q ≤ 3) (sq : SQ σ τ q L) : ∀ (n k M B : Nat) (s t : gS), TK σ τ s t → HP Z s t 22 66 N V T M B → (∀ i, i < 8 → s 63 i = t 72 i) → k < L → L - k < n → M + (L - k) ≤ 20000 → B + 1188 * (L - k) ≤ 30000000 → ∃ s2 t2, mCall (F_X5_hasNumber Z (39 + 2 * q) (Int32.ofNat k) s) (fun r1 s2 => if r1 = 0 then F_X9_sumDifferences_L21 Z (39 + 2 * q) n (Int32.ofNat k + 1) s2 else F_X9_sumDifferences_L50 Z (F_X9_sumDifferences_L21 Z (39 + 2 * q) n) (39 + 2 * q) mFuel (Int32.ofNat k) 0 s2) = some (0, s2) ∧ F_X10_like_L58 Z (Int32.ofNat q) y (n + 1) (Int32.ofNat k) t = mCall (F_X10_putsBack Z t2) (fun r1 s2 => F_X10_like_L161 Z y mFuel 0 1 s2) ∧ TK σ τ s2 t2 ∧ ∀ i, i < 8 → s2 63 i = t2 72 i := by
  intro n
  induction n with
  | zero => intros; omega
  | succ n ih =>
    intro k M B s t tk hp hs h1 h2 h3 h4
    have m5 : mFuel = 5000 := rfl
    obtain ⟨g0, g1, g2, g3⟩ := tk.sq hq sq
    have ei : Int32.ofNat k + 1 = Int32.ofNat (k + 1) := addk k 1
    have z2 : 39 + 2 * q + 1 = 40 + 2 * q := by omega
    have c : ¬ Int32.ofNat L ≤ Int32.ofNat k := fun x => by have := (lek (by omega) (by omega)).mp x; omega
    -- the next place, out of a state and another
    have next : ∀ (s0 t0 : gS), TK σ τ s0 t0 → HP Z s0 t0 22 66 N V T M B → (∀ i, i < 8 → s0 63 i = t0 72 i) → ∃ s2 t2, F_X9_sumDifferences_L21 Z (39 + 2 * q) (n + 1) (Int32.ofNat (k + 1)) s0 = some (0, s2) ∧ mCall (F_X10_minute Z t0) (fun r1 s2 => F_X10_like_L58 Z (Int32.ofNat q) y (n + 1) (Int32.ofNat (k + 1)) s2) = mCall (F_X10_putsBack Z t2) (fun r1 s2 => F_X10_like_L161 Z y mFuel 0 1 s2) ∧ TK σ τ s2 t2 ∧ ∀ i, i < 8 → s2 63 i = t2 72 i := by
      intro s0 t0 tk0 hp0 hs0
      obtain ⟨s1, t1, B1, b1, b2, a1, a2, p1, f1⟩ := minute_eq hp0 (by omega) (by omega) (by omega) (by omega)
      have tk1 := tk0.mf f1
      obtain ⟨-, g1', -, -⟩ := tk0.sq hq sq
      obtain ⟨-, -, g2'', -⟩ := tk1.sq hq sq
      have hs1 : ∀ i, i < 8 → s1 63 i = t1 72 i := fun i hi => by rw [f1.1 63 (by omega) (by decide), f1.2 72 (by decide) (by decide) (by decide)]; exact hs0 i hi
      rw [F_X9_sumDifferences_L21, g1', a2, mCall_some]
      by_cases hd : L ≤ k + 1
      · have c2 : Int32.ofNat L ≤ Int32.ofNat (k + 1) := (lek (by omega) (by omega)).mpr hd
        rw [F_X10_like_L58, mInk (k := q) (by omega) (by decide), nnk (k := q) (by omega), g2'', if_pos c2, if_pos c2]
        exact ⟨s0, t1, rfl, rfl, tk0.mix tk1, fun i hi => by rw [hs0 i hi, f1.2 72 (by decide) (by decide) (by decide)]⟩
      · have c2 : ¬ Int32.ofNat L ≤ Int32.ofNat (k + 1) := fun x => hd ((lek (by omega) (by omega)).mp x)
        have c0 : ¬ Int32.ofNat (k + 1) ≤ 0 := fun x => by have := (lek (b := 0) (by omega) (by decide)).mp x; omega
        rw [if_neg c2, if_neg c0, a1, mCall_some]
        exact ih (k + 1) (M + 1) B1 s1 t1 tk1 p1 hs1 (by omega) (by omega) (by omega) (by omega)
    rw [F_X10_like_L58, mInk (k := q) (by omega) (by decide), nnk (k := q) (by omega), g2, if_neg c, hasN_in h1 g0 g1, mCall_some, ix24, mInk (k := 24 * q + k) (by omega) (by decide), nnk (k := 24 * q + k) (by omega), mLet_eq, ← g3 k (by omega)]
    by_cases v : s (40 + 2 * q) k = -1000000005
    · have v' : s (39 + 2 * q + 1) k = -1000000005 := by rw [z2]; exact v
      rw [if_pos v', if00, ei]
      have l84 : F_X10_like_L84 Z (F_X10_like_L58 Z (Int32.ofNat q) y (n + 1)) (Int32.ofNat q) y mFuel (Int32.ofNat k) (s (40 + 2 * q) k) 0 t = mCall (F_X10_minute Z t) (fun r1 s2 => F_X10_like_L58 Z (Int32.ofNat q) y (n + 1) (Int32.ofNat (k + 1)) s2) := by
        show F_X10_like_L84 Z (F_X10_like_L58 Z (Int32.ofNat q) y (n + 1)) (Int32.ofNat q) y (4999 + 1) (Int32.ofNat k) (s (40 + 2 * q) k) 0 t = _
        rw [F_X10_like_L84, if_neg (by decide), if_pos v, ei]
      rw [l84]
      exact next s t tk hp hs
    · have v' : ¬ s (39 + 2 * q + 1) k = -1000000005 := by rw [z2]; exact v
      obtain ⟨s2, t2, u1, u2, u3, u4, u5⟩ := sum_L (Z := Z) (q := q) (k := k) (y := y) (k21 := F_X9_sumDifferences_L21 Z (39 + 2 * q) (n + 1)) (k58 := F_X10_like_L58 Z (Int32.ofNat q) y (n + 1)) (by omega) v s t (by rw [z2]) hq (fun r hr => hp.2.2.1 5 r (by unfold dom; omega)) mFuel 0 s t (fun _ _ => rfl) (fun _ _ => rfl) hs (by omega) (by omega)
      have u1 : F_X9_sumDifferences_L50 Z (F_X9_sumDifferences_L21 Z (39 + 2 * q) (n + 1)) (39 + 2 * q) mFuel (Int32.ofNat k) 0 s = _ := u1
      have u2 : F_X10_like_L84 Z (F_X10_like_L58 Z (Int32.ofNat q) y (n + 1)) (Int32.ofNat q) y mFuel (Int32.ofNat k) (s (40 + 2 * q) k) 0 t = _ := u2
      rw [if_neg v', if10, u1, u2]
      exact next s2 t2 ((tk.cl u3).md u4) (hp.fr (fun j hj => u3 _ (by omega)) (fun c hc => u3 c (by omega)) (u4 66 (by decide))) u5
theorem cmp_L {s t : gS} {y : Int32} (hs : ∀ i, i < 8 → s 63 i = t 72 i) : ∀ (n i b : Nat), b < 8 → i ≤ 8 → 8 - i < n → ∃ r, F_X9_like_L49 Z y n (Int32.ofNat b) (Int32.ofNat i) s = some (r, s) ∧ F_X10_like_L161 Z y n (Int32.ofNat b) (Int32.ofNat i) t = some (r, t) := by
  intro n
  induction n with
  | zero => intro i b h0 h1 h2; omega
  | succ n ih =>
    intro i b h0 h1 h2
    have ei : Int32.ofNat i + 1 = Int32.ofNat (i + 1) := addk i 1
    have i8 : ∀ {α : Type} {a : Option α}, mIn 8 (Int32.ofNat b) a = a := mInk (k := b) (by omega) (by decide)
    rw [F_X9_like_L49, F_X10_like_L161]
    simp only [i8, nnk (k := b) (by omega)]
    by_cases hd : 8 ≤ i
    · have c : (8 : Int32) ≤ Int32.ofNat i := (lek (a := 8) (by omega) (by omega)).mpr hd
      rw [if_pos c, if_pos c, hs b h0]
      by_cases hy : y = 0
      · rw [if_pos hy, if_pos hy]; exact ⟨_, rfl, rfl⟩
      · rw [if_neg hy, if_neg hy]; exact ⟨_, rfl, rfl⟩
    · have c : ¬ (8 : Int32) ≤ Int32.ofNat i := fun x => hd ((lek (a := 8) (by omega) (by omega)).mp x)
      rw [if_neg c, if_neg c, mInk (k := i) (by omega) (by decide), mInk (k := i) (by omega) (by decide), nnk (k := i) (by omega), hs b h0, hs i (by omega), ei]
      by_cases p : t 72 b ≤ t 72 i
      · rw [if_pos p, if_pos p]; exact ih (i + 1) b h0 (by omega) (by omega)
      · rw [if_neg p, if_neg p]; exact ih (i + 1) i (by omega) (by omega) (by omega)
theorem zero_L {q y : Int32} (τ : gS) : ∀ (n i : Nat) (t : gS), (∀ c, c ≠ 72 → t c = τ c) → (∀ k, k < i → t 72 k = 0) → i ≤ 8 → 8 - i < n → ∃ t2, F_X10_like_L37 Z q y n (Int32.ofNat i) t = F_X10_like_L58 Z q y mFuel 0 t2 ∧ (∀ c, c ≠ 72 → t2 c = τ c) ∧ ∀ k, k < 8 → t2 72 k = 0 := by
  intro n
  induction n with
  | zero => intro i t h1 h2 h3 h4; omega
  | succ n ih =>
    intro i t h1 h2 h3 h4
    have ei : Int32.ofNat i + 1 = Int32.ofNat (i + 1) := addk i 1
    rw [F_X10_like_L37]
    by_cases hd : 8 ≤ i
    · have c : (8 : Int32) ≤ Int32.ofNat i := (lek (a := 8) (by omega) (by omega)).mpr hd
      rw [if_pos c]
      exact ⟨t, rfl, h1, fun k hk => h2 k (by omega)⟩
    · have c : ¬ (8 : Int32) ≤ Int32.ofNat i := fun x => hd ((lek (a := 8) (by omega) (by omega)).mp x)
      rw [if_neg c, mInk (k := i) (by omega) (by decide), nnk (k := i) (by omega), mLet_eq, ei]
      refine ih (i + 1) _ (fun c hc => by rw [gu_ne _ _ _ hc]; exact h1 c hc) (fun k hk => ?_) (by omega) (by omega)
      by_cases e : k = i
      · subst e; rw [gu_self]
      · rw [gu_off _ _ (Or.inr e)]; exact h2 k (by omega)
theorem sim_like (hZ : Lay Z) (x y : Int32) : Sim Z (F_X9_like Z x y) (F_X10_like Z x y) := by
  intro σ τ hr
  obtain ⟨⟨N, V, T, M, B, hp, hm, -⟩, sh, -⟩ := id hr
  have m5 : mFuel = 5000 := rfl
  unfold F_X9_like F_X10_like
  simp only [x9_isSheet, x10_isSheet, x9_within, x10_in, mCall_some]
  rcases rng x 3 (by decide) with ⟨q, hq, rfl⟩ | ho
  rotate_left
  · rw [wi_out (a := 0) (b := 3) ho, if00, if00]; exact same hr rfl rfl
  have e1 : wi (Int32.ofNat q) 0 3 = 1 := wi_in (b := 3) hq (by decide)
  rw [e1, if10, if10]
  by_cases hy : wi y 0 1 = 0
  · rw [if_pos hy, if_pos hy]; exact same hr rfl rfl
  rw [if_neg hy, if_neg hy]
  obtain ⟨a1, a2, ⟨L, hL, a3⟩, a4, a5⟩ := sh q (by omega)
  have sq : SQ σ τ q L := ⟨hL, a3, a4.symm.trans a3, a5⟩
  simp only [mSh_eq hq]
  rw [mInk (k := q) (by omega) (by decide), nnk (k := q) (by omega)]
  rcases miss_eq (Z := Z) sh hq with ⟨-, m1, m2, -⟩ | ⟨m0, m1, m2, -⟩
  · rw [m1, if_neg m2, mCall_some, if10]; exact same hr rfl rfl
  obtain ⟨t, b1, tk, fr⟩ := thinks_eq hZ σ τ
  rw [m1, if_pos m2, mCall_some, if00, b1, mCall_some]
  obtain ⟨t1, z1, z2, z3⟩ := zero_L (Z := Z) (q := Int32.ofNat q) (y := y) t mFuel 0 t (fun _ _ => rfl) (fun k hk => by omega) (by omega) (by omega)
  have z1 : F_X10_like_L37 Z (Int32.ofNat q) y mFuel 0 t = F_X10_like_L58 Z (Int32.ofNat q) y mFuel 0 t1 := z1
  obtain ⟨s1, f1, f2, f3⟩ := fillz_eq (Z := Z) (c := 63) (n := 8) (v := 0) (zl_at (hZ.at (i := 63) rfl)) (by decide) σ
  have tk1 : TK σ τ s1 t1 := (tk.cl f2).md z2
  have fr1 : FR τ t1 := fun k hk => by rw [z2 66 (by decide)]; exact fr k hk
  obtain ⟨s2, c1, tk2, hp2, c2⟩ := tk1.anew2 fr1 hp
  have hs2 : ∀ i, i < 8 → s2 63 i = t1 72 i := fun i hi => by rw [c2 63 (by omega), f3 i hi, z3 i hi]
  obtain ⟨g0, g1, g2, g3⟩ := tk2.sq hq sq
  have main : ∃ s3 t3, F_X9_sumDifferences Z (39 + 2 * q) σ = some (0, s3) ∧ F_X10_like_L58 Z (Int32.ofNat q) y mFuel 0 t1 = mCall (F_X10_putsBack Z t3) (fun r1 s2 => F_X10_like_L161 Z y mFuel 0 1 s2) ∧ TK σ τ s3 t3 ∧ ∀ i, i < 8 → s3 63 i = t3 72 i := by
    unfold F_X9_sumDifferences
    rw [f1, mCall_some, c1, mCall_some]
    show ∃ s3 t3, F_X9_sumDifferences_L21 Z (39 + 2 * q) (4999 + 1) 0 s2 = some (0, s3) ∧ F_X10_like_L58 Z (Int32.ofNat q) y (4999 + 1) 0 t1 = mCall (F_X10_putsBack Z t3) (fun r1 s2 => F_X10_like_L161 Z y mFuel 0 1 s2) ∧ TK σ τ s3 t3 ∧ ∀ i, i < 8 → s3 63 i = t3 72 i
    rw [F_X9_sumDifferences_L21, g1]
    by_cases hd : L ≤ 0
    · have c2 : Int32.ofNat L ≤ Int32.ofNat 0 := (lek (by omega) (by omega)).mpr hd
      have c3 : Int32.ofNat L ≤ 0 := c2
      rw [F_X10_like_L58, mInk (k := q) (by omega) (by decide), nnk (k := q) (by omega), g2, if_pos c3, if_pos c3]
      exact ⟨s2, t1, rfl, rfl, tk2, hs2⟩
    · have c2 : ¬ Int32.ofNat L ≤ Int32.ofNat 0 := fun x => hd ((lek (by omega) (by omega)).mp x)
      have c3 : ¬ Int32.ofNat L ≤ 0 := c2
      rw [if_neg c3, if_pos (by decide)]
      exact like_mid (y := y) hZ hq sq 4999 0 M B s2 t1 tk2 hp2 hs2 (by omega) (by omega) (by omega) (by omega)
  obtain ⟨s3, t3, d1, d2, tk3, hs3⟩ := main
  obtain ⟨t4, p1, tk4, fr4, p2⟩ := tk3.puts2 hZ
  obtain ⟨r, r1, r2⟩ := cmp_L (Z := Z) (y := y) (s := s3) (t := t4) (fun i hi => by rw [hs3 i hi, p2 72 (by decide)]) mFuel 1 0 (by omega) (by omega) (by omega)
  rw [d1, mCall_some, z1, d2, p1, mCall_some]
  exact tk4.fin fr4 hr r1 r2
end
