section
variable {Z : List gH}
theorem HP.lits {s t s2 t2 : gS} {h N V T M B : Nat} (hp : HP Z s t h 66 N V T M B) (hh : h + 8 < 65) (h1 : ∀ c, c ≠ h + 4 → s2 c = s c) (h2 : ∀ k, (∀ a, a < N → k ≠ 82 + 4 * a + 3) → t2 66 k = t 66 k) (h3 : ∀ a, a < N → s2 (h + 4) a = t2 66 (82 + 4 * a + 3) ∧ le (s2 (h + 4) a) 1) : HP Z s2 t2 h 66 N V T M B := by
  obtain ⟨p1, p2, p3, p4, p5, p6, p7⟩ := hp
  have hN := p1.1
  have e0 : s2 h = s h := h1 h (by omega)
  refine ⟨p1, by rw [e0]; exact p2, fun j i hd => ?_, fun i hi => ?_, fun i hi => ?_, fun i hi => ?_, p7.fr (fun c hc => h1 c (by omega)) (h1 _ (by omega)) (fun q hq => h2 q (fun a ha => by omega))⟩
  · by_cases e : j = 4
    · subst e
      exact (h3 i (by unfold dom at hd; omega)).1
    · rw [h1 (h + j) (by omega), h2 _ (fun a ha e2 => e (mp_inj (hd.mono hN) (show dom 12 4 a by unfold dom; omega) e2).1)]
      exact p3 j i hd
  · rw [h1 (h + 1) (by omega), h1 (h + 2) (by omega), h1 (h + 3) (by omega)]
    exact ⟨(p4 i hi).1, (p4 i hi).2.1, (p4 i hi).2.2.1, (h3 i hi).2⟩
  · rw [h1 (h + 5) (by omega)]; exact p5 i hi
  · rw [h1 (h + 6) (by omega)]; exact p6 i hi
theorem TK.mix {σ τ s s2 t t2 : gS} (h1 : TK σ τ s t) (h2 : TK σ τ s2 t2) : TK σ τ s t2 := ⟨h1.1, h2.2.1, h2.2.2.1, h2.2.2.2⟩
/-- a sheet, told to the thinking -/
def SQ (s t : gS) (q L : Nat) : Prop := L ≤ 24 ∧ s (39 + 2 * q) 2 = Int32.ofNat L ∧ t 82 q = Int32.ofNat L ∧ ∀ k, k < 24 → s (40 + 2 * q) k = t 83 (24 * q + k)
theorem TK.sq {σ τ s t : gS} (tk : TK σ τ s t) {q L : Nat} (hq : q ≤ 3) (h : SQ σ τ q L) : SQ s t q L := by
  obtain ⟨h0, h1, h2, h3⟩ := h
  refine ⟨h0, ?_, ?_, fun k hk => ?_⟩
  · rw [tk.1 (39 + 2 * q) (by unfold pcl; omega)]; exact h1
  · rw [tk.2.1 82 (by unfold pml; omega)]; exact h2
  · rw [tk.1 (40 + 2 * q) (by unfold pcl; omega), tk.2.1 83 (by unfold pml; omega)]; exact h3 k hk
theorem so_L (hZ : Lay Z) {σ τ : gS} {N V T q L : Nat} (hq : q ≤ 3) (sq : SQ σ τ q L) : ∀ (n k M B : Nat) (s t : gS), TK σ τ s t → HP Z s t 22 66 N V T M B → k < L → L - k < n → M + (L - k) ≤ 20000 → B + 1188 * (L - k) ≤ 30000000 → ∃ r s2 t2, F_X9_canHaveBegunBy_J53 Z (F_X9_canHaveBegunBy_L34 Z (39 + 2 * q) n) (39 + 2 * q) (Int32.ofNat k) s = some (r, s2) ∧ F_X10_isSo_L4 Z (Int32.ofNat q) (n + 1) 1 (Int32.ofNat k) t = some (r, t2) ∧ TK σ τ s2 t2 ∧ FR τ t2 := by
  intro n
  induction n with
  | zero => intros; omega
  | succ n ih =>
    intro k M B s t tk hp h1 h2 h3 h4
    obtain ⟨g0, g1, g2, g3⟩ := tk.sq hq sq
    have ei : Int32.ofNat k + 1 = Int32.ofNat (k + 1) := addk k 1
    have z2 : 39 + 2 * q + 1 = 40 + 2 * q := by omega
    have c : ¬ Int32.ofNat L ≤ Int32.ofNat k := fun x => by have := (lek (by omega) (by omega)).mp x; omega
    obtain ⟨s1, t1, B1, b1, b2, a1, a2, p1, f1⟩ := minute_eq hp (by omega) (by omega) (by omega) (by omega)
    have tk1 := tk.mf f1
    obtain ⟨g0', g1', g2', g3'⟩ := tk1.sq hq sq
    obtain ⟨t3, c1, tk3, fr3⟩ := tk1.puts hZ
    -- the next place, the place k being right
    have next : ∃ r s2 t2, F_X9_canHaveBegunBy_L34 Z (39 + 2 * q) (n + 1) (Int32.ofNat (k + 1)) s = some (r, s2) ∧ F_X10_isSo_L4 Z (Int32.ofNat q) (n + 1) 1 (Int32.ofNat (k + 1)) t1 = some (r, t2) ∧ TK σ τ s2 t2 ∧ FR τ t2 := by
      rw [F_X9_canHaveBegunBy_L34, g1]
      by_cases hd : L ≤ k + 1
      · have c2 : Int32.ofNat L ≤ Int32.ofNat (k + 1) := (lek (by omega) (by omega)).mpr hd
        rw [F_X10_isSo_L4, mInk (k := q) (by omega) (by decide), nnk (k := q) (by omega), g2', if_pos c2, if_pos c2, c1, mCall_some]
        exact ⟨1, s, t3, rfl, rfl, tk.mix tk3, fr3⟩
      · have c2 : ¬ Int32.ofNat L ≤ Int32.ofNat (k + 1) := fun x => hd ((lek (by omega) (by omega)).mp x)
        have c0 : ¬ Int32.ofNat (k + 1) ≤ 0 := fun x => by have := (lek (b := 0) (by omega) (by decide)).mp x; omega
        rw [if_neg c2, if_neg c0, a1, mCall_some]
        exact ih (k + 1) (M + 1) B1 s1 t1 tk1 p1 (by omega) (by omega) (by omega) (by omega)
    unfold F_X9_canHaveBegunBy_J53
    rw [F_X10_isSo_L4, mInk (k := q) (by omega) (by decide), nnk (k := q) (by omega), g2, if_neg c, if10, hasN_in h1 g0 g1, mCall_some, ix24, mInk (k := 24 * q + k) (by omega) (by decide), nnk (k := 24 * q + k) (by omega), mLet_eq, z2, ← g3 k (by omega), ei]
    by_cases v : s (40 + 2 * q) k = -1000000005
    · rw [if_pos v, if_pos v, if00, a2, mCall_some]
      exact next
    · obtain ⟨m, m1, m2, m3⟩ := lit_eq2 hp
      obtain ⟨w, w1, w2⟩ := bits_eq (Z := Z) m1 s t
      rw [if_neg v, if_neg v, if10, mInk (k := k) (by omega) (by decide), nnk (k := k) (by omega), m2, m3, mCall_some, mCall_some, w1, w2, mCall_some, mCall_some]
      by_cases e : s (40 + 2 * q) k = w
      · rw [if_pos e, if_pos e, a2, mCall_some]
        exact next
      · rw [if_neg e, if_neg e, a2, mCall_some, F_X10_isSo_L4, mInk (k := q) (by omega) (by decide), nnk (k := q) (by omega), g2', c1, mCall_some, if00]
        refine ⟨0, s, t3, rfl, ?_, tk.mix tk3, fr3⟩
        split
        · rfl
        · rfl
theorem so_eq (hZ : Lay Z) {σ τ : gS} {N V T M B q L : Nat} (hq : q ≤ 3) (sq : SQ σ τ q L) {s t : gS} (tk : TK σ τ s t) (hp : HP Z s t 22 66 N V T M B) (hm : M ≤ 9999 ∧ B ≤ 1188 * M) : ∃ r s2 t2, F_X9_canHaveBegunBy_L34 Z (39 + 2 * q) mFuel 0 s = some (r, s2) ∧ F_X10_isSo Z (Int32.ofNat q) t = some (r, t2) ∧ TK σ τ s2 t2 ∧ FR τ t2 := by
  obtain ⟨g0, g1, g2, g3⟩ := tk.sq hq sq
  show ∃ r s2 t2, F_X9_canHaveBegunBy_L34 Z (39 + 2 * q) (4999 + 1) 0 s = some (r, s2) ∧ F_X10_isSo_L4 Z (Int32.ofNat q) (4999 + 1) 1 (Int32.ofNat 0) t = some (r, t2) ∧ TK σ τ s2 t2 ∧ FR τ t2
  rw [F_X9_canHaveBegunBy_L34, g1]
  by_cases hd : L ≤ 0
  · have c2 : Int32.ofNat L ≤ Int32.ofNat 0 := (lek (by omega) (by omega)).mpr hd
    have c3 : Int32.ofNat L ≤ 0 := c2
    obtain ⟨t3, c1, tk3, fr3⟩ := tk.puts hZ
    rw [F_X10_isSo_L4, mInk (k := q) (by omega) (by decide), nnk (k := q) (by omega), g2, if_pos c2, if_pos c3, c1, mCall_some]
    exact ⟨1, s, t3, rfl, rfl, tk3, fr3⟩
  · have c2 : ¬ Int32.ofNat L ≤ Int32.ofNat 0 := fun x => hd ((lek (by omega) (by omega)).mp x)
    have c3 : ¬ Int32.ofNat L ≤ 0 := c2
    rw [if_neg c3, if_pos (by decide)]
    exact so_L hZ hq sq 4999 0 M B s t tk hp (by omega) (by omega) (by omega) (by omega)
/-- the model lights one thing alone -/
theorem one_L {q N i : Nat} {w : Int32} {k30 : Int32 → Int32 → gS → Option (Int32 × gS)} (hN : N ≤ 12) (hi : i < N) (t : gS) (e1 : t 66 1 = Int32.ofNat N) : ∀ (n j : Nat) (u : gS), (∀ c, c ≠ 66 → u c = t c) → (∀ k, (∀ a, a < j → k ≠ 82 + 4 * a + 3) → u 66 k = t 66 k) → (∀ a, a < j → u 66 (82 + 4 * a + 3) = if a = i then 1 else 0) → j ≤ N → N - j < n → ∃ t2, F_X10_began_L43 Z k30 (Int32.ofNat q) n w (Int32.ofNat i) (Int32.ofNat j) u = mCall (F_X10_isSo Z (Int32.ofNat q) t2) (fun r1 s2 => if r1 = 0 then k30 w (Int32.ofNat (i + 1)) s2 else mCall (F_X10_of Z (Int32.ofNat i) 2 s2) (fun r4 s5 => if r4 ≤ 0 then k30 w (Int32.ofNat (i + 1)) s5 else k30 (w ||| (1 <<< (Int32.ofNat i &&& 31))) (Int32.ofNat (i + 1)) s5)) ∧ (∀ c, c ≠ 66 → t2 c = t c) ∧ (∀ k, (∀ a, a < N → k ≠ 82 + 4 * a + 3) → t2 66 k = t 66 k) ∧ ∀ a, a < N → t2 66 (82 + 4 * a + 3) = if a = i then 1 else 0 := by
  intro n
  induction n with
  | zero => intro j u h1 h2 h3 h4 h5; omega
  | succ n ih =>
    intro j u h1 h2 h3 h4 h5
    have ei : Int32.ofNat i + 1 = Int32.ofNat (i + 1) := addk i 1
    have ej : Int32.ofNat j + 1 = Int32.ofNat (j + 1) := addk j 1
    rw [F_X10_began_L43, h2 1 (fun a ha => by omega), e1]
    by_cases hd : N ≤ j
    · obtain rfl : j = N := by omega
      rw [if_pos ((lek (by omega) (by omega)).mpr hd)]
      simp only [mLet_eq, Int32.or_zero, ei]
      exact ⟨u, rfl, h1, h2, h3⟩
    · have cN : ¬ Int32.ofNat N ≤ Int32.ofNat j := fun x => hd ((lek (by omega) (by omega)).mp x)
      have p1 : ∀ v, F_X10_put Z (Int32.ofNat j) 3 v u = some (0, gu u 66 (82 + 4 * j + 3) v) := fun v => x10_put (w := 3) (by omega) (by decide)
      have key : ∀ v, (v = if j = i then 1 else 0) → ∃ t2, F_X10_began_L43 Z k30 (Int32.ofNat q) n w (Int32.ofNat i) (Int32.ofNat (j + 1)) (gu u 66 (82 + 4 * j + 3) v) = mCall (F_X10_isSo Z (Int32.ofNat q) t2) (fun r1 s2 => if r1 = 0 then k30 w (Int32.ofNat (i + 1)) s2 else mCall (F_X10_of Z (Int32.ofNat i) 2 s2) (fun r4 s5 => if r4 ≤ 0 then k30 w (Int32.ofNat (i + 1)) s5 else k30 (w ||| (1 <<< (Int32.ofNat i &&& 31))) (Int32.ofNat (i + 1)) s5)) ∧ (∀ c, c ≠ 66 → t2 c = t c) ∧ (∀ k, (∀ a, a < N → k ≠ 82 + 4 * a + 3) → t2 66 k = t 66 k) ∧ ∀ a, a < N → t2 66 (82 + 4 * a + 3) = if a = i then 1 else 0 := fun v hv => by
        refine ih (j + 1) _ (fun c hc => by rw [gu_ne _ _ _ hc]; exact h1 c hc) (fun k hk => ?_) (fun a ha => ?_) (by omega) (by omega)
        · rw [gu_off _ _ (Or.inr (hk j (by omega)))]; exact h2 k (fun a ha => hk a (by omega))
        · by_cases e : a = j
          · subst e; rw [gu_self, hv]
          · rw [gu_off _ _ (Or.inr (by omega))]; exact h3 a (by omega)
      rw [if_neg cN, p1, p1, mCall_some, mCall_some, ej]
      by_cases e : j = i
      · rw [if_pos (by rw [e])]
        exact key 1 (if_pos e).symm
      · rw [if_neg (fun x => e ((eqk (by omega) (by omega)).mp x))]
        exact key 0 (if_neg e).symm
theorem began_L (hZ : Lay Z) {σ τ : gS} {N V T M B q L : Nat} (hq : q ≤ 3) (sq : SQ σ τ q L) (hp : HP Z σ τ 4 66 N V T M B) (hm : M ≤ 9999 ∧ B ≤ 1188 * M) : ∀ (n i : Nat) (w : Int32) (s t : gS), TK σ τ s t → FR τ t → i ≤ N → N - i < n → ∃ r s2 t2, F_X9_began_L29 Z (Int32.ofNat q) n w (Int32.ofNat i) s = some (r, s2) ∧ F_X10_began_L30 Z (Int32.ofNat q) n w (Int32.ofNat i) t = some (r, t2) ∧ TK σ τ s2 t2 ∧ FR τ t2 := by
  have hN := hp.1.1
  have m5 : mFuel = 5000 := rfl
  intro n
  induction n with
  | zero => intro i w s t tk fr h1 h2; omega
  | succ n ih =>
    intro i w s t tk fr h1 h2
    have ei : Int32.ofNat i + 1 = Int32.ofNat (i + 1) := addk i 1
    have e9 : s 4 9 = Int32.ofNat N := by rw [tk.1 4 (by unfold pcl; omega)]; exact hp.2.1.1
    have t9 : t 66 1 = Int32.ofNat N := by rw [fr 1 (by omega)]; exact (hp.2.2.1 0 9 (by unfold dom; omega)).symm.trans hp.2.1.1
    rw [F_X9_began_L29, F_X10_began_L30, e9, t9]
    by_cases hd : N ≤ i
    · have c : Int32.ofNat N ≤ Int32.ofNat i := (lek (by omega) (by omega)).mpr hd
      rw [if_pos c, if_pos c]
      exact ⟨w, s, t, rfl, rfl, tk, fr⟩
    have c : ¬ Int32.ofNat N ≤ Int32.ofNat i := fun x => hd ((lek (by omega) (by omega)).mp x)
    obtain ⟨u, u1, u2, u3, u4⟩ := one_L (Z := Z) (q := q) (w := w) (i := i) (k30 := F_X10_began_L30 Z (Int32.ofNat q) n) hN (by omega) t t9 mFuel 0 t (fun _ _ => rfl) (fun _ _ => rfl) (fun a ha => by omega) (by omega) (by omega)
    have u1 : F_X10_began_L43 Z (F_X10_began_L30 Z (Int32.ofNat q) n) (Int32.ofNat q) mFuel w (Int32.ofNat i) 0 t = _ := u1
    obtain ⟨s1, a1, tk1, hp1⟩ := tk.anew fr hp
    obtain ⟨s2, b1, b2, b3⟩ := fillz_eq (Z := Z) (c := 26) (n := 12) (v := 0) (zl_at (hZ.at (i := 26) rfl)) (by decide) s1
    have hp3 : HP Z (gu s2 26 i 1) u 22 66 N V T M B := hp1.lits (by decide) (fun c hc => by rw [gu_ne _ _ _ hc]; exact b2 c hc) u3 (fun a ha => by
      rw [u4 a ha]
      by_cases e : a = i
      · subst e; rw [if_pos rfl, show gu s2 26 a 1 (22 + 4) a = 1 from gu_self _ _ _ _]; exact ⟨rfl, le_k (k := 1) (by omega)⟩
      · rw [if_neg e, show gu s2 26 i 1 (22 + 4) a = s2 26 a from gu_off _ _ (Or.inr e), b3 a (by omega)]; exact ⟨rfl, le_k (k := 0) (by omega)⟩)
    have tk3 : TK σ τ (gu s2 26 i 1) u := tk1.mf ⟨fun x hx _ => by rw [gu_ne _ _ _ (by omega)]; exact b2 x (by omega), fun x hx _ _ => u2 x hx⟩
    obtain ⟨r, s4, t4, c1, c2, tk4, fr4⟩ := so_eq hZ hq sq tk3 hp3 hm
    have zf : F_X10_of Z (Int32.ofNat i) 2 t4 = some (σ 7 i, t4) := by
      have z := (hp.2.2.1 3 i (by unfold dom; omega)).symm
      have z : τ 66 (82 + 4 * i + 2) = σ 7 i := z
      rw [← z, ← fr4 _ (by omega)]; exact x10_of (w := 2) (by omega) (by decide)
    have e7 : s 7 = σ 7 := tk.1 7 (by unfold pcl; omega)
    have cc : F_X9_canHaveBegunBy Z (Int32.ofNat i) (39 + 2 * q) s = some (r, s4) := by
      unfold F_X9_canHaveBegunBy
      rw [a1, mCall_some, b1, mCall_some, mInk (k := i) (by omega) (by decide), nnk (k := i) (by omega), mLet_eq]
      exact c1
    rw [if_neg c, if_neg c, mInk (k := i) (by omega) (by decide), nnk (k := i) (by omega), mSh_eq hq, cc, mCall_some, u1, c2, mCall_some, zf, mCall_some, e7, ei]
    by_cases f0 : σ 7 i ≤ 0
    · rw [if_pos f0, if_pos f0, ite_self]
      exact ih (i + 1) w s t4 (tk.mix tk4) fr4 (by omega) (by omega)
    · rw [if_neg f0, if_neg f0]
      by_cases r0 : r = 0
      · rw [if_pos r0, if_pos r0]
        exact ih (i + 1) w s4 t4 tk4 fr4 (by omega) (by omega)
      · rw [if_neg r0, if_neg r0, mLet_eq]
        exact ih (i + 1) _ s4 t4 tk4 fr4 (by omega) (by omega)
theorem sim_began (hZ : Lay Z) (x : Int32) : Sim Z (F_X9_began Z x) (F_X10_began Z x) := by
  intro σ τ hr
  obtain ⟨⟨N, V, T, M, B, hp, hm, -⟩, sh, -⟩ := id hr
  have hN := hp.1.1
  have m5 : mFuel = 5000 := rfl
  unfold F_X9_began F_X10_began
  rw [x9_isSheet, x10_isSheet, mCall_some, mCall_some]
  rcases rng x 3 (by decide) with ⟨q, hq, rfl⟩ | ho
  rotate_left
  · rw [wi_out (a := 0) (b := 3) ho, if00, if00]; exact same hr rfl rfl
  have e1 : wi (Int32.ofNat q) 0 3 = 1 := wi_in (b := 3) hq (by decide)
  obtain ⟨a1, a2, ⟨L, hL, a3⟩, a4, a5⟩ := sh q (by omega)
  rw [e1, if10, if10, mSh_eq hq, mInk (k := q) (by omega) (by decide), nnk (k := q) (by omega)]
  rcases miss_eq (Z := Z) sh hq with ⟨-, m1, m2, -⟩ | ⟨m0, m1, m2, -⟩
  · rw [m1, if_neg m2, mCall_some, if10]; exact same hr rfl rfl
  obtain ⟨t, b1, tk, fr⟩ := thinks_eq hZ σ τ
  rw [m1, if_pos m2, mCall_some, if00, b1, mCall_some]
  obtain ⟨r, s2, t2, c1, c2, tk2, fr2⟩ := began_L hZ hq ⟨hL, a3, a4.symm.trans a3, a5⟩ hp hm mFuel 0 0 σ t tk fr (by omega) (by omega)
  exact tk2.fin fr2 hr c1 c2
end
