section
variable {Z : List gH}
theorem try_eq (hZ : Lay Z) {σ τ s t : gS} {N V T M B m L : Nat} (tk : TK σ τ s t) (hp : HP Z s t 22 66 N V T M B) (hL : L < 2 ^ 31) (hm : m ≤ 100) (hM : M ≤ 9999) (hB : B ≤ 1188 * M) : ∃ s2 t2 Bc Bm, F_X9_thinkOn Z (Int32.ofNat m) (Int32.ofNat L) s = some (Int32.ofNat Bc, s2) ∧ F_X10_burntBy Z (Int32.ofNat m) t = some (Int32.ofNat Bm, t2) ∧ TK σ τ s2 t2 ∧ FR τ t2 ∧ (Bc ≤ Bm ∧ Bm ≤ 30000000) ∧ (Bc = Bm ∨ L ≤ Bc) := by
  have m5 : mFuel = 5000 := rfl
  obtain ⟨s2, t2, Bc, Bm, a2, b2, b3, f, l1, q⟩ := think_L (Z := Z) (m := m) (L := L) hL (by omega) mFuel 0 M B s t hp (by omega) (by omega) (by omega) (by omega)
  have b2 : F_X10_goesOn Z (Int32.ofNat m) t = some (0, t2) := b2
  obtain ⟨t3, c1, tk3, fr3⟩ := (tk.mf f).puts hZ
  refine ⟨s2, t3, Bc, Bm, a2, ?_, tk3, fr3, l1, q.imp (fun q => q.1) id⟩
  unfold F_X10_burntBy
  rw [b2, mCall_some, b3, mLet_eq, c1, mCall_some]
theorem hired_L (hZ : Lay Z) {σ τ : gS} {N V T M B k : Nat} {y : Int32} (hp : HP Z σ τ 4 66 N V T M B) (hm : M ≤ 9999 ∧ B ≤ 1188 * M) (hk : k ≤ 100) : ∀ (n w : Nat) (l3 l4 : Int32) (s t : gS), TK σ τ s t → FR τ t → w ≤ 110 → 110 - w < n → ∃ r s2 t2, F_X9_hired_L30 Z (Int32.ofNat k) y n l3 l4 (Int32.ofNat w) s = some (r, s2) ∧ F_X10_hired_L34 Z (Int32.ofNat k) y n l3 l4 (Int32.ofNat w) t = some (r, t2) ∧ TK σ τ s2 t2 ∧ FR τ t2 := by
  intro n
  induction n with
  | zero => intro w l3 l4 s t tk fr h1 h2; omega
  | succ n ih =>
    intro w l3 l4 s t tk fr h1 h2
    have ei : Int32.ofNat w + 10 = Int32.ofNat (w + 10) := addk w 10
    rw [F_X9_hired_L30, F_X10_hired_L34]
    by_cases hd : 100 < w
    · have c : (100 : Int32) < Int32.ofNat w := (ltk (a := 100) (by omega) (by omega)).mpr hd
      rw [if_pos c, if_pos c]
      by_cases hy : y = 0
      · rw [if_pos hy, if_pos hy]; exact ⟨_, s, t, rfl, rfl, tk, fr⟩
      · rw [if_neg hy, if_neg hy]; exact ⟨_, s, t, rfl, rfl, tk, fr⟩
    · have c : ¬ (100 : Int32) < Int32.ofNat w := fun q => hd ((ltk (a := 100) (by omega) (by omega)).mp q)
      obtain ⟨s1, a1, tk1, hp1⟩ := tk.anew fr hp
      have hp2 := hp1.upd (by omega) (j := 0) (i := 12) (v := Int32.ofNat w) (by unfold dom; omega) (by unfold okv; omega)
      have tk2 := tk1.mf (MF.put (h := 22) (j := 0) (i := 12) (k := 3) (v := Int32.ofNat w) (w := Int32.ofNat w) (by omega))
      obtain ⟨s2, t2, Bc, Bm, a2, b2, tk3, fr3, l1, q⟩ := try_eq hZ (m := k) (L := 2147483647) tk2 hp2 (by decide) hk hm.1 hm.2
      have a2 : F_X9_thinkOn Z (Int32.ofNat k) 2147483647 (gu s1 22 12 (Int32.ofNat w)) = some (Int32.ofNat Bc, s2) := a2
      have b2 : F_X10_burntBy Z (Int32.ofNat k) (gu t 66 3 (Int32.ofNat w)) = some (Int32.ofNat Bm, t2) := b2
      obtain rfl : Bc = Bm := by omega
      rw [if_neg c, if_neg c, a1, mCall_some, mLet_eq, mLet_eq, a2, b2, mCall_some, mCall_some]
      unfold F_X10_hired_J69
      rw [ei]
      by_cases hq : Int32.ofNat Bc ≤ l4
      · simp only [if_pos hq]
        exact ih (w + 10) _ _ s2 t2 tk3 fr3 (by omega) (by omega)
      · simp only [if_neg hq]
        exact ih (w + 10) _ _ s2 t2 tk3 fr3 (by omega) (by omega)
theorem sim_hired (hZ : Lay Z) (x y : Int32) : Sim Z (F_X9_hired Z x y) (F_X10_hired Z x y) := by
  intro σ τ hr
  obtain ⟨N, V, T, M, B, hp, hm, -⟩ := hr.1
  have m5 : mFuel = 5000 := rfl
  unfold F_X9_hired F_X10_hired
  rw [x9_within, x10_in, mCall_some, mCall_some, x9_within, x10_in, mCall_some, mCall_some]
  by_cases hw : wi x 1 60 = 0
  · rw [if_pos hw, if_pos hw]; exact same hr rfl rfl
  rw [if_neg hw, if_neg hw]
  obtain ⟨k, hk, rfl⟩ : ∃ k, k ≤ 60 ∧ x = Int32.ofNat k := by
    rcases rng2 x 1 60 (by decide) (by decide) with ⟨k, -, hk, rfl⟩ | ho
    · exact ⟨k, hk, rfl⟩
    · exact absurd (wi_out ho) hw
  by_cases hy : wi y 0 1 = 0
  · rw [if_pos hy, if_pos hy]; exact same hr rfl rfl
  rw [if_neg hy, if_neg hy]
  obtain ⟨t, b1, tk, fr⟩ := thinks_eq hZ σ τ
  obtain ⟨r, s2, t2, c1, c2, tk2, fr2⟩ := hired_L (y := y) (k := k) hZ hp hm (by omega) mFuel 0 0 (-1) σ t tk fr (by omega) (by omega)
  rw [b1, mCall_some]
  exact tk2.fin fr2 hr c1 c2
theorem becomes_L (hZ : Lay Z) {σ τ : gS} {N V T M B k m : Nat} {y : Int32} (hp : HP Z σ τ 4 66 N V T M B) (hm : M ≤ 9999 ∧ B ≤ 1188 * M) (hk : k < N) (hq : m ≤ 100) : ∀ (n w L : Nat) (l4 m5 : Int32) (s t : gS), TK σ τ s t → FR τ t → ((L = 2147483647 ∧ m5 = -1 ∧ w < 6) ∨ (L ≤ 30000000 ∧ m5 = Int32.ofNat L)) → w ≤ 6 → 6 - w < n → ∃ r s2 t2, F_X9_becomes_L40 Z (Int32.ofNat k) (Int32.ofNat m) y n l4 (Int32.ofNat L) (Int32.ofNat w) s = some (r, s2) ∧ F_X10_becomes_L43 Z (Int32.ofNat k) (Int32.ofNat m) y n l4 m5 (Int32.ofNat w) t = some (r, t2) ∧ TK σ τ s2 t2 ∧ FR τ t2 := by
  have hN := hp.1.1
  intro n
  induction n with
  | zero => intro w L l4 m5 s t tk fr hb h1 h2; omega
  | succ n ih =>
    intro w L l4 m5 s t tk fr hb h1 h2
    have ei : Int32.ofNat w + 1 = Int32.ofNat (w + 1) := addk w 1
    rw [F_X9_becomes_L40, F_X10_becomes_L43]
    by_cases hd : 6 ≤ w
    · have c : (6 : Int32) ≤ Int32.ofNat w := (lek (a := 6) (by omega) (by omega)).mpr hd
      have c2 : (5 : Int32) < Int32.ofNat w := (ltk (a := 5) (by omega) (by omega)).mpr (by omega)
      rw [if_pos c, if_pos c2]
      rcases hb with ⟨-, -, hb⟩ | ⟨-, rfl⟩
      · omega
      by_cases hy : y = 0
      · rw [if_pos hy, if_pos hy]; exact ⟨_, s, t, rfl, rfl, tk, fr⟩
      · rw [if_neg hy, if_neg hy]; exact ⟨_, s, t, rfl, rfl, tk, fr⟩
    · have c : ¬ (6 : Int32) ≤ Int32.ofNat w := fun q => hd ((lek (a := 6) (by omega) (by omega)).mp q)
      have c2 : ¬ (5 : Int32) < Int32.ofNat w := fun q => hd ((ltk (a := 5) (by omega) (by omega)).mp q)
      obtain ⟨s1, a1, tk1, hp1⟩ := tk.anew fr hp
      have hp2 := hp1.upd (by omega) (j := 1) (i := k) (v := Int32.ofNat w) (by unfold dom; omega) (okj (m := 5) (by omega) k (le_k (by omega)))
      have tk2 := tk1.mf (MF.put (h := 22) (j := 1) (i := k) (k := 82 + 4 * k) (v := Int32.ofNat w) (w := Int32.ofNat w) (by omega))
      obtain ⟨s2, t2, Bc, Bm, a2, b2, tk3, fr3, l1, q⟩ := try_eq hZ (m := m) (L := L) tk2 hp2 (by omega) hq hm.1 hm.2
      have a2 : F_X9_thinkOn Z (Int32.ofNat m) (Int32.ofNat L) (gu s1 23 k (Int32.ofNat w)) = some (Int32.ofNat Bc, s2) := a2
      have b2 : F_X10_burntBy Z (Int32.ofNat m) (gu t 66 (82 + 4 * k + 0) (Int32.ofNat w)) = some (Int32.ofNat Bm, t2) := b2
      have b0 : F_X10_put Z (Int32.ofNat k) 0 (Int32.ofNat w) t = some (0, gu t 66 (82 + 4 * k + 0) (Int32.ofNat w)) := x10_put (w := 0) (by omega) (by decide)
      rw [if_neg c, if_neg c2, a1, mCall_some, mInk (k := k) (by omega) (by decide), nnk (k := k) (by omega), mLet_eq, b0, mCall_some, a2, b2, mCall_some, mCall_some]
      unfold F_X10_becomes_J95
      rw [ei]
      simp only [if10, if00]
      rcases hb with ⟨rfl, rfl, -⟩ | ⟨hb, rfl⟩
      · obtain rfl : Bc = Bm := by omega
        have cc : ¬ Int32.ofNat 2147483647 ≤ Int32.ofNat Bc := fun q => by have := (lek (by omega) (by omega)).mp q; omega
        rw [if_neg cc, if_pos (show (-1 : Int32) < 0 by decide)]
        exact ih (w + 1) Bc _ _ s2 t2 tk3 fr3 (Or.inr ⟨by omega, rfl⟩) (by omega) (by omega)
      · rw [if_neg (lt0k (by omega))]
        by_cases hc : L ≤ Bc
        · rw [if_pos ((lek (by omega) (by omega)).mpr hc), if_pos ((lek (by omega) (by omega)).mpr (by omega : L ≤ Bm))]
          exact ih (w + 1) L _ _ s2 t2 tk3 fr3 (Or.inr ⟨by omega, rfl⟩) (by omega) (by omega)
        · obtain rfl : Bc = Bm := by omega
          have cc : ¬ Int32.ofNat L ≤ Int32.ofNat Bc := fun q => hc ((lek (by omega) (by omega)).mp q)
          rw [if_neg cc, if_neg cc]
          exact ih (w + 1) Bc _ _ s2 t2 tk3 fr3 (Or.inr ⟨by omega, rfl⟩) (by omega) (by omega)
theorem sim_becomes (hZ : Lay Z) (x y z : Int32) : Sim Z (F_X9_becomes Z x y z) (F_X10_becomes Z x y z) := by
  intro σ τ hr
  obtain ⟨N, V, T, M, B, hp, hm, -⟩ := hr.1
  have hN := hp.1.1
  have e9 : σ 4 9 = Int32.ofNat N := hp.2.1.1
  have t9 : τ 66 1 = Int32.ofNat N := (hp.2.2.1 0 9 (by unfold dom; omega)).symm.trans e9
  have m5 : mFuel = 5000 := rfl
  unfold F_X9_becomes F_X10_becomes
  simp only [x9_isThing, x10_isThing, x9_within, x10_in, mCall_some, e9, t9]
  rcases rngN x N (by omega) with ⟨k, hk, rfl⟩ | ho
  rotate_left
  · rw [wi_out ho, if00, if00]; exact same hr rfl rfl
  rw [wi_inN hk (by omega), if10, if10]
  by_cases hw : wi y 1 60 = 0
  · rw [if_pos hw, if_pos hw]; exact same hr rfl rfl
  rw [if_neg hw, if_neg hw]
  obtain ⟨m, hq, rfl⟩ : ∃ k, k ≤ 60 ∧ y = Int32.ofNat k := by
    rcases rng2 y 1 60 (by decide) (by decide) with ⟨k, -, hk, rfl⟩ | ho
    · exact ⟨k, hk, rfl⟩
    · exact absurd (wi_out ho) hw
  by_cases hy : wi z 0 1 = 0
  · rw [if_pos hy, if_pos hy]; exact same hr rfl rfl
  rw [if_neg hy, if_neg hy]
  obtain ⟨t, b1, tk, fr⟩ := thinks_eq hZ σ τ
  obtain ⟨r, s2, t2, c1, c2, tk2, fr2⟩ := becomes_L (y := z) (k := k) (m := m) hZ hp hm hk (by omega) mFuel 0 2147483647 0 (-1) σ t tk fr (Or.inl ⟨rfl, rfl, by omega⟩) (by omega) (by omega)
  rw [b1, mCall_some]
  exact tk2.fin fr2 hr c1 c2
/-- the best door so far, on both sides -/
def BD (l3 l4 m3 m4 : Int32) (L : Nat) : Prop := (l3 = -1000000005 ∧ l4 = -1000000005 ∧ L = 2147483647 ∧ m3 = -1000000005 ∧ m4 = -1000000005) ∨ ∃ a b, a < 8 ∧ b < 8 ∧ L ≤ 30000000 ∧ l3 = Int32.ofNat a ∧ l4 = Int32.ofNat b ∧ m3 = Int32.ofNat (8 * a + b) ∧ m4 = Int32.ofNat L
theorem shut_skip {x y m3 m4 : Int32} {a : Nat} (ha : a < 8) (t : gS) : ∀ (d b n : Nat), b + d = a + 1 → F_X10_shut_L36 Z x y (n + d) m3 m4 (Int32.ofNat (8 * a + b)) t = F_X10_shut_L36 Z x y n m3 m4 (Int32.ofNat (8 * a + (a + 1))) t := by
  intro d
  induction d with
  | zero => intro b n h; obtain rfl : b = a + 1 := by omega
            rfl
  | succ d ih =>
    intro b n h
    have ei : Int32.ofNat (8 * a + b) + 1 = Int32.ofNat (8 * a + (b + 1)) := addk (8 * a + b) 1
    have r1 : mRem (Int32.ofNat (8 * a + b)) 8 = Int32.ofNat b := (remk (m := 8) (by omega) (by decide) (by decide)).trans (by congr 1; omega)
    have r2 : Int32.ofNat (8 * a + b) / 8 = Int32.ofNat a := (divk (b := 8) (by omega) (by decide)).trans (by congr 1; omega)
    show F_X10_shut_L36 Z x y ((n + d) + 1) m3 m4 _ t = _
    rw [F_X10_shut_L36, r1, r2, if_neg (fun q => by have := (lek (a := 64) (by decide) (by omega)).mp q; omega), if_pos ((lek (by omega) (by omega)).mpr (by omega)), ei]
    exact ih (b + 1) n (by omega)
end
