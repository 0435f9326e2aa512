section
variable {Z : List gH}
/-- the model's minutes, beside a house of the class -/
theorem goes_L {h N V T m : Nat} (hh : h + 8 < 65) (hh3 : 3 < h) (hm : m < 2 ^ 30) : ∀ (n i M B : Nat) (σ τ : gS), HP Z σ τ h 66 N V T M B → i ≤ m → m - i < n → M + (m - i) ≤ 20000 → B + 1188 * (m - i) ≤ 30000000 → ∃ σ2 τ2 B2, F_X10_goesOn_L2 Z (Int32.ofNat m) n (Int32.ofNat i) τ = some (0, τ2) ∧ HP Z σ2 τ2 h 66 N V T (M + (m - i)) B2 ∧ B ≤ B2 ∧ B2 ≤ B + 1188 * (m - i) ∧ MF h σ σ2 τ τ2 := by
  intro n
  induction n with
  | zero => intro i M B σ τ hp h1 h2; omega
  | succ n ih =>
    intro i M B σ τ hp h1 h2 h3 h4
    have ei : Int32.ofNat i + 1 = Int32.ofNat (i + 1) := addk i 1
    rw [F_X10_goesOn_L2]
    by_cases hd : m ≤ i
    · have c : Int32.ofNat m ≤ Int32.ofNat i := (lek (by omega) (by omega)).mpr hd
      rw [if_pos c]
      refine ⟨σ, τ, B, rfl, ?_, by omega, by omega, MF.rf⟩
      have e : M + (m - i) = M := by omega
      rw [e]; exact hp
    · have c : ¬ Int32.ofNat m ≤ Int32.ofNat i := fun q => hd ((lek (by omega) (by omega)).mp q)
      obtain ⟨s1, t1, B1, b1, b2, a1, a2, p1, f1⟩ := minute_eq hp (by omega) (by omega) (by omega) (by omega)
      obtain ⟨s2, t2, B2, c1, c2, c3, c4, c5⟩ := ih (i + 1) (M + 1) B1 s1 t1 p1 (by omega) (by omega) (by omega) (by omega)
      rw [if_neg c, a2, mCall_some, ei]
      have e : M + 1 + (m - (i + 1)) = M + (m - i) := by omega
      rw [e] at c2
      exact ⟨s2, t2, B2, c1, c2, by omega, by omega, MF.trans f1 c5⟩
theorem think_L {N V T m L : Nat} (hL : L < 2 ^ 31) (hm : m < 2 ^ 30) : ∀ (n i M B : Nat) (σ τ : gS), HP Z σ τ 22 66 N V T M B → i ≤ m → m - i < n → M + (m - i) ≤ 20000 → B + 1188 * (m - i) ≤ 30000000 → ∃ σ2 τ2 Bc Bm, F_X9_thinkOn_L2 Z (Int32.ofNat m) (Int32.ofNat L) n (Int32.ofNat i) σ = some (Int32.ofNat Bc, σ2) ∧ F_X10_goesOn_L2 Z (Int32.ofNat m) n (Int32.ofNat i) τ = some (0, τ2) ∧ τ2 66 6 = Int32.ofNat Bm ∧ MF 22 σ σ2 τ τ2 ∧ (Bc ≤ Bm ∧ Bm ≤ 30000000) ∧ ((Bc = Bm ∧ ∃ M2, HP Z σ2 τ2 22 66 N V T M2 Bm) ∨ L ≤ Bc) := by
  intro n
  induction n with
  | zero => intro i M B σ τ hp h1 h2; omega
  | succ n ih =>
    intro i M B σ τ hp h1 h2 h3 h4
    have ei : Int32.ofNat i + 1 = Int32.ofNat (i + 1) := addk i 1
    have hB := hp.1.2.2.2.2
    have e14 : σ 22 14 = Int32.ofNat B := hp.2.1.2.2.2.2.1
    have t6 : ∀ {s t : gS} {N V T M B : Nat}, HP Z s t 22 66 N V T M B → t 66 6 = Int32.ofNat B := fun hp => (hp.2.2.1 0 14 (by unfold dom; omega)).symm.trans hp.2.1.2.2.2.2.1
    by_cases hd : m ≤ i
    · have c : Int32.ofNat m ≤ Int32.ofNat i := (lek (by omega) (by omega)).mpr hd
      rw [F_X9_thinkOn_L2, F_X10_goesOn_L2, if_pos c, if_pos c, e14]
      exact ⟨σ, τ, B, B, rfl, rfl, t6 hp, MF.rf, ⟨by omega, by omega⟩, Or.inl ⟨rfl, M, hp⟩⟩
    · have c : ¬ Int32.ofNat m ≤ Int32.ofNat i := fun q => hd ((lek (by omega) (by omega)).mp q)
      by_cases hl : L ≤ B
      · obtain ⟨s2, t2, B2, c1, c2, c3, c4, c5⟩ := goes_L (Z := Z) (h := 22) (by decide) (by decide) hm (n + 1) i M B σ τ hp h1 h2 h3 h4
        rw [F_X9_thinkOn_L2, if_neg c, e14, if_pos ((lek (by omega) (by omega)).mpr hl)]
        exact ⟨σ, t2, B, B2, rfl, c1, t6 c2, ⟨fun _ _ _ => rfl, c5.2⟩, ⟨c3, by omega⟩, Or.inr hl⟩
      · obtain ⟨s1, t1, B1, b1, b2, a1, a2, p1, f1⟩ := minute_eq hp (by omega) (by omega) (by omega) (by omega)
        obtain ⟨s2, t2, Bc, Bm, c1, c2, c3, c4, c5, c6⟩ := ih (i + 1) (M + 1) B1 s1 t1 p1 (by omega) (by omega) (by omega) (by omega)
        rw [F_X9_thinkOn_L2, F_X10_goesOn_L2, if_neg c, if_neg c, e14, if_neg (fun q => hl ((lek (by omega) (by omega)).mp q)), a1, a2, mCall_some, mCall_some, ei]
        exact ⟨s2, t2, Bc, Bm, c1, c2, c3, MF.trans f1 c4, c5, c6⟩
theorem sim_behind (hZ : Lay Z) (x y : Int32) : Sim Z (F_X9_behind Z x y) (F_X10_behind Z x y) := by
  intro σ τ hr
  obtain ⟨N, V, T, M, B, hp, hm, -⟩ := hr.1
  have m5 : mFuel = 5000 := rfl
  unfold F_X9_behind F_X10_behind
  rw [x9_within, x10_in, mCall_some, mCall_some, x9_within, x10_in]
  rcases rng x 100 (by decide) with ⟨k, hk, rfl⟩ | ho
  rotate_left
  · rw [wi_out (a := 0) (b := 100) ho, if00, if00]; exact same hr rfl rfl
  have e : wi (Int32.ofNat k) 0 100 = 1 := wi_in (b := 100) hk (by decide)
  rw [e, if10, if10, mCall_some, mCall_some]
  rcases rng y 11 (by decide) with ⟨w, hw, rfl⟩ | ho
  rotate_left
  · rw [wi_out (a := 0) (b := 11) ho, if00, if00]; exact same hr rfl rfl
  have e2 : wi (Int32.ofNat w) 0 11 = 1 := wi_in (b := 11) hw (by decide)
  rw [e2, if10, if10]
  obtain ⟨t, b1, tk, fr⟩ := thinks_eq hZ σ τ
  obtain ⟨s, a1, tk, hp1⟩ := tk.anew fr hp
  rw [a1, b1, mCall_some, mCall_some]
  obtain ⟨s2, t2, Bc, Bm, a2, b2, b3, f, l1, q⟩ := think_L (Z := Z) (m := k) (L := 2147483647) (by decide) (by omega) mFuel 0 M B s t hp1 (by omega) (by omega) (by omega) (by omega)
  have a2 : F_X9_thinkOn Z (Int32.ofNat k) 2147483647 s = some (Int32.ofNat Bc, s2) := a2
  have b2 : F_X10_goesOn Z (Int32.ofNat k) t = some (0, t2) := b2
  rcases q with ⟨rfl, M2, hp2⟩ | q
  rotate_left
  · omega
  obtain ⟨r1, u1, v1⟩ := lit_eq hp2
  obtain ⟨r2, u2, v2⟩ := allHeat_eq hp2
  obtain ⟨t3, c1, tk3, fr3⟩ := (tk.mf f).puts hZ
  have j : ∀ v, F_X10_behind_J84 Z v t2 = some (v, t3) := fun v => by unfold F_X10_behind_J84; rw [c1, mCall_some]
  have z14 : t2 66 6 = s2 22 14 := (hp2.2.2.1 0 14 (by unfold dom; omega)).symm
  have z15 : t2 66 7 = s2 22 15 := (hp2.2.2.1 0 15 (by unfold dom; omega)).symm
  rw [a2, b2, mCall_some, mCall_some, u1, v1, u2, v2, mCall_some, mCall_some, mCall_some, mCall_some, j, j]
  by_cases w0 : w = 0
  · subst w0
    rw [if_pos (show Int32.ofNat 0 = 0 from rfl), if_neg (show ¬ (2 : Int32) ≤ Int32.ofNat 0 by decide)]
    exact tk3.fin fr3 hr rfl (by rw [← z14]; exact j _)
  by_cases w1 : w = 1
  · subst w1
    rw [if_neg (show ¬ Int32.ofNat 1 = 0 by decide), if_pos (show Int32.ofNat 1 = 1 from rfl), if_neg (show ¬ (2 : Int32) ≤ Int32.ofNat 1 by decide)]
    exact tk3.fin fr3 hr rfl (by rw [← z15]; exact j _)
  have n0 : ¬ Int32.ofNat w = 0 := fun q => w0 ((eqk (b := 0) (by omega) (by decide)).mp q)
  have n1 : ¬ Int32.ofNat w = 1 := fun q => w1 ((eqk (b := 1) (by omega) (by decide)).mp q)
  have n2 : (2 : Int32) ≤ Int32.ofNat w := (lek (a := 2) (by decide) (by omega)).mpr (by omega)
  rw [if_neg n0, if_neg n1, if_pos n2]
  by_cases w2 : w = 2
  · subst w2
    rw [if_pos (show Int32.ofNat 2 = 2 from rfl), if_pos (show Int32.ofNat 2 = 2 from rfl)]
    exact tk3.fin fr3 hr rfl rfl
  have n2 : ¬ Int32.ofNat w = 2 := fun q => w2 ((eqk (b := 2) (by omega) (by decide)).mp q)
  rw [if_neg n2, if_neg n2]
  by_cases w3 : w = 3
  · subst w3
    rw [if_pos (show Int32.ofNat 3 = 3 from rfl), if_pos (show Int32.ofNat 3 = 3 from rfl)]
    exact tk3.fin fr3 hr rfl rfl
  have n3 : ¬ Int32.ofNat w = 3 := fun q => w3 ((eqk (b := 3) (by omega) (by decide)).mp q)
  have i1 : Int32.ofNat w - 4 = Int32.ofNat (w - 4) := subk (b := 4) (by omega)
  have i2 : (10 + Int32.ofNat w) - 4 = Int32.ofNat (10 + (w - 4)) := by
    rw [show (10 : Int32) + Int32.ofNat w = Int32.ofNat (10 + w) from addk 10 w]
    refine (subk (b := 4) (by omega)).trans ?_
    congr 1; omega
  have z5 : t2 66 (10 + (w - 4)) = s2 27 (w - 4) := (hp2.2.2.1 5 (w - 4) (by unfold dom; omega)).symm
  rw [if_neg n3, if_neg n3, i1, i2, mInk (k := w - 4) (by omega) (by decide), mInk (k := 10 + (w - 4)) (by omega) (by decide), nnk (k := w - 4) (by omega), nnk (k := 10 + (w - 4)) (by omega), z5, j]
  exact tk3.fin fr3 hr rfl rfl
theorem out_L (hZ : Lay Z) {σ τ : gS} {N V T : Nat} : ∀ (n i M B : Nat) (s t : gS), TK σ τ s t → HP Z s t 22 66 N V T M B → i ≤ 201 → 201 - i < n → M + (201 - i) ≤ 20000 → B + 1188 * (201 - i) ≤ 30000000 → ∃ r s2 t2, F_X9_out_L13 Z n (Int32.ofNat i) s = some (r, s2) ∧ F_X10_out_L6 Z n (Int32.ofNat i) t = some (r, t2) ∧ TK σ τ s2 t2 ∧ FR τ t2 := by
  intro n
  induction n with
  | zero => intro i M B s t tk hp h1 h2; omega
  | succ n ih =>
    intro i M B s t tk hp h1 h2 h3 h4
    have ei : Int32.ofNat i + 1 = Int32.ofNat (i + 1) := addk i 1
    obtain ⟨t3, c1, tk3, fr3⟩ := tk.puts hZ
    obtain ⟨r1, u1, v1⟩ := lit_eq hp
    rw [F_X9_out_L13, F_X10_out_L6]
    simp only [u1, v1, c1, mCall_some]
    by_cases hd : 200 < i
    · have c : (200 : Int32) < Int32.ofNat i := (ltk (a := 200) (by omega) (by omega)).mpr hd
      rw [if_pos c, if_pos c, if_pos c]
      exact ⟨_, s, t3, rfl, rfl, tk3, fr3⟩
    · have c : ¬ (200 : Int32) < Int32.ofNat i := fun q => hd ((ltk (a := 200) (by omega) (by omega)).mp q)
      rw [if_neg c, if_neg c, if_neg c]
      by_cases hl : r1 = 0
      · rw [if_pos hl, if_pos hl]
        exact ⟨_, s, t3, rfl, rfl, tk3, fr3⟩
      · obtain ⟨s1, t1, B1, b1, b2, a1, a2, p1, f1⟩ := minute_eq hp (by omega) (by omega) (by omega) (by omega)
        rw [if_neg hl, if_neg hl, a1, a2, mCall_some, mCall_some, ei]
        exact ih (i + 1) (M + 1) B1 s1 t1 (tk.mf f1) p1 (by omega) (by omega) (by omega) (by omega)
theorem sim_out (hZ : Lay Z) : Sim Z (F_X9_out Z) (F_X10_out Z) := by
  intro σ τ hr
  obtain ⟨N, V, T, M, B, hp, hm, -⟩ := hr.1
  have m5 : mFuel = 5000 := rfl
  obtain ⟨t, b1, tk, fr⟩ := thinks_eq hZ σ τ
  obtain ⟨s, a1, tk, hp1⟩ := tk.anew fr hp
  obtain ⟨r, s2, t2, c1, c2, tk2, fr2⟩ := out_L hZ mFuel 0 M B s t tk hp1 (by omega) (by omega) (by omega) (by omega)
  unfold F_X9_out F_X10_out
  rw [a1, b1, mCall_some, mCall_some]
  exact tk2.fin fr2 hr c1 c2
theorem hot_L (hZ : Lay Z) {σ τ : gS} {N V T k : Nat} (hk : k ≤ 7) : ∀ (n i M B : Nat) (s t : gS), TK σ τ s t → HP Z s t 22 66 N V T M B → i ≤ 201 → 201 - i < n → M + (201 - i) ≤ 20000 → B + 1188 * (201 - i) ≤ 30000000 → ∃ r s2 t2, F_X9_hot_L23 Z (Int32.ofNat k) n (Int32.ofNat i) s = some (r, s2) ∧ F_X10_hot_L16 Z (Int32.ofNat k) n (Int32.ofNat i) t = some (r, t2) ∧ TK σ τ s2 t2 ∧ FR τ t2 := by
  intro n
  induction n with
  | zero => intro i M B s t tk hp h1 h2; omega
  | succ n ih =>
    intro i M B s t tk hp h1 h2 h3 h4
    have ei : Int32.ofNat i + 1 = Int32.ofNat (i + 1) := addk i 1
    have ek : (10 : Int32) + Int32.ofNat k = Int32.ofNat (10 + k) := addk 10 k
    obtain ⟨t3, c1, tk3, fr3⟩ := tk.puts hZ
    have z5 : t 66 (10 + k) = s 27 k := (hp.2.2.1 5 k (by unfold dom; omega)).symm
    rw [F_X9_hot_L23, F_X10_hot_L16]
    simp only [c1, mCall_some]
    rw [ek, mInk (k := k) (by omega) (by decide), mInk (k := 10 + k) (by omega) (by decide), nnk (k := k) (by omega), nnk (k := 10 + k) (by omega), z5]
    by_cases hd : 200 < i
    · have c : (200 : Int32) < Int32.ofNat i := (ltk (a := 200) (by omega) (by omega)).mpr hd
      rw [if_pos c, if_pos c, if_pos c]
      exact ⟨_, s, t3, rfl, rfl, tk3, fr3⟩
    · have c : ¬ (200 : Int32) < Int32.ofNat i := fun q => hd ((ltk (a := 200) (by omega) (by omega)).mp q)
      rw [if_neg c, if_neg c, if_neg c]
      by_cases hl : (50 : Int32) ≤ s 27 k
      · rw [if_pos hl, if_neg (Int32.not_lt.mpr hl)]
        exact ⟨_, s, t3, rfl, rfl, tk3, fr3⟩
      · obtain ⟨s1, t1, B1, b1, b2, a1, a2, p1, f1⟩ := minute_eq hp (by omega) (by omega) (by omega) (by omega)
        rw [if_neg hl, if_pos (Int32.not_le.mp hl), a1, a2, mCall_some, mCall_some, ei]
        exact ih (i + 1) (M + 1) B1 s1 t1 (tk.mf f1) p1 (by omega) (by omega) (by omega) (by omega)
theorem sim_hot (hZ : Lay Z) (x : Int32) : Sim Z (F_X9_hot Z x) (F_X10_hot Z x) := by
  intro σ τ hr
  obtain ⟨N, V, T, M, B, hp, hm, -⟩ := hr.1
  have m5 : mFuel = 5000 := rfl
  unfold F_X9_hot F_X10_hot
  rw [x9_isRoom, x10_isRoom, mCall_some, mCall_some]
  rcases rng x 7 (by decide) with ⟨k, hk, rfl⟩ | ho
  rotate_left
  · rw [wi_out (a := 0) (b := 7) ho, if00, if00]; exact same hr rfl rfl
  have e : wi (Int32.ofNat k) 0 7 = 1 := wi_in (b := 7) hk (by decide)
  rw [e, if10, if10]
  obtain ⟨t, b1, tk, fr⟩ := thinks_eq hZ σ τ
  obtain ⟨s, a1, tk, hp1⟩ := tk.anew fr hp
  obtain ⟨r, s2, t2, c1, c2, tk2, fr2⟩ := hot_L hZ hk mFuel 0 M B s t tk hp1 (by omega) (by omega) (by omega) (by omega)
  rw [a1, b1, mCall_some, mCall_some]
  exact tk2.fin fr2 hr c1 c2
end
