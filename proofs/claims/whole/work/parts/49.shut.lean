section
variable {Z : List gH}
theorem noneK {q : Nat} (h : q < 2 ^ 31) : ¬ Int32.ofNat q = -1000000005 := fun e => lt0k h (by rw [e]; decide)
theorem shut_in (hZ : Lay Z) {σ τ : gS} {N V T M B a m : Nat} {y : Int32} (hp : HP Z σ τ 4 66 N V T M B) (hm : M ≤ 9999 ∧ B ≤ 1188 * M) (ha : a < 8) (hq : m ≤ 100) {k36 : Int32 → Int32 → Int32 → Int32 → gS → Option (Int32 × gS)} (hk : ∀ (n' L : Nat) (l3 l4 m3 m4 : Int32) (s t : gS), TK σ τ s t → FR τ t → BD l3 l4 m3 m4 L → 64 - 8 * (a + 1) < n' → ∃ r s2 t2, k36 l3 l4 (Int32.ofNat L) (Int32.ofNat (a + 1)) s = some (r, s2) ∧ F_X10_shut_L36 Z (Int32.ofNat m) y n' m3 m4 (Int32.ofNat (8 * (a + 1))) t = some (r, t2) ∧ TK σ τ s2 t2 ∧ FR τ t2) : ∀ (n b n' L : Nat) (l3 l4 m3 m4 : Int32) (s t : gS), TK σ τ s t → FR τ t → BD l3 l4 m3 m4 L → a < b → b ≤ 8 → 8 - b < n → 64 - (8 * a + b) < n' → ∃ r s2 t2, F_X9_shut_L49 Z k36 (Int32.ofNat m) y n l3 l4 (Int32.ofNat L) (Int32.ofNat a) (Int32.ofNat b) s = some (r, s2) ∧ F_X10_shut_L36 Z (Int32.ofNat m) y n' m3 m4 (Int32.ofNat (8 * a + b)) t = some (r, t2) ∧ TK σ τ s2 t2 ∧ FR τ t2 := by
  intro n
  induction n with
  | zero => intros; omega
  | succ n ih =>
    intro b n' L l3 l4 m3 m4 s t tk fr bd h1 h2 h3 h4
    have ea : Int32.ofNat a + 1 = Int32.ofNat (a + 1) := addk a 1
    have eb : Int32.ofNat b + 1 = Int32.ofNat (b + 1) := addk b 1
    by_cases hd : 8 ≤ b
    · obtain rfl : b = 8 := by omega
      have e : 8 * a + 8 = 8 * (a + 1) := by omega
      rw [F_X9_shut_L49, if_pos (show (8 : Int32) ≤ Int32.ofNat 8 by decide), ea, e]
      exact hk n' L l3 l4 m3 m4 s t tk fr bd (by omega)
    · obtain ⟨n', rfl⟩ : ∃ p, n' = p + 1 := ⟨n' - 1, by omega⟩
      have r1 : mRem (Int32.ofNat (8 * a + b)) 8 = Int32.ofNat b := (remk (m := 8) (by omega) (by decide) (by decide)).trans (by congr 1; omega)
      have r2 : Int32.ofNat (8 * a + b) / 8 = Int32.ofNat a := (divk (b := 8) (by omega) (by decide)).trans (by congr 1; omega)
      have c8 : ¬ (8 : Int32) ≤ Int32.ofNat b := fun q => hd ((lek (a := 8) (by omega) (by omega)).mp q)
      have c64 : ¬ (64 : Int32) ≤ Int32.ofNat (8 * a + b) := fun q => by have := (lek (a := 64) (by decide) (by omega)).mp q; omega
      have cr : ¬ Int32.ofNat b ≤ Int32.ofNat a := fun q => by have := (lek (by omega) (by omega)).mp q; omega
      have e18 : (18 : Int32) + Int32.ofNat (8 * a + b) = Int32.ofNat (18 + (8 * a + b)) := addk 18 _
      have e1 : Int32.ofNat (8 * a + b) + 1 = Int32.ofNat (8 * a + (b + 1)) := addk _ 1
      have zd : t 66 (18 + (8 * a + b)) = s (4 + 6) (8 * a + b) := by
        rw [fr _ (by omega), tk.1 10 (by unfold pcl; omega)]; exact (hp.2.2.1 6 (8 * a + b) (by unfold dom; omega)).symm
      rw [F_X9_shut_L49, F_X10_shut_L36, if_neg c8, if_neg c64, r1, r2, if_neg cr, x0_doorBetween (by omega) (by omega), mCall_some, e18, mInk (k := 18 + (8 * a + b)) (by omega) (by decide), nnk (k := 18 + (8 * a + b)) (by omega), zd]
      by_cases h2d : s (4 + 6) (8 * a + b) = 2
      · rw [if_pos h2d, if_pos h2d]
        obtain ⟨s1, a1, tk1, hp1⟩ := tk.anew fr hp
        have hp2 := hp1.upd (by omega) (j := 6) (i := 8 * a + b) (v := 1) (by unfold dom; omega) (okj (m := 2) (by omega) _ (le_k (k := 1) (by omega)))
        have hp3 := hp2.upd (by omega) (j := 6) (i := 8 * b + a) (v := 1) (by unfold dom; omega) (okj (m := 2) (by omega) _ (le_k (k := 1) (by omega)))
        have tk2 := tk1.mf (MF.put (h := 22) (j := 6) (i := 8 * a + b) (k := 18 + (8 * a + b)) (v := 1) (w := 1) (by omega))
        have tk3 := tk2.mf (MF.put (h := 22) (j := 6) (i := 8 * b + a) (k := 18 + (8 * b + a)) (v := 1) (w := 1) (by omega))
        have hL : L < 2 ^ 31 := by rcases bd with ⟨-, -, h, -, -⟩ | ⟨_, _, _, _, h, _⟩ <;> omega
        obtain ⟨s2, t2, Bc, Bm, a2, b2, tk4, fr4, l1, q⟩ := try_eq hZ (m := m) (L := L) tk3 hp3 hL hq hm.1 hm.2
        have a2 : F_X9_thinkOn Z (Int32.ofNat m) (Int32.ofNat L) (gu (gu s1 (22 + 6) (8 * a + b) 1) (22 + 6) (8 * b + a) 1) = some (Int32.ofNat Bc, s2) := a2
        have b2 : F_X10_burntBy Z (Int32.ofNat m) (gu (gu t 66 (18 + (8 * a + b)) 1) 66 (18 + (8 * b + a)) 1) = some (Int32.ofNat Bm, t2) := b2
        rw [a1, mCall_some, x0_putDoor (by omega) (by omega), mCall_some, x10_leaves (by omega) (by omega) (by omega), mCall_some, a2, b2, mCall_some, mCall_some]
        unfold F_X10_shut_J124
        rw [eb, e1]
        simp only [if10, if00]
        rcases bd with ⟨rfl, rfl, rfl, rfl, rfl⟩ | ⟨a', b', g1, g2, g3, rfl, rfl, rfl, rfl⟩
        · obtain rfl : Bc = Bm := by omega
          have cc : ¬ Int32.ofNat 2147483647 ≤ Int32.ofNat Bc := fun q => by have := (lek (by omega) (by omega)).mp q; omega
          rw [if_neg cc, if_pos rfl]
          exact ih (b + 1) n' Bc _ _ _ _ s2 t2 tk4 fr4 (Or.inr ⟨a, b, ha, by omega, by omega, rfl, rfl, rfl, rfl⟩) (by omega) (by omega) (by omega) (by omega)
        · rw [if_neg (noneK (q := 8 * a' + b') (by omega))]
          by_cases hc : L ≤ Bc
          · rw [if_pos ((lek (by omega) (by omega)).mpr hc), if_pos ((lek (by omega) (by omega)).mpr (by omega : L ≤ Bm))]
            exact ih (b + 1) n' L _ _ _ _ s2 t2 tk4 fr4 (Or.inr ⟨a', b', g1, g2, g3, rfl, rfl, rfl, rfl⟩) (by omega) (by omega) (by omega) (by omega)
          · obtain rfl : Bc = Bm := by omega
            have cc : ¬ Int32.ofNat L ≤ Int32.ofNat Bc := fun q => hc ((lek (by omega) (by omega)).mp q)
            rw [if_neg cc, if_neg cc]
            exact ih (b + 1) n' Bc _ _ _ _ s2 t2 tk4 fr4 (Or.inr ⟨a, b, ha, by omega, by omega, rfl, rfl, rfl, rfl⟩) (by omega) (by omega) (by omega) (by omega)
      · rw [if_neg h2d, if_neg h2d, eb, e1]
        exact ih (b + 1) n' L _ _ _ _ s t tk fr bd (by omega) (by omega) (by omega) (by omega)
theorem shut_out (hZ : Lay Z) {σ τ : gS} {N V T M B m w : Nat} (hp : HP Z σ τ 4 66 N V T M B) (hm : M ≤ 9999 ∧ B ≤ 1188 * M) (hq : m ≤ 100) (hw : w ≤ 2) : ∀ (n a n' L : Nat) (l3 l4 m3 m4 : Int32) (s t : gS), TK σ τ s t → FR τ t → BD l3 l4 m3 m4 L → a ≤ 8 → 8 - a < n → 64 - 8 * a < n' → ∃ r s2 t2, F_X9_shut_L36 Z (Int32.ofNat m) (Int32.ofNat w) n l3 l4 (Int32.ofNat L) (Int32.ofNat a) s = some (r, s2) ∧ F_X10_shut_L36 Z (Int32.ofNat m) (Int32.ofNat w) n' m3 m4 (Int32.ofNat (8 * a)) t = some (r, t2) ∧ TK σ τ s2 t2 ∧ FR τ t2 := by
  have m5 : mFuel = 5000 := rfl
  intro n
  induction n with
  | zero => intros; omega
  | succ n ih =>
    intro a n' L l3 l4 m3 m4 s t tk fr bd h1 h2 h3
    have ea : Int32.ofNat a + 1 = Int32.ofNat (a + 1) := addk a 1
    by_cases hd : 8 ≤ a
    · obtain rfl : a = 8 := by omega
      obtain ⟨n', rfl⟩ : ∃ p, n' = p + 1 := ⟨n' - 1, by omega⟩
      rw [F_X9_shut_L36, F_X10_shut_L36, if_pos (show (8 : Int32) ≤ Int32.ofNat 8 by decide), if_pos (show (64 : Int32) ≤ Int32.ofNat (8 * 8) by decide)]
      rcases bd with ⟨rfl, rfl, rfl, rfl, rfl⟩ | ⟨a', b', g1, g2, g3, rfl, rfl, rfl, rfl⟩
      · rw [if_pos rfl, if_pos rfl]; exact ⟨_, s, t, rfl, rfl, tk, fr⟩
      · have r1 : mRem (Int32.ofNat (8 * a' + b')) 8 = Int32.ofNat b' := (remk (m := 8) (by omega) (by decide) (by decide)).trans (by congr 1; omega)
        have r2 : Int32.ofNat (8 * a' + b') / 8 = Int32.ofNat a' := (divk (b := 8) (by omega) (by decide)).trans (by congr 1; omega)
        rw [if_neg (noneK (q := 8 * a' + b') (by omega)), if_neg (noneK (q := a') (by omega)), r1, r2]
        rcases (show w = 0 ∨ w = 1 ∨ w = 2 by omega) with rfl | rfl | rfl
        · exact ⟨_, s, t, rfl, rfl, tk, fr⟩
        · exact ⟨_, s, t, rfl, rfl, tk, fr⟩
        · exact ⟨_, s, t, rfl, rfl, tk, fr⟩
    · have c8 : ¬ (8 : Int32) ≤ Int32.ofNat a := fun q => hd ((lek (a := 8) (by omega) (by omega)).mp q)
      have sk := shut_skip (Z := Z) (x := Int32.ofNat m) (y := Int32.ofNat w) (m3 := m3) (m4 := m4) (a := a) (by omega) t (a + 1) 0 (n' - (a + 1)) (by omega)
      have e0 : n' - (a + 1) + (a + 1) = n' := by omega
      rw [e0] at sk
      have sk : F_X10_shut_L36 Z (Int32.ofNat m) (Int32.ofNat w) n' m3 m4 (Int32.ofNat (8 * a)) t = _ := sk
      rw [F_X9_shut_L36, if_neg c8, mLet_eq, ea, sk]
      exact shut_in hZ hp hm (by omega) hq (k36 := F_X9_shut_L36 Z (Int32.ofNat m) (Int32.ofNat w) n) (fun n' L l3 l4 m3 m4 s t tk fr bd hn => ih (a + 1) n' L l3 l4 m3 m4 s t tk fr bd (by omega) (by omega) hn) mFuel (a + 1) (n' - (a + 1)) L l3 l4 m3 m4 s t tk fr bd (by omega) (by omega) (by omega) (by omega)
theorem sim_shut (hZ : Lay Z) (x y : Int32) : Sim Z (F_X9_shut Z x y) (F_X10_shut Z x y) := by
  intro σ τ hr
  obtain ⟨N, V, T, M, B, hp, hm, -⟩ := hr.1
  have m5 : mFuel = 5000 := rfl
  unfold F_X9_shut F_X10_shut
  rw [x9_within, x10_in, mCall_some, mCall_some, x9_within, x10_in, mCall_some, mCall_some]
  by_cases hw : wi x 1 60 = 0
  · rw [if_pos hw, if_pos hw]; exact same hr rfl rfl
  rw [if_neg hw, if_neg hw]
  obtain ⟨k, hk, rfl⟩ : ∃ k, k ≤ 60 ∧ x = Int32.ofNat k := by
    rcases rng2 x 1 60 (by decide) (by decide) with ⟨k, -, hk, rfl⟩ | ho
    · exact ⟨k, hk, rfl⟩
    · exact absurd (wi_out ho) hw
  rcases rng y 2 (by decide) with ⟨w, hw2, rfl⟩ | ho
  rotate_left
  · rw [wi_out (a := 0) (b := 2) ho, if00, if00]; exact same hr rfl rfl
  have e2 : wi (Int32.ofNat w) 0 2 = 1 := wi_in (b := 2) hw2 (by decide)
  rw [e2, if10, if10]
  obtain ⟨t, b1, tk, fr⟩ := thinks_eq hZ σ τ
  obtain ⟨r, s2, t2, c1, c2, tk2, fr2⟩ := shut_out (m := k) (w := w) hZ hp hm (by omega) hw2 mFuel 0 mFuel 2147483647 (-1000000005) (-1000000005) (-1000000005) (-1000000005) σ t tk fr (Or.inl ⟨rfl, rfl, rfl, rfl, rfl⟩) (by omega) (by omega) (by omega)
  rw [b1, mCall_some]
  exact tk2.fin fr2 hr c1 c2
end
