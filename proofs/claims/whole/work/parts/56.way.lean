section
variable {Z : List gH}
theorem way_in {σ τ : gS} {N V T M B a : Nat} {x y l4 : Int32} (hp : HP Z σ τ 4 66 N V T M B) (ha : a < 8) {k4 : Int32 → Int32 → gS → Option (Int32 × gS)} {k24 : Int32 → Int32 → gS → Option (Int32 × gS)} (hk : ∀ (n' : Nat) (w : Int32), 64 - 8 * (a + 1) < n' → ∃ w2, k4 w (Int32.ofNat (a + 1)) σ = some (w2, σ) ∧ F_X10_way_L49 Z k24 y n' x l4 w (Int32.ofNat (8 * (a + 1))) τ = k24 w2 (l4 + 1) τ) : ∀ (n b n' : Nat) (w : Int32), b ≤ 8 → 8 - b < n → 64 - (8 * a + b) < n' → ∃ w2, F_X0_reachedNext_L13 Z k4 4 x n w (Int32.ofNat a) (Int32.ofNat b) σ = some (w2, σ) ∧ F_X10_way_L49 Z k24 y n' x l4 w (Int32.ofNat (8 * a + b)) τ = k24 w2 (l4 + 1) τ := by
  intro n
  induction n with
  | zero => intros; omega
  | succ n ih =>
    intro b n' w h1 h2 h3
    have ea : Int32.ofNat a + 1 = Int32.ofNat (a + 1) := addk a 1
    have eb : Int32.ofNat b + 1 = Int32.ofNat (b + 1) := addk b 1
    by_cases hd : 8 ≤ b
    · obtain rfl : b = 8 := by omega
      have e : 8 * a + 8 = 8 * (a + 1) := by omega
      rw [F_X0_reachedNext_L13, if_pos (show (8 : Int32) ≤ Int32.ofNat 8 by decide), ea, e]
      exact hk n' w (by omega)
    · obtain ⟨n', rfl⟩ : ∃ p, n' = p + 1 := ⟨n' - 1, by omega⟩
      have r1 : mRem (Int32.ofNat (8 * a + b)) 8 = Int32.ofNat b := (remk (m := 8) (by omega) (by decide) (by decide)).trans (by congr 1; omega)
      have r2 : Int32.ofNat (8 * a + b) / 8 = Int32.ofNat a := (divk (b := 8) (by omega) (by decide)).trans (by congr 1; omega)
      have c8 : ¬ (8 : Int32) ≤ Int32.ofNat b := fun q => hd ((lek (a := 8) (by omega) (by omega)).mp q)
      have c64 : ¬ (64 : Int32) ≤ Int32.ofNat (8 * a + b) := fun q => by have := (lek (a := 64) (by decide) (by omega)).mp q; omega
      have e18 : (18 : Int32) + Int32.ofNat (8 * a + b) = Int32.ofNat (18 + (8 * a + b)) := addk 18 _
      have e1 : Int32.ofNat (8 * a + b) + 1 = Int32.ofNat (8 * a + (b + 1)) := addk _ 1
      have zd : τ 66 (18 + (8 * a + b)) = σ (4 + 6) (8 * a + b) := (hp.2.2.1 6 (8 * a + b) (by unfold dom; omega)).symm
      rw [F_X0_reachedNext_L13, F_X10_way_L49, if_neg c8, if_neg c64, r1, r2, x0_doorBetween (by omega) (by omega), mCall_some, e18, mInk (k := 18 + (8 * a + b)) (by omega) (by decide), nnk (k := 18 + (8 * a + b)) (by omega), zd, eb, e1]
      simp only [mLet_eq, Int32.or_zero]
      have key := fun w => ih (b + 1) n' w (by omega) (by omega) (by omega)
      split
      · split
        · exact key _
        · exact key _
      · exact key _
theorem way_out {σ τ : gS} {N V T M B : Nat} {x y l4 : Int32} (hp : HP Z σ τ 4 66 N V T M B) {k24 : Int32 → Int32 → gS → Option (Int32 × gS)} : ∀ (n a n' : Nat) (w : Int32), a ≤ 8 → 8 - a < n → 64 - 8 * a < n' → ∃ w2, F_X0_reachedNext_L4 Z 4 x n w (Int32.ofNat a) σ = some (w2, σ) ∧ F_X10_way_L49 Z k24 y n' x l4 w (Int32.ofNat (8 * a)) τ = k24 w2 (l4 + 1) τ := by
  have m5 : mFuel = 5000 := rfl
  intro n
  induction n with
  | zero => intros; omega
  | succ n ih =>
    intro a n' w h1 h2 h3
    rw [F_X0_reachedNext_L4]
    by_cases hd : 8 ≤ a
    · obtain rfl : a = 8 := by omega
      obtain ⟨n', rfl⟩ : ∃ p, n' = p + 1 := ⟨n' - 1, by omega⟩
      rw [F_X10_way_L49, if_pos (show (8 : Int32) ≤ Int32.ofNat 8 by decide), if_pos (show (64 : Int32) ≤ Int32.ofNat (8 * 8) by decide)]
      exact ⟨w, rfl, rfl⟩
    · have c8 : ¬ (8 : Int32) ≤ Int32.ofNat a := fun q => hd ((lek (a := 8) (by omega) (by omega)).mp q)
      rw [if_neg c8]
      exact way_in (y := y) (l4 := l4) (k24 := k24) hp (by omega) (k4 := F_X0_reachedNext_L4 Z 4 x n) (fun n' w hn => ih (a + 1) n' w (by omega) (by omega) hn) mFuel 0 n' w (by omega) (by omega) (by omega)
theorem way_L {σ τ : gS} {N V T M B : Nat} {y : Int32} (hp : HP Z σ τ 4 66 N V T M B) : ∀ (n i : Nat) (w : Int32), i ≤ 8 → 8 - i < n → ∃ r, F_X9_way_L24 Z y n w (Int32.ofNat i) σ = some (r, σ) ∧ F_X10_way_L24 Z y n w (Int32.ofNat i) τ = some (r, τ) := by
  have m5 : mFuel = 5000 := rfl
  intro n
  induction n with
  | zero => intros; omega
  | succ n ih =>
    intro i w h1 h2
    have ei : Int32.ofNat i + 1 = Int32.ofNat (i + 1) := addk i 1
    rw [F_X9_way_L24, F_X10_way_L24]
    by_cases hd : 8 ≤ i
    · have c : (8 : Int32) ≤ Int32.ofNat i := (lek (a := 8) (by omega) (by omega)).mpr hd
      rw [if_pos c, if_pos c]; exact ⟨_, rfl, rfl⟩
    · have c : ¬ (8 : Int32) ≤ Int32.ofNat i := fun q => hd ((lek (a := 8) (by omega) (by omega)).mp q)
      rw [if_neg c, if_neg c]
      by_cases hb : ((w >>> (y &&& 31)) &&& 1) = 1
      · rw [if_pos hb, if_pos hb]; exact ⟨_, rfl, rfl⟩
      · obtain ⟨w2, a1, a2⟩ := way_out (x := w) (y := y) (l4 := Int32.ofNat i) (k24 := F_X10_way_L24 Z y n) hp mFuel 0 mFuel w (by omega) (by omega) (by omega)
        have a1 : F_X0_reachedNext Z 4 w σ = some (w2, σ) := a1
        have a2 : F_X10_way_L49 Z (F_X10_way_L24 Z y n) y mFuel w (Int32.ofNat i) w 0 τ = F_X10_way_L24 Z y n w2 (Int32.ofNat i + 1) τ := a2
        rw [if_neg hb, if_neg hb, a1, a2, mCall_some, ei]
        exact ih (i + 1) w2 (by omega) (by omega)
theorem sim_way (x y : Int32) : Sim Z (F_X9_way Z x y) (F_X10_way Z x y) := by
  intro σ τ hr
  obtain ⟨N, V, T, M, B, hp, hm, -⟩ := hr.1
  have m5 : mFuel = 5000 := rfl
  unfold F_X9_way F_X10_way
  simp only [x9_isRoom, x10_isRoom, mCall_some, mLet_eq]
  by_cases h1 : wi x 0 7 = 0
  · rw [if_pos h1, if_pos h1]; exact same hr rfl rfl
  rw [if_neg h1, if_neg h1]
  by_cases h2 : wi y 0 7 = 0
  · rw [if_pos h2, if_pos h2]; exact same hr rfl rfl
  rw [if_neg h2, if_neg h2]
  obtain ⟨r, a1, a2⟩ := way_L (y := y) hp mFuel 0 (1 <<< (x &&& 31)) (by omega) (by omega)
  exact same hr a1 a2
end
