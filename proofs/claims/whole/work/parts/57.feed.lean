section
variable {Z : List gH}
theorem byt (x : BitVec 32) (s : Nat) (hs : s ≤ 24) : (x >>> s) &&& 255#32 = (x.sshiftRight s) &&& 255#32 := by
  have hz : ∀ i, i < 32 → 8 ≤ i → (255#32).getLsbD i = false := by decide
  apply BitVec.eq_of_getLsbD_eq
  intro i hi
  rw [BitVec.getLsbD_and, BitVec.getLsbD_and, BitVec.getLsbD_ushiftRight, BitVec.getLsbD_sshiftRight]
  by_cases h : i < 8
  · rw [if_pos (by omega), decide_eq_false (by omega : ¬ 32 ≤ i)]
    rfl
  · rw [hz i hi (by omega), Bool.and_false, Bool.and_false]
theorem byt24 (x : Int32) : mUsr x 24 &&& 255 = (x >>> (24 : Int32)) &&& 255 := Int32.toBitVec_inj.mp (byt x.toBitVec 24 (by omega))
theorem byt16 (x : Int32) : mUsr x 16 &&& 255 = (x >>> (16 : Int32)) &&& 255 := Int32.toBitVec_inj.mp (byt x.toBitVec 16 (by omega))
theorem byt8 (x : Int32) : mUsr x 8 &&& 255 = (x >>> (8 : Int32)) &&& 255 := Int32.toBitVec_inj.mp (byt x.toBitVec 8 (by omega))
theorem byt0 (x : Int32) : mUsr x 0 &&& 255 = (x >>> (0 : Int32)) &&& 255 := Int32.toBitVec_inj.mp (byt x.toBitVec 0 (by omega))
theorem and255 (y : Int32) : le (y &&& 255) 255 := by
  refine ⟨(y.toBitVec &&& 255#32).toNat, by rw [BitVec.toNat_and]; exact Nat.and_le_right, Int32.toBitVec_inj.mp ?_⟩
  show (y.toBitVec &&& 255#32) = BitVec.ofNat 32 (y.toBitVec &&& 255#32).toNat
  exact BitVec.eq_of_toNat_eq (by rw [BitVec.toNat_ofNat, Nat.mod_eq_of_lt (BitVec.isLt _)])
/-- n places of the tape, then others -/
def TP (σ s : gS) (n m : Nat) (b : Nat → Int32) : Prop := s 34 1 = Int32.ofNat (n + m) ∧ (∀ k, k < n → s 35 k = σ 35 k) ∧ (∀ k, k < m → s 35 (n + k) = b k) ∧ ∀ c, c ≠ 34 → c ≠ 35 → s c = σ c
theorem TP.step {σ s : gS} {n m f : Nat} {b : Nat → Int32} {x w : Int32} (h : TP σ s n m b) (hn : n + m < 96) (hw : ¬ w < 0) (hb : b m = (mUsr x w &&& 255)) : ∃ s2, F_X7_addFour_L3 Z x (f + 1) w s = F_X7_addFour_L3 Z x f (w + (-8)) s2 ∧ TP σ s2 n (m + 1) b := by
  obtain ⟨h1, h2, h3, h4⟩ := h
  have c : ¬ (96 : Int32) ≤ Int32.ofNat (n + m) := fun q => by have := (lek (a := 96) (by decide) (by omega)).mp q; omega
  have e : Int32.ofNat (n + m) + 1 = Int32.ofNat (n + (m + 1)) := addk (n + m) 1
  refine ⟨gu (gu s 35 (n + m) (mUsr x w &&& 255)) 34 1 (Int32.ofNat (n + (m + 1))), ?_, gu_self _ _ _ _, fun k hk => ?_, fun k hk => ?_, fun c q1 q2 => ?_⟩
  · rw [F_X7_addFour_L3, if_neg hw, h1, if_neg c, mInk (k := n + m) hn (by decide), nnk (k := n + m) (by omega), mLet_eq, mLet_eq, gu_ne s (i := 35) (a := 34) _ _ (by decide), h1, e]
  · rw [gu_ne _ _ _ (by decide), gu_off _ _ (Or.inr (by omega))]; exact h2 k hk
  · rw [gu_ne _ _ _ (by decide)]
    by_cases q : k = m
    · subst q; rw [gu_self, hb]
    · rw [gu_off _ _ (Or.inr (by omega))]; exact h3 k (by omega)
  · rw [gu_ne _ _ _ q1, gu_ne _ _ _ q2]; exact h4 c q1 q2
theorem add4 {σ s : gS} {n m : Nat} {b : Nat → Int32} {x : Int32} (h : TP σ s n m b) (hn : n + m + 4 ≤ 96) (b0 : b m = (mUsr x 24 &&& 255)) (b1 : b (m + 1) = (mUsr x 16 &&& 255)) (b2 : b (m + 2) = (mUsr x 8 &&& 255)) (b3 : b (m + 3) = (mUsr x 0 &&& 255)) : ∃ s2, F_X7_addFour Z x s = some (0, s2) ∧ TP σ s2 n (m + 4) b := by
  obtain ⟨s1, a1, t1⟩ := h.step (Z := Z) (f := 4999) (x := x) (w := 24) (by omega) (by decide) b0
  obtain ⟨s2, a2, t2⟩ := t1.step (Z := Z) (f := 4998) (x := x) (w := 16) (by omega) (by decide) b1
  obtain ⟨s3, a3, t3⟩ := t2.step (Z := Z) (f := 4997) (x := x) (w := 8) (by omega) (by decide) b2
  obtain ⟨s4, a4, t4⟩ := t3.step (Z := Z) (f := 4996) (x := x) (w := 0) (by omega) (by decide) b3
  refine ⟨s4, ?_, t4⟩
  show F_X7_addFour_L3 Z x (4999 + 1) 24 s = some (0, s4)
  rw [a1]
  show F_X7_addFour_L3 Z x (4998 + 1) 16 s1 = some (0, s4)
  rw [a2]
  show F_X7_addFour_L3 Z x (4997 + 1) 8 s2 = some (0, s4)
  rw [a3]
  show F_X7_addFour_L3 Z x (4996 + 1) 0 s3 = some (0, s4)
  rw [a4]
  show F_X7_addFour_L3 Z x (4995 + 1) (-8) s4 = some (0, s4)
  rw [F_X7_addFour_L3, if_pos (by decide)]
/-- the model's byte i of three numbers -/
def fb (x y z : Int32) (i : Nat) : Int32 := ((if (4 : Int32) ≤ Int32.ofNat i then (if (8 : Int32) ≤ Int32.ofNat i then z else y) else x) >>> ((24 - (8 * (mRem (Int32.ofNat i) 4))) &&& 31)) &&& 255
theorem feed_L {x y z : Int32} {n : Nat} (hn : n + 12 ≤ 96) (τ : gS) (e : τ 65 10 = Int32.ofNat n) : ∀ (f i : Nat) (t : gS), (∀ c, c ≠ 73 → t c = τ c) → (∀ k, k < n → t 73 k = τ 73 k) → (∀ k, k < i → t 73 (n + k) = fb x y z k) → i ≤ 12 → 12 - i < f → ∃ t2, F_X10_feed_L18 Z x y z f (Int32.ofNat i) t = some (Int32.ofNat (n + 12), t2) ∧ (∀ c, c ≠ 73 → c ≠ 65 → t2 c = τ c) ∧ (∀ k, k ≠ 10 → t2 65 k = τ 65 k) ∧ t2 65 10 = Int32.ofNat (n + 12) ∧ (∀ k, k < n → t2 73 k = τ 73 k) ∧ ∀ k, k < 12 → t2 73 (n + k) = fb x y z k := by
  intro f
  induction f with
  | zero => intro i t h1 h2 h3 h4 h5; omega
  | succ f ih =>
    intro i t h1 h2 h3 h4 h5
    have ei : Int32.ofNat i + 1 = Int32.ofNat (i + 1) := addk i 1
    have e2 : t 65 10 = Int32.ofNat n := by rw [h1 65 (by decide)]; exact e
    have ni : Int32.ofNat n + Int32.ofNat i = Int32.ofNat (n + i) := addk n i
    rw [F_X10_feed_L18]
    by_cases hd : 12 ≤ i
    · have c : (12 : Int32) ≤ Int32.ofNat i := (lek (a := 12) (by omega) (by omega)).mpr hd
      have n12 : Int32.ofNat n + 12 = Int32.ofNat (n + 12) := addk n 12
      rw [if_pos c, mLet_eq, e2, n12, gu_self]
      exact ⟨_, rfl, fun c q1 q2 => by rw [gu_ne _ _ _ q2]; exact h1 c q1, fun k hk => by rw [gu_off _ _ (Or.inr hk), h1 65 (by decide)], gu_self _ _ _ _, fun k hk => by rw [gu_ne _ _ _ (by decide)]; exact h2 k hk, fun k hk => by rw [gu_ne _ _ _ (by decide)]; exact h3 k (by omega)⟩
    · have c : ¬ (12 : Int32) ≤ Int32.ofNat i := fun q => hd ((lek (a := 12) (by omega) (by omega)).mp q)
      rw [if_neg c]
      unfold F_X10_feed_J47
      rw [e2, ni, mInk (k := n + i) (by omega) (by decide), mInk (k := n + i) (by omega) (by decide), mInk (k := n + i) (by omega) (by decide), nnk (k := n + i) (by omega), mLet_eq, mLet_eq, mLet_eq, ei]
      have key := ih (i + 1) (gu t 73 (n + i) (fb x y z i)) (fun c hc => by rw [gu_ne _ _ _ hc]; exact h1 c hc) (fun k hk => by rw [gu_off _ _ (Or.inr (by omega))]; exact h2 k hk) (fun k hk => by
        by_cases q : k = i
        · subst q; rw [gu_self]
        · rw [gu_off _ _ (Or.inr (by omega))]; exact h3 k (by omega)) (by omega) (by omega)
      unfold fb at key
      by_cases c4 : (4 : Int32) ≤ Int32.ofNat i
      · rw [if_pos c4]
        by_cases c8 : (8 : Int32) ≤ Int32.ofNat i
        · rw [if_pos c8]; rw [if_pos c4, if_pos c8] at key; exact key
        · rw [if_neg c8]; rw [if_pos c4, if_neg c8] at key; exact key
      · rw [if_neg c4]; rw [if_neg c4] at key; exact key
theorem sim_feed (x y z : Int32) : Sim Z (F_X9_feed Z x y z) (F_X10_feed Z x y z) := by
  intro σ τ hr
  obtain ⟨-, a, b, ⟨n, w1, w2, w3, w4⟩, d, e⟩ := id hr
  have m5 : mFuel = 5000 := rfl
  have n12 : Int32.ofNat n + 12 = Int32.ofNat (n + 12) := addk n 12
  unfold F_X9_feed F_X10_feed
  rw [w2, w3, n12]
  by_cases hn : n + 12 ≤ 96
  rotate_left
  · have c : ¬ Int32.ofNat (n + 12) ≤ 96 := fun q => hn ((lek (b := 96) (by omega) (by decide)).mp q)
    rw [if_neg c, if_neg c]; exact same hr rfl rfl
  have c : Int32.ofNat (n + 12) ≤ 96 := (lek (b := 96) (by omega) (by decide)).mpr hn
  rw [if_pos c, if_pos c]
  have t0 : TP σ σ n 0 (fb x y z) := ⟨w2, fun _ _ => rfl, fun k hk => by omega, fun _ _ _ => rfl⟩
  obtain ⟨s1, a1, t1⟩ := add4 (Z := Z) (x := x) t0 (by omega) (byt24 x).symm (byt16 x).symm (byt8 x).symm (byt0 x).symm
  obtain ⟨s2, a2, t2⟩ := add4 (Z := Z) (x := y) t1 (by omega) (byt24 y).symm (byt16 y).symm (byt8 y).symm (byt0 y).symm
  obtain ⟨s3, a3, t3⟩ := add4 (Z := Z) (x := z) t2 (by omega) (byt24 z).symm (byt16 z).symm (byt8 z).symm (byt0 z).symm
  obtain ⟨h1, h2, h3, h4⟩ := t3
  have h1 : s3 34 1 = Int32.ofNat (n + 12) := h1
  obtain ⟨t, u1, u2, u3, u4, u5, u6⟩ := feed_L (Z := Z) (x := x) (y := y) (z := z) hn τ w3 mFuel 0 τ (fun _ _ => rfl) (fun _ _ => rfl) (fun k hk => by omega) (by omega) (by omega)
  have u1 : F_X10_feed_L18 Z x y z mFuel 0 τ = some (Int32.ofNat (n + 12), t) := u1
  rw [a1, mCall_some, a2, mCall_some, a3, mCall_some, h1, u1]
  refine ⟨_, _, _, rfl, rfl, hr.other (fun c hc => h4 c (by omega) (by omega)) (by rw [h4 0 (by decide) (by decide)]) (u2 66 (by decide) (by decide)) (u2 67 (by decide) (by decide)) (u3 3 (by decide)) (a.fr (fun c q1 q2 => h4 c (by omega) (by omega)) (fun c q1 q2 => u2 c (by omega) (by omega))) (b.fr (fun c q1 q2 => h4 c (by omega) (by omega)) (fun c q1 q2 => u2 c (by omega) (by omega))) ⟨n + 12, hn, h1, u4, fun k hk => ?_⟩ (d.fr (by rw [h4 0 (by decide) (by decide)]) (h4 64 (by decide) (by decide)) (u3 36 (by decide)) (u2 89 (by decide) (by decide))) (e.fr (u2 74 (by decide) (by decide)) (u2 75 (by decide) (by decide))), fun c q1 q2 => h4 c (by omega) (by omega), fun c q1 => u2 c (by omega) (by omega)⟩
  by_cases q : k < n
  · rw [h2 k q, u5 k q]; exact w4 k q
  · obtain ⟨j, rfl⟩ : ∃ j, k = n + j := ⟨k - n, by omega⟩
    rw [h3 j (by omega), u6 j (by omega)]
    exact ⟨rfl, and255 _⟩
end
