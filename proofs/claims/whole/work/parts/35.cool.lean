/-! ===== a minute, part by part: any house h against the model's row 66 ===== -/
/-- what a minute may write: the house and scratch cells; not what its texts are -/
def MF (h : Nat) (σ σ2 τ τ2 : gS) : Prop := (∀ x, x < h ∨ h + 6 < x → x ≠ 3 → σ2 x = σ x) ∧ ∀ x, x ≠ 66 → x ≠ 79 → x ≠ 80 → τ2 x = τ x
theorem MF.rf {h : Nat} {σ τ : gS} : MF h σ σ τ τ := ⟨fun _ _ _ => rfl, fun _ _ _ _ => rfl⟩
theorem MF.trans {h : Nat} {a b c x y z : gS} (h1 : MF h a b x y) (h2 : MF h b c y z) : MF h a c x z := ⟨fun q p1 p2 => (h2.1 q p1 p2).trans (h1.1 q p1 p2), fun q p1 p2 p3 => (h2.2 q p1 p2 p3).trans (h1.2 q p1 p2 p3)⟩
theorem MF.put {h : Nat} {σ τ : gS} {j i k : Nat} {v w : Int32} (hj : j ≤ 6) : MF h σ (gu σ (h + j) i v) τ (gu τ 66 k w) := ⟨fun q p1 p2 => gu_ne _ _ _ (by omega), fun q p1 p2 p3 => gu_ne _ _ _ p1⟩
theorem subneg {a b : Nat} (h : a < b) (hb : b < 2 ^ 30) : Int32.ofNat a - Int32.ofNat b < 0 := by
  rw [Int32.lt_iff_toInt_lt, Int32.toInt_sub, Int32.toInt_ofNat_of_lt (by omega), Int32.toInt_ofNat_of_lt (by omega), show (0 : Int32).toInt = 0 from rfl, Int.bmod_eq_of_le_mul_two (by omega) (by omega)]
  omega
section
variable {Z : List gH}
theorem cool1 {a c : Nat} (ha : a ≤ 99) (hc : c ≤ 9) (τ : gS) : ∃ p, p ≤ 99 ∧ mMax 0 (Int32.ofNat a - Int32.ofNat c) = Int32.ofNat p ∧ F_X10_within Z (Int32.ofNat a - Int32.ofNat c) 0 99 τ = some (Int32.ofNat p, τ) := by
  by_cases h : c ≤ a
  · rw [subk h]
    refine ⟨a - c, by omega, ?_, ?_⟩
    · have := maxK (a := 0) (b := a - c) (by decide) (by omega)
      rw [Nat.max_eq_right (Nat.zero_le _)] at this
      exact this
    · unfold F_X10_within
      have p0 : 0 ≤ Int32.ofNat (a - c) := (lek (a := 0) (by decide) (by omega)).mpr (Nat.zero_le _)
      have p1 : Int32.ofNat (a - c) ≤ 99 := (lek (b := 99) (by omega) (by decide)).mpr (by omega)
      rw [if_pos p0, if_pos p1]
  · have hn := subneg (a := a) (b := c) (by omega) (by omega)
    refine ⟨0, by omega, ?_, ?_⟩
    · unfold mMax
      rw [if_neg (fun q => by rw [Int32.lt_iff_toInt_lt] at hn q; omega)]; rfl
    · unfold F_X10_within
      rw [if_neg (fun q => by rw [Int32.le_iff_toInt_le] at q; rw [Int32.lt_iff_toInt_lt] at hn; omega)]; rfl
/-- the rest of the model's minute behind the cooling -/
def mRest (Z : List gH) (τ : gS) : Option (Int32 × gS) := mCall (F_X10_catches Z τ) (fun r1 s2 => mCall (F_X10_blows Z s2) (fun r3 s4 => mLet (gu s4 66 2 ((s4 66 2) + 1)) (fun s5 => some (0, s5))))
theorem cool_L {h N V T M B : Nat} (hh : h + 8 < 65) : ∀ (n i : Nat) (σ τ : gS), HP Z σ τ h 66 N V T M B → i ≤ 8 → 8 - i < n → ∃ σ2 τ2, F_X0_coolRooms_L2 Z h n (Int32.ofNat i) σ = some (0, σ2) ∧ F_X10_minute_L39 Z n (Int32.ofNat i) τ = mRest Z τ2 ∧ HP Z σ2 τ2 h 66 N V T M B ∧ MF h σ σ2 τ τ2 := by
  intro n
  induction n with
  | zero => intro i σ τ hp h1 h2; omega
  | succ n ih =>
    intro i σ τ hp h1 h2
    rw [F_X0_coolRooms_L2, F_X10_minute_L39]
    by_cases h8 : 8 ≤ i
    · have c8 : (8 : Int32) ≤ Int32.ofNat i := (lek (a := 8) (by decide) (by omega)).mpr h8
      rw [if_pos c8, if_pos c8]
      exact ⟨σ, τ, rfl, rfl, hp, MF.rf⟩
    · have c8 : ¬ (8 : Int32) ≤ Int32.ofNat i := fun q => h8 ((lek (a := 8) (by decide) (by omega)).mp q)
      have e10 : (10 : Int32) + Int32.ofNat i = Int32.ofNat (10 + i) := addk 10 i
      have e1 : Int32.ofNat i + 1 = Int32.ofNat (i + 1) := addk i 1
      obtain ⟨a, ha, ea⟩ := hp.2.2.2.2.1 i (by omega)
      obtain ⟨c, hc, ec⟩ := hp.2.1.2.2.2.2.2
      have z1 : τ 66 (10 + i) = Int32.ofNat a := (hp.2.2.1 5 i (by unfold dom; omega)).symm.trans ea
      have z2 : τ 66 4 = Int32.ofNat c := (hp.2.2.1 0 13 (by unfold dom; omega)).symm.trans ec
      obtain ⟨p, hpp, p1, p2⟩ := cool1 (Z := Z) ha hc τ
      rw [if_neg c8, if_neg c8, mInk (k := i) (n := 8) (by omega) (by decide), mInk (k := i) (n := 8) (by omega) (by decide), nnk (k := i) (by omega), e10, mInk (k := 10 + i) (by omega) (by decide), nnk (k := 10 + i) (by omega), ea, ec, z1, z2, p1, p2, mCall_some, mInk (k := 10 + i) (by omega) (by decide), mLet_eq, mLet_eq, e1]
      have hp1 := hp.upd (by omega) (j := 5) (i := i) (by unfold dom; omega) (okj (m := 99) (by omega) i (le_k hpp))
      obtain ⟨σ2, τ2, a1, a2, a3, a4⟩ := ih (i + 1) _ _ hp1 (by omega) (by omega)
      exact ⟨σ2, τ2, a1, a2, a3, MF.trans (MF.put (by omega)) a4⟩
end
