/-- a quarter of the difference goes over: both rooms stay within 0 .. 99 -/
theorem spread1 {a b : Nat} (ha : a ≤ 99) (hb : b ≤ 99) : le (Int32.ofNat a - (Int32.ofNat a - Int32.ofNat b) / 4) 99 ∧ le (Int32.ofNat b + (Int32.ofNat a - Int32.ofNat b) / 4) 99 := by
  have d4 : ∀ k, k ≤ 99 → Int32.ofNat k / 4 = Int32.ofNat (k / 4) := fun k hk => divk (b := 4) (by omega) (by decide)
  by_cases h : b ≤ a
  · rw [subk h, d4 _ (by omega), subk (by omega), addk]
    exact ⟨le_k (by omega), le_k (by omega)⟩
  · have e : (Int32.ofNat a - Int32.ofNat b) / 4 = -Int32.ofNat ((b - a) / 4) := by
      apply Int32.toInt_inj.mp
      rw [Int32.toInt_div_of_ne_right _ _ (by decide), ← Int32.neg_sub, subk (by omega), Int32.toInt_neg, Int32.toInt_neg, Int32.toInt_ofNat_of_lt (by omega), Int32.toInt_ofNat_of_lt (by omega), show (4 : Int32).toInt = 4 from rfl, Int.bmod_eq_of_le_mul_two (by omega) (by omega), Int.bmod_eq_of_le_mul_two (by omega) (by omega), Int.neg_tdiv, Int.natCast_tdiv_eq_ediv]
      omega
    have e2 : Int32.ofNat a - -Int32.ofNat ((b - a) / 4) = Int32.ofNat (a + (b - a) / 4) := by
      rw [Int32.sub_eq_add_neg, Int32.neg_neg, addk]
    have e3 : Int32.ofNat b + -Int32.ofNat ((b - a) / 4) = Int32.ofNat (b - (b - a) / 4) := by
      rw [← Int32.sub_eq_add_neg, subk (by omega)]
    rw [e, e2, e3]
    exact ⟨le_k (by omega), le_k (by omega)⟩
