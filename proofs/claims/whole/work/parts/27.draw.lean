/-! ===== draws; as; waiting numbers; the tape's length ===== -/
theorem u32k (v : UInt32) : v.toInt32 = Int32.ofNat v.toNat := by
  apply Int32.toBitVec_inj.mp
  apply BitVec.eq_of_toNat_eq
  simp
theorem usr8 (x : Int32) : ∃ k, k < 2 ^ 24 ∧ mUsr x 8 = Int32.ofNat k := by
  unfold mUsr
  refine ⟨(x.toUInt32 >>> ((8 : Int32).toUInt32 &&& Int32.toUInt32 31)).toNat, ?_, u32k _⟩
  have e : ((8 : Int32).toUInt32 &&& Int32.toUInt32 31) = 8 := rfl
  rw [e, UInt32.toNat_shiftRight]
  have h := x.toUInt32.toNat_lt
  show x.toUInt32.toNat >>> 8 < 2 ^ 24
  rw [Nat.shiftRight_eq_div_pow]
  omega
theorem remk {k m : Nat} (hk : k < 2 ^ 31) (hm : m < 2 ^ 31) (hm0 : 0 < m) : mRem (Int32.ofNat k) (Int32.ofNat m) = Int32.ofNat (k % m) := by
  unfold mRem
  have hd : k / m * m ≤ k := Nat.div_mul_le_self k m
  rw [← Int32.ofNat_div hk hm, mulk, subk hd]
  congr 1
  have := Nat.div_add_mod k m
  rw [Nat.mul_comm] at this
  omega
theorem rem8 (x : Int32) {m : Nat} (hm : m < 2 ^ 31) (hm0 : 0 < m) : ∃ k, k < m ∧ mRem (mUsr x 8) (Int32.ofNat m) = Int32.ofNat k := by
  obtain ⟨k, hk, e⟩ := usr8 x
  exact ⟨k % m, Nat.mod_lt _ hm0, by rw [e, remk (by omega) hm hm0]⟩
