/-! ===== how many bits ===== -/
def blx : Nat → Int32 → Int32 → Option Int32
  | 0, _, _ => none
  | n + 1, a, x => if x = 0 then some a else blx n (a + 1) (x &&& (x - 1))
def bc1 (v : Int32) : Int32 := v - ((mUsr v 1) &&& 1431655765)
def bc2 (v : Int32) : Int32 := (v &&& 858993459) + ((mUsr v 2) &&& 858993459)
def bc3 (v : Int32) : Int32 := (v + (mUsr v 4)) &&& 252645135
def bc4 (v : Int32) : Int32 := v + (mUsr v 8)
def bc5 (v : Int32) : Int32 := v + (mUsr v 16)
def bcx (v : Int32) : Int32 := bc5 (bc4 (bc3 (bc2 (bc1 v)))) &&& 63
theorem bits_all : ∀ a, a < 64 → ∀ b, b < 64 → blx 14 0 (Int32.ofNat (64 * a + b)) = some (bcx (Int32.ofNat (64 * a + b))) := by decide +kernel
section
variable {Z : List gH}
theorem bits_L {τ : gS} : ∀ (n : Nat) (a x v : Int32) (m : Nat), blx n a x = some v → F_X10_bits_L4 Z (n + m) a x τ = some (v, τ) := by
  intro n
  induction n with
  | zero => intro a x v m h; cases h
  | succ n ih =>
    intro a x v m h
    rw [show n + 1 + m = (n + m) + 1 by omega, F_X10_bits_L4]
    rw [blx] at h
    by_cases c : x = 0
    · rw [if_pos c] at h ⊢
      rw [Option.some.inj h]
    · rw [if_neg c] at h ⊢
      rw [mLet_eq]
      exact ih _ _ v m h
theorem bits_eq {m : Nat} (hm : m < 4096) (σ τ : gS) : ∃ v, F_JI_bitCount Z (Int32.ofNat m) σ = some (v, σ) ∧ F_X10_bits Z (Int32.ofNat m) τ = some (v, τ) := by
  have h := bits_all (m / 64) (by omega) (m % 64) (by omega)
  rw [show 64 * (m / 64) + m % 64 = m by omega] at h
  refine ⟨bcx (Int32.ofNat m), rfl, ?_⟩
  exact bits_L 14 0 (Int32.ofNat m) _ 4986 h
theorem or_k {a c : Nat} (ha : a < 4096) (hc : c < 4096) : ∃ m, m < 4096 ∧ Int32.ofNat a ||| Int32.ofNat c = Int32.ofNat m := by
  have hl : a ||| c < 2 ^ 12 := Nat.or_lt_two_pow ha hc
  refine ⟨a ||| c, hl, Int32.toBitVec_inj.mp ?_⟩
  show BitVec.ofNat 32 a ||| BitVec.ofNat 32 c = BitVec.ofNat 32 (a ||| c)
  apply BitVec.eq_of_toNat_eq
  rw [BitVec.toNat_or, BitVec.toNat_ofNat, BitVec.toNat_ofNat, BitVec.toNat_ofNat, Nat.mod_eq_of_lt (by omega), Nat.mod_eq_of_lt (by omega), Nat.mod_eq_of_lt (by omega)]
theorem shl_k : ∀ b, b < 2 → ∀ i, i < 12 → Int32.ofNat b <<< (Int32.ofNat i &&& 31) = Int32.ofNat (b * 2 ^ i) ∧ b * 2 ^ i < 4096 := by decide +kernel
theorem lit_bd {h N V T M B : Nat} {σ τ : gS} (hp : HP Z σ τ h 66 N V T M B) : ∀ (n i a : Nat), a < 4096 → i ≤ N → N - i < n → ∃ m, m < 4096 ∧ F_X0_litSet_L4 Z h n (Int32.ofNat a) (Int32.ofNat i) σ = some (Int32.ofNat m, σ) := by
  have hN := hp.1.1
  have e9 : σ h 9 = Int32.ofNat N := hp.2.1.1
  intro n
  induction n with
  | zero => intro i a h0 h1 h2; omega
  | succ n ih =>
    intro i a h0 h1 h2
    have ei : Int32.ofNat i + 1 = Int32.ofNat (i + 1) := addk i 1
    rw [F_X0_litSet_L4, e9]
    by_cases hd : N ≤ i
    · rw [if_pos ((lek (by omega) (by omega)).mpr hd)]
      exact ⟨a, h0, rfl⟩
    · obtain ⟨b, hb, eb⟩ := (hp.2.2.2.1 i (by omega)).2.2.2
      obtain ⟨s1, s2⟩ := shl_k b (by omega) i (by omega)
      obtain ⟨m, m1, m2⟩ := or_k h0 s2
      rw [if_neg (fun q => hd ((lek (by omega) (by omega)).mp q)), mInk (k := i) (by omega) (by decide), nnk (k := i) (by omega), mLet_eq, ei, eb, s1, m2]
      exact ih (i + 1) m m1 (by omega) (by omega)
theorem lit_eq2 {h N V T M B : Nat} {σ τ : gS} (hp : HP Z σ τ h 66 N V T M B) : ∃ m, m < 4096 ∧ F_X0_litSet Z h σ = some (Int32.ofNat m, σ) ∧ F_X10_lit Z τ = some (Int32.ofNat m, τ) := by
  have m5 : mFuel = 5000 := rfl
  have hN := hp.1.1
  obtain ⟨r, a1, a2⟩ := lit_eq hp
  obtain ⟨m, m1, m2⟩ := lit_bd hp mFuel 0 0 (by omega) (by omega) (by omega)
  have m2 : F_X0_litSet Z h σ = some (Int32.ofNat m, σ) := m2
  rw [a1] at m2
  have e := (Prod.mk.inj (Option.some.inj m2)).1
  subst e
  exact ⟨m, m1, a1, a2⟩
end
