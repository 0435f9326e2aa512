/-! ===== numbers, and the words of F, on naturals ===== -/
theorem mCall_some {α β : Type} {r : β} {s : gS} {f : β → gS → Option α} : mCall (some (r, s)) f = f r s := rfl
theorem mLet_eq {α β : Type} {a : α} {f : α → β} : mLet a f = f a := rfl
theorem mZ0 {σ : gS} : mZ 0 σ = some (0, σ) := rfl
theorem mZ1 {σ : gS} : mZ 1 σ = some (1, σ) := rfl
theorem lt0k {k : Nat} (h : k < 2 ^ 31) : ¬ Int32.ofNat k < 0 := fun q => by
  have := (ltk (a := k) (b := 0) h (by omega)).mp q
  omega
theorem mulk (a b : Nat) : Int32.ofNat a * Int32.ofNat b = Int32.ofNat (a * b) := (Int32.ofNat_mul a b).symm
theorem eqk {a b : Nat} (ha : a < 2 ^ 31) (hb : b < 2 ^ 31) : Int32.ofNat a = Int32.ofNat b ↔ a = b := by
  constructor
  · intro h
    have := congrArg nn h
    rwa [nnk ha, nnk hb] at this
  · intro h; rw [h]
/-- a number is one of 0 .. b, or not -/
theorem rng (x : Int32) (b : Nat) (hb : b < 2 ^ 31) : (∃ k, k ≤ b ∧ x = Int32.ofNat k) ∨ (x < 0 ∨ Int32.ofNat b < x) := by
  by_cases h0 : x < 0
  · exact Or.inr (Or.inl h0)
  · have hx : x = Int32.ofNat (nn x) := (Int32.ofNat_toNatClampNeg x (Int32.not_lt.mp h0)).symm
    by_cases h1 : nn x ≤ b
    · exact Or.inl ⟨nn x, h1, hx⟩
    · refine Or.inr (Or.inr ?_)
      rw [hx]
      have hn : nn x < 2 ^ 31 := x.toNatClampNeg_lt
      exact (ltk hb hn).mpr (by omega)
theorem subk {a b : Nat} (h : b ≤ a) : Int32.ofNat a - Int32.ofNat b = Int32.ofNat (a - b) := by
  have e : Int32.ofNat a = Int32.ofNat (a - b) + Int32.ofNat b := by rw [addk]; congr 1; omega
  rw [e]
  exact Int32.add_sub_cancel _ _
theorem rngN (x : Int32) (N : Nat) (hN : N < 2 ^ 31) : (∃ k, k < N ∧ x = Int32.ofNat k) ∨ (x < 0 ∨ Int32.ofNat N - 1 < x) := by
  cases N with
  | zero =>
    right
    by_cases h0 : x < 0
    · exact Or.inl h0
    · right
      rw [Int32.lt_iff_toInt_lt] at h0 ⊢
      have e0 : (0 : Int32).toInt = 0 := rfl
      have e1 : (Int32.ofNat 0 - 1).toInt = -1 := rfl
      rw [e0] at h0
      rw [e1]
      omega
  | succ N =>
    have e : Int32.ofNat (N + 1) - 1 = Int32.ofNat N := subk (b := 1) (by omega)
    rw [e]
    rcases rng x N (by omega) with ⟨k, hk, rfl⟩ | h
    · exact Or.inl ⟨k, by omega, rfl⟩
    · exact Or.inr h
/-- 1, if a number is within two others; else 0 -/
def wi (x a b : Int32) : Int32 := if x < a ∨ b < x then 0 else 1
theorem wi_out {x a b : Int32} (h : x < a ∨ b < x) : wi x a b = 0 := if_pos h
theorem wi_in {k b : Nat} (hk : k ≤ b) (hb : b < 2 ^ 31) : wi (Int32.ofNat k) 0 (Int32.ofNat b) = 1 := by
  refine if_neg (fun h => ?_)
  rcases h with h | h
  · exact lt0k (by omega) h
  · have := (ltk hb (by omega)).mp h
    omega
theorem wi_inN {k N : Nat} (hk : k < N) (hN : N < 2 ^ 31) : wi (Int32.ofNat k) 0 (Int32.ofNat N - 1) = 1 := by
  rw [show Int32.ofNat N - 1 = Int32.ofNat (N - 1) from subk (b := 1) (by omega)]
  exact wi_in (by omega) (by omega)
theorem mZwi {x a b : Int32} {σ : gS} : mZ (wi x a b) σ = some (wi x a b, σ) := by
  unfold wi
  split
  · rfl
  · rfl
theorem x9_within {Z : List gH} {x a b : Int32} {σ : gS} : F_X9_within Z x a b σ = some (wi x a b, σ) := by
  unfold F_X9_within wi
  by_cases h1 : x < a
  · rw [if_pos h1, if_pos (Or.inl h1)]; rfl
  · rw [if_neg h1]
    by_cases h2 : b < x
    · rw [if_pos h2, if_pos (Or.inr h2)]; rfl
    · rw [if_neg h2, if_neg (fun h => h.elim h1 h2)]; rfl
theorem x10_in {Z : List gH} {x a b : Int32} {σ : gS} : F_X10_in Z x a b σ = some (wi x a b, σ) := by
  unfold F_X10_in wi
  by_cases h1 : x < a
  · rw [if_pos h1, if_pos (Or.inl h1)]; rfl
  · rw [if_neg h1]
    by_cases h2 : b < x
    · rw [if_pos h2, if_pos (Or.inr h2)]; rfl
    · rw [if_neg h2, if_neg (fun h => h.elim h1 h2)]; rfl
theorem x9_isKind {Z : List gH} {x : Int32} {σ : gS} : F_X9_isKind Z x σ = some (wi x 0 5, σ) := by
  unfold F_X9_isKind; rw [x9_within]; exact mZwi
theorem x9_isRoom {Z : List gH} {x : Int32} {σ : gS} : F_X9_isRoom Z x σ = some (wi x 0 7, σ) := by
  unfold F_X9_isRoom; rw [x9_within]; exact mZwi
theorem x9_isThing {Z : List gH} {x : Int32} {σ : gS} : F_X9_isThing Z x σ = some (wi x 0 (σ 4 9 - 1), σ) := by
  unfold F_X9_isThing; rw [x9_within]; exact mZwi
theorem x9_isVisitor {Z : List gH} {x : Int32} {σ : gS} : F_X9_isVisitor Z x σ = some (wi x 0 (σ 4 10 - 1), σ) := by
  unfold F_X9_isVisitor; rw [x9_within]; exact mZwi
theorem x9_isSheet {Z : List gH} {x : Int32} {σ : gS} : F_X9_isSheet Z x σ = some (wi x 0 3, σ) := by
  unfold F_X9_isSheet; rw [x9_within]; exact mZwi
theorem x9_isSlot {Z : List gH} {x : Int32} {σ : gS} : F_X9_isSlot Z x σ = some (wi x 0 4, σ) := by
  unfold F_X9_isSlot; rw [x9_within]; exact mZwi
theorem x10_isRoom {Z : List gH} {x : Int32} {σ : gS} : F_X10_isRoom Z x σ = some (wi x 0 7, σ) := by
  unfold F_X10_isRoom; rw [x10_in]; exact mZwi
theorem x10_isThing {Z : List gH} {x : Int32} {σ : gS} : F_X10_isThing Z x σ = some (wi x 0 (σ 66 1 - 1), σ) := by
  unfold F_X10_isThing; rw [x10_in]; exact mZwi
theorem x10_isSheet {Z : List gH} {x : Int32} {σ : gS} : F_X10_isSheet Z x σ = some (wi x 0 3, σ) := by
  unfold F_X10_isSheet; rw [x10_in]; exact mZwi
theorem x10_isSlot {Z : List gH} {x : Int32} {σ : gS} : F_X10_isSlot Z x σ = some (wi x 0 4, σ) := by
  unfold F_X10_isSlot; rw [x10_in]; exact mZwi
theorem ix4 (k w : Nat) : (82 + (4 * Int32.ofNat k)) + Int32.ofNat w = Int32.ofNat (82 + 4 * k + w) := by
  show (Int32.ofNat 82 + Int32.ofNat 4 * Int32.ofNat k) + Int32.ofNat w = _
  rw [mulk, addk, addk]
theorem ix8 (a b : Nat) : (18 + (8 * Int32.ofNat a)) + Int32.ofNat b = Int32.ofNat (18 + 8 * a + b) := by
  show (Int32.ofNat 18 + Int32.ofNat 8 * Int32.ofNat a) + Int32.ofNat b = _
  rw [mulk, addk, addk]
theorem ix8c (a b : Nat) : (Int32.ofNat a * 8) + Int32.ofNat b = Int32.ofNat (8 * a + b) := by
  show Int32.ofNat a * Int32.ofNat 8 + Int32.ofNat b = _
  rw [mulk, addk, Nat.mul_comm]
theorem ixl (n k : Nat) : Int32.ofNat n + Int32.ofNat k = Int32.ofNat (n + k) := addk n k
theorem x10_of {Z : List gH} {k w : Nat} {σ : gS} (hk : k < 12) (hw : w < 4) : F_X10_of Z (Int32.ofNat k) (Int32.ofNat w) σ = some (σ 66 (82 + 4 * k + w), σ) := by
  unfold F_X10_of
  rw [ix4, mInk (by omega) (by omega), nnk (by omega)]
theorem x10_put {Z : List gH} {k w : Nat} {v : Int32} {σ : gS} (hk : k < 12) (hw : w < 4) : F_X10_put Z (Int32.ofNat k) (Int32.ofNat w) v σ = some (0, gu σ 66 (82 + 4 * k + w) v) := by
  unfold F_X10_put
  rw [ix4, mInk (by omega) (by omega), nnk (by omega)]; rfl
theorem x10_swaps {Z : List gH} {q : Nat} {v : Int32} {σ : gS} (hq : q < 1508) : F_X10_swaps Z (Int32.ofNat q) v σ = some (σ 66 q, gu σ 66 q v) := by
  unfold F_X10_swaps
  rw [mInk hq (by omega), nnk (by omega), mLet_eq, mInk hq (by omega)]; rfl
theorem x9_replaced_out {Z : List gH} {c : Nat} {x v m : Int32} {σ : gS} (h : v < 0 ∨ m < v) : F_X9_replaced Z c x v m σ = some (-1000000001, σ) := by
  unfold F_X9_replaced
  rw [x9_within, wi_out h]; rfl
theorem x9_replaced {Z : List gH} {c n k v m : Nat} {σ : gS} (hz : zl Z c = n) (hn : n < 2 ^ 31) (hk : k < n) (hv : v ≤ m) (hm : m < 2 ^ 31) : F_X9_replaced Z c (Int32.ofNat k) (Int32.ofNat v) (Int32.ofNat m) σ = some (σ c k, gu σ c k (Int32.ofNat v)) := by
  unfold F_X9_replaced
  rw [x9_within, wi_in hv hm, mCall_some, if_neg (by decide), hz, mInk hk hn, nnk (by omega), mLet_eq, mInk hk hn]; rfl
theorem zl_at {Z : List gH} {c t n : Nat} {o : Option (Nat → Option Nat)} (h : Z[c]? = some (.inr (t, n, o))) : zl Z c = n := by unfold zl; rw [h]
