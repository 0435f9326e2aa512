/-! ===== what kinds do ===== -/
def kb (kd p : Nat) : Nat := if kd = 1 then p + 2 else if kd = 2 then p / 2 else if kd = 3 then 2 * (p + 2) else if kd = 4 then p / 2 - 1 else if kd = 5 then 0 else p
section
variable {Z : List gH}
theorem clamp (x : Int32) (m : Nat) (hm : m < 2 ^ 31) (τ : gS) : ∃ p, p ≤ m ∧ mMax 0 (mMin (Int32.ofNat m) x) = Int32.ofNat p ∧ F_X10_within Z x 0 (Int32.ofNat m) τ = some (Int32.ofNat p, τ) := by
  unfold F_X10_within
  rcases rng x m hm with ⟨k, hk, rfl⟩ | h | h
  · refine ⟨k, hk, ?_, ?_⟩
    · have e : mMin (Int32.ofNat m) (Int32.ofNat k) = Int32.ofNat k := by rw [minK hm (by omega), Nat.min_eq_right hk]
      rw [e]
      have := maxK (a := 0) (b := k) (by decide) (by omega)
      rw [Nat.max_eq_right (Nat.zero_le k)] at this
      exact this
    · have p0 : 0 ≤ Int32.ofNat k := (lek (a := 0) (by decide) (by omega)).mpr (Nat.zero_le k)
      rw [if_pos p0, if_pos ((lek (by omega) hm).mpr hk)]
  · have hxm : x < Int32.ofNat m := by
      rw [Int32.lt_iff_toInt_lt] at h ⊢
      rw [Int32.toInt_ofNat_of_lt hm]
      have e0 : (0 : Int32).toInt = 0 := rfl
      omega
    refine ⟨0, Nat.zero_le m, ?_, ?_⟩
    · unfold mMin
      rw [if_pos hxm]
      unfold mMax
      rw [if_neg (fun q => by rw [Int32.lt_iff_toInt_lt] at h q; omega)]; rfl
    · rw [if_neg (fun q => by rw [Int32.le_iff_toInt_le] at q; rw [Int32.lt_iff_toInt_lt] at h; omega)]; rfl
  · refine ⟨m, Nat.le_refl m, ?_, ?_⟩
    · unfold mMin
      rw [if_neg (fun q => by rw [Int32.lt_iff_toInt_lt] at h q; omega)]
      have := maxK (a := 0) (b := m) (by decide) hm
      rw [Nat.max_eq_right (Nat.zero_le m)] at this
      exact this
    · have p0 : 0 ≤ x := by
        rw [Int32.lt_iff_toInt_lt, Int32.toInt_ofNat_of_lt hm] at h
        rw [Int32.le_iff_toInt_le]
        have e0 : (0 : Int32).toInt = 0 := rfl
        omega
      rw [if_pos p0, if_neg (fun q => by rw [Int32.le_iff_toInt_le] at q; rw [Int32.lt_iff_toInt_lt] at h; omega)]
theorem ne_lit {k m : Nat} (hk : k ≤ 5) (hm : m ≤ 5) (h : k ≠ m) : ¬ Int32.ofNat k = Int32.ofNat m := fun q => h ((eqk (by omega) (by omega)).mp q)
theorem x1_burns {kd p : Nat} {σ : gS} (hk : kd ≤ 5) (hp : p ≤ 99) : F_X1_burns Z (Int32.ofNat kd) (Int32.ofNat p) σ = some (Int32.ofNat (kb kd p), σ) := by
  have d2 : Int32.ofNat p / 2 = Int32.ofNat (p / 2) := divk (b := 2) (by omega) (by decide)
  have a2 : Int32.ofNat p + 2 = Int32.ofNat (p + 2) := addk p 2
  unfold F_X1_burns kb
  rcases (show kd = 0 ∨ kd = 1 ∨ kd = 2 ∨ kd = 3 ∨ kd = 4 ∨ kd = 5 by omega) with rfl | rfl | rfl | rfl | rfl | rfl
  · rfl
  · rw [a2]; rfl
  · rw [d2]; rfl
  · rw [a2, show (2 : Int32) * Int32.ofNat (p + 2) = Int32.ofNat (2 * (p + 2)) from mulk 2 (p + 2)]; rfl
  · rw [d2]
    have e : mMax 0 (Int32.ofNat (p / 2) - 1) = Int32.ofNat (p / 2 - 1) := by
      by_cases h : 1 ≤ p / 2
      · rw [show Int32.ofNat (p / 2) - 1 = Int32.ofNat (p / 2 - 1) from subk (b := 1) h]
        have := maxK (a := 0) (b := p / 2 - 1) (by decide) (by omega)
        rw [Nat.max_eq_right (Nat.zero_le _)] at this
        exact this
      · rw [show p / 2 = 0 by omega]; rfl
    rw [e]; rfl
  · rfl
theorem x10_burnsJ {t kd p : Nat} {τ : gS} (ht : t < 12) (hk : kd ≤ 5) (hp : p ≤ 99) (h : τ 66 (82 + 4 * t) = Int32.ofNat kd) : F_X10_burnsOf_J69 Z (Int32.ofNat t) (Int32.ofNat p) τ = some (Int32.ofNat (kb kd p), τ) := by
  have d2 : Int32.ofNat p / 2 = Int32.ofNat (p / 2) := divk (b := 2) (by omega) (by decide)
  have a2 : Int32.ofNat p + 2 = Int32.ofNat (p + 2) := addk p 2
  have o := x10_of (Z := Z) (k := t) (w := 0) (σ := τ) ht (by decide)
  rw [show 82 + 4 * t + 0 = 82 + 4 * t from rfl, h] at o
  have o : F_X10_of Z (Int32.ofNat t) 0 τ = some (Int32.ofNat kd, τ) := o
  unfold F_X10_burnsOf_J69 kb
  rw [o, mCall_some]
  rcases (show kd = 0 ∨ kd = 1 ∨ kd = 2 ∨ kd = 3 ∨ kd = 4 ∨ kd = 5 by omega) with rfl | rfl | rfl | rfl | rfl | rfl
  · rfl
  · rw [a2]; rfl
  · rw [d2]; rfl
  · rw [a2, show (2 : Int32) * Int32.ofNat (p + 2) = Int32.ofNat (2 * (p + 2)) from mulk 2 (p + 2)]; rfl
  · rw [d2]
    have e : F_X10_within Z (Int32.ofNat (p / 2) - 1) 0 99 τ = some (Int32.ofNat (p / 2 - 1), τ) := by
      by_cases h : 1 ≤ p / 2
      · rw [show Int32.ofNat (p / 2) - 1 = Int32.ofNat (p / 2 - 1) from subk (b := 1) h]
        unfold F_X10_within
        have p0 : 0 ≤ Int32.ofNat (p / 2 - 1) := (lek (a := 0) (by decide) (by omega)).mpr (Nat.zero_le _)
        have p1 : Int32.ofNat (p / 2 - 1) ≤ 99 := (lek (b := 99) (by omega) (by decide)).mpr (by omega)
        rw [if_pos p0, if_pos p1]
      · rw [show p / 2 = 0 by omega]; rfl
    rw [e]; rfl
  · rfl
end
