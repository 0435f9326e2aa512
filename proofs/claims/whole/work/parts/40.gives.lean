/-- what a thing gives of what it burns -/
def kGv (kd u : Nat) : Nat := if kd = 1 then u + 3 else if kd = 2 then u / 2 else if kd = 3 then u + 3 else if kd = 4 then u / 2 else u
section
variable {Z : List gH}
theorem kGv_le {kd u : Nat} (hu : u ≤ 202) : kGv kd u ≤ 205 := by
  unfold kGv
  repeat' split
  all_goals omega
theorem kGv_of {kd u : Nat} (hkd : kd ≤ 5) (hu : u ≤ 202) : (if Int32.ofNat kd = 1 then Int32.ofNat u + 3 else if Int32.ofNat kd = 2 then Int32.ofNat u / 2 else if Int32.ofNat kd = 3 then Int32.ofNat u + 3 else if Int32.ofNat kd = 4 then Int32.ofNat u / 2 else Int32.ofNat u) = Int32.ofNat (kGv kd u) := by
  have e3 : Int32.ofNat u + 3 = Int32.ofNat (u + 3) := addk u 3
  have e2 : Int32.ofNat u / 2 = Int32.ofNat (u / 2) := divk (b := 2) (by omega) (by omega)
  rw [e3, e2]
  rcases (show kd = 0 ∨ kd = 1 ∨ kd = 2 ∨ kd = 3 ∨ kd = 4 ∨ kd = 5 by omega) with rfl | rfl | rfl | rfl | rfl | rfl <;> rfl
theorem x1_gives {kd u : Nat} {σ : gS} (hkd : kd ≤ 5) (hu : u ≤ 202) : F_X1_gives Z (Int32.ofNat kd) (Int32.ofNat u) σ = some (Int32.ofNat (kGv kd u), σ) := by
  rw [← kGv_of hkd hu]
  unfold F_X1_gives
  repeat' split
  all_goals rfl
theorem x10_givesOf {t kd u : Nat} {τ : gS} (ht : t < 12) (hkd : kd ≤ 5) (hu : u ≤ 202) (e : τ 66 (82 + 4 * t) = Int32.ofNat kd) : F_X10_givesOf Z (Int32.ofNat t) (Int32.ofNat u) τ = some (Int32.ofNat (kGv kd u), τ) := by
  have o := x10_of (Z := Z) (k := t) (w := 0) (σ := τ) ht (by decide)
  have o : F_X10_of Z (Int32.ofNat t) 0 τ = some (τ 66 (82 + 4 * t), τ) := o
  rw [← kGv_of hkd hu]
  unfold F_X10_givesOf
  rw [o, mCall_some, e]
  repeat' split
  all_goals rfl
theorem within_min {b m : Nat} {τ : gS} (hb : b < 2 ^ 31) (hm : m < 2 ^ 31) : F_X10_within Z (Int32.ofNat b) 0 (Int32.ofNat m) τ = some (Int32.ofNat (min m b), τ) := by
  obtain ⟨p, hp, e1, e2⟩ := clamp (Z := Z) (Int32.ofNat b) m hm τ
  rw [minK hm hb] at e1
  have e3 : mMax (0 : Int32) (Int32.ofNat (min m b)) = Int32.ofNat (max 0 (min m b)) := maxK (a := 0) (by omega) (by omega)
  rw [e3, Nat.zero_max] at e1
  rw [e2, e1]
end
