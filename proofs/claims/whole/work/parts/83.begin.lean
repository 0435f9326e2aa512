/-! ===== the start ===== -/
theorem e38 : rsh 4 39 2 = va_up (va_up (va_up (va_up (fun _ => none) 0 (some 39)) 1 (some 41)) 2 (some 43)) 3 (some 45) := by
  funext j
  unfold rsh va_up
  by_cases h : j < 4
  · rw [if_pos h]
    rcases (show j = 0 ∨ j = 1 ∨ j = 2 ∨ j = 3 by omega) with rfl | rfl | rfl | rfl <;> rfl
  · rw [if_neg h, if_neg (by omega), if_neg (by omega), if_neg (by omega), if_neg (by omega)]
theorem e47 : rsh 5 48 3 = va_up (va_up (va_up (va_up (va_up (fun _ => none) 0 (some 48)) 1 (some 51)) 2 (some 54)) 3 (some 57)) 4 (some 60) := by
  funext j
  unfold rsh va_up
  by_cases h : j < 5
  · rw [if_pos h]
    rcases (show j = 0 ∨ j = 1 ∨ j = 2 ∨ j = 3 ∨ j = 4 by omega) with rfl | rfl | rfl | rfl | rfl <;> rfl
  · rw [if_neg h, if_neg (by omega), if_neg (by omega), if_neg (by omega), if_neg (by omega), if_neg (by omega)]
set_option maxRecDepth 20000 in
theorem lay_eq182 : LAY = Zs182 := by
  unfold LAY
  rw [e38, e47]
  rfl
theorem lay182 : Lay Zs182 := by
  have e2 : Zs182[2]? = some (.inr (5, 14, some (fun _ => none))) := rfl
  have ez := zr_of e2
  refine ⟨fun i h hi hl => by rw [← lay_eq182]; exact hl, by rw [ez]; exact e2, fun t c hc => ?_⟩
  rw [ez] at hc
  cases hc
section
variable (σ : gS)
set_option maxRecDepth 20000
theorem s66 : S_start σ 66 = upd (upd (upd (fun _ => 0) 0 1) 3 20) 4 2 := rfl
theorem s4 : S_start σ 4 = upd (upd (upd (fun _ => 0) 12 20) 13 2) 18 1 := rfl
theorem s9 : S_start σ 9 = fun _ => 0 := rfl
theorem s10 : S_start σ 10 = fun _ => 0 := rfl
theorem s11 : S_start σ 11 = fun _ => 0 := rfl
theorem s12 : S_start σ 12 = fun k => if k < 3 then -1 else 0 := rfl
theorem s65 : S_start σ 65 = fun _ => 0 := rfl
theorem s0 : S_start σ 0 = upd (upd (fun _ => 0) 11 0) 12 0 := rfl
theorem s34 : S_start σ 34 = upd (fun _ => 0) 1 0 := rfl
theorem s39 : S_start σ 39 = upd (upd (fun _ => 0) 1 (-1)) 2 0 := rfl
theorem s41 : S_start σ 41 = upd (upd (fun _ => 0) 1 (-1)) 2 0 := rfl
theorem s43 : S_start σ 43 = upd (upd (fun _ => 0) 1 (-1)) 2 0 := rfl
theorem s45 : S_start σ 45 = upd (upd (fun _ => 0) 1 (-1)) 2 0 := rfl
theorem s40 : S_start σ 40 = fun _ => 0 := rfl
theorem s42 : S_start σ 42 = fun _ => 0 := rfl
theorem s44 : S_start σ 44 = fun _ => 0 := rfl
theorem s46 : S_start σ 46 = fun _ => 0 := rfl
theorem s48 : S_start σ 48 = upd (fun _ => 0) 1 0 := rfl
theorem s51 : S_start σ 51 = upd (fun _ => 0) 1 0 := rfl
theorem s54 : S_start σ 54 = upd (fun _ => 0) 1 0 := rfl
theorem s57 : S_start σ 57 = upd (fun _ => 0) 1 0 := rfl
theorem s60 : S_start σ 60 = upd (fun _ => 0) 1 0 := rfl
theorem s81 : S_start σ 81 = upd (upd (upd (upd (fun _ => 0) 0 (-1)) 1 (-1)) 2 (-1)) 3 (-1) := rfl
theorem s82 : S_start σ 82 = fun _ => 0 := rfl
theorem s83 : S_start σ 83 = fun _ => 0 := rfl
theorem s84 : S_start σ 84 = fun _ => 0 := rfl
theorem s74 : S_start σ 74 = upd (upd (upd (upd (upd (upd (upd (upd (upd (upd (upd (fun _ => 0) 0 98) 1 117) 2 114) 3 110) 4 102) 5 101) 6 101) 7 102) 8 105) 9 110) 10 101 := rfl
theorem s75 : S_start σ 75 = upd (upd (upd (upd (fun _ => 0) 0 0) 1 4) 2 7) 3 11 := rfl
theorem upd_off (f : Nat → Int32) {k j : Nat} (x : Int32) (h : j ≠ k) : upd f k x j = f j := if_neg h
theorem s66z {k : Nat} (h : 5 ≤ k) : S_start σ 66 k = 0 := by
  rw [s66, upd_off _ _ (by omega), upd_off _ _ (by omega), upd_off _ _ (by omega)]
theorem hp182 : HP Zs182 (S_start σ) (S_start σ) 4 66 0 0 0 0 0 := by
  refine ⟨⟨by omega, by omega, by omega, by omega, by omega⟩, ?_, ?_, fun i hi => by omega, fun i hi => ?_, fun i hi => ?_, fun _ => 0, fun t ht => by omega, fun key hk => ?_⟩
  · rw [s4]
    exact ⟨rfl, rfl, rfl, rfl, rfl, ⟨2, by omega, rfl⟩⟩
  · intro j i hd
    rcases hd with ⟨rfl, h1, h2⟩ | ⟨-, -, h⟩ | ⟨rfl, h⟩ | ⟨rfl, h⟩ | ⟨rfl, h⟩
    · show S_start σ 4 i = _
      rw [s4, s66]
      rcases (show i = 9 ∨ i = 10 ∨ i = 11 ∨ i = 12 ∨ i = 13 ∨ i = 14 ∨ i = 15 ∨ i = 16 ∨ i = 17 ∨ i = 18 by omega) with rfl | rfl | rfl | rfl | rfl | rfl | rfl | rfl | rfl | rfl <;> rfl
    · omega
    · show S_start σ 9 i = S_start σ 66 (10 + i)
      rw [s9, s66z σ (by omega)]
    · show S_start σ 10 i = S_start σ 66 (18 + i)
      rw [s10, s66z σ (by omega)]
    · show S_start σ 11 i = S_start σ 66 (130 + i)
      rw [s11, s66z σ (by omega)]
  · show le (S_start σ 9 i) 99
    rw [s9]; exact ⟨0, by omega, rfl⟩
  · show le (S_start σ 10 i) 2
    rw [s10]; exact ⟨0, by omega, rfl⟩
  · left
    refine ⟨?_, fun t ht => by omega⟩
    show S_start σ 12 key = -1
    rw [s12]; exact if_pos hk
theorem rr182 : RR Zs182 (S_start σ) (S_start σ) := by
  refine ⟨⟨0, 0, 0, 0, 0, hp182 σ, ⟨by omega, by omega⟩, Or.inl ⟨by rw [s0]; rfl, by rw [s65]⟩⟩, fun q hq => ?_, fun q hq => ?_, ⟨0, by omega, by rw [s34]; rfl, by rw [s65]; rfl, fun k hk => by omega⟩, ⟨0, by omega, by rw [s0]; rfl, by rw [s65]; rfl, fun k hk => by omega⟩, fun k hk => ?_, fun k hk => ?_⟩
  · rw [s81, s82, s83]
    rcases (show q = 0 ∨ q = 1 ∨ q = 2 ∨ q = 3 by omega) with rfl | rfl | rfl | rfl
    · show S_start σ 39 1 = _ ∧ (S_start σ 39 1 = -1 ∨ S_start σ 39 1 = 0 ∨ S_start σ 39 1 = 1) ∧ le (S_start σ 39 2) 24 ∧ S_start σ 39 2 = 0 ∧ ∀ k, k < 24 → S_start σ 40 k = 0
      rw [s39, s40]; exact ⟨rfl, Or.inl rfl, ⟨0, by omega, rfl⟩, rfl, fun _ _ => rfl⟩
    · show S_start σ 41 1 = _ ∧ (S_start σ 41 1 = -1 ∨ S_start σ 41 1 = 0 ∨ S_start σ 41 1 = 1) ∧ le (S_start σ 41 2) 24 ∧ S_start σ 41 2 = 0 ∧ ∀ k, k < 24 → S_start σ 42 k = 0
      rw [s41, s42]; exact ⟨rfl, Or.inl rfl, ⟨0, by omega, rfl⟩, rfl, fun _ _ => rfl⟩
    · show S_start σ 43 1 = _ ∧ (S_start σ 43 1 = -1 ∨ S_start σ 43 1 = 0 ∨ S_start σ 43 1 = 1) ∧ le (S_start σ 43 2) 24 ∧ S_start σ 43 2 = 0 ∧ ∀ k, k < 24 → S_start σ 44 k = 0
      rw [s43, s44]; exact ⟨rfl, Or.inl rfl, ⟨0, by omega, rfl⟩, rfl, fun _ _ => rfl⟩
    · show S_start σ 45 1 = _ ∧ (S_start σ 45 1 = -1 ∨ S_start σ 45 1 = 0 ∨ S_start σ 45 1 = 1) ∧ le (S_start σ 45 2) 24 ∧ S_start σ 45 2 = 0 ∧ ∀ k, k < 24 → S_start σ 46 k = 0
      rw [s45, s46]; exact ⟨rfl, Or.inl rfl, ⟨0, by omega, rfl⟩, rfl, fun _ _ => rfl⟩
  · have z : S_start σ (48 + 3 * q) 1 = 0 := by
      rcases (show q = 0 ∨ q = 1 ∨ q = 2 ∨ q = 3 ∨ q = 4 by omega) with rfl | rfl | rfl | rfl | rfl
      · show S_start σ 48 1 = 0; rw [s48]; rfl
      · show S_start σ 51 1 = 0; rw [s51]; rfl
      · show S_start σ 54 1 = 0; rw [s54]; rfl
      · show S_start σ 57 1 = 0; rw [s57]; rfl
      · show S_start σ 60 1 = 0; rw [s60]; rfl
    rw [z, s84]
    exact ⟨rfl, ⟨0, by omega, rfl⟩, fun h => absurd h (by decide), fun h => absurd h (by decide), fun h => absurd h (by decide)⟩
  · rw [s74]
    rcases (show k = 0 ∨ k = 1 ∨ k = 2 ∨ k = 3 ∨ k = 4 ∨ k = 5 ∨ k = 6 ∨ k = 7 ∨ k = 8 ∨ k = 9 ∨ k = 10 by omega) with rfl | rfl | rfl | rfl | rfl | rfl | rfl | rfl | rfl | rfl | rfl <;> rfl
  · rw [s75]
    rcases (show k = 0 ∨ k = 1 ∨ k = 2 ∨ k = 3 by omega) with rfl | rfl | rfl | rfl <;> rfl
end
