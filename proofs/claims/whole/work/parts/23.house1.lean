/-! ===== one place of a house becomes another; plain calls on the house ===== -/
def okv (j i : Nat) (v : Int32) : Prop := (j = 0 ∧ (i = 12 ∨ i = 15 ∨ i = 16 ∨ i = 18 ∨ (i = 13 ∧ le v 9))) ∨ (j = 1 ∧ le v 5) ∨ (j = 2 ∧ le v 7) ∨ (j = 3 ∧ le v 99) ∨ (j = 4 ∧ le v 1) ∨ (j = 5 ∧ le v 99) ∨ (j = 6 ∧ le v 2) ∨ j = 7
theorem gu_le {σ : gS} {c k c2 k2 m : Nat} {v : Int32} (h : le (σ c2 k2) m) (hv : c2 = c → k2 = k → le v m) : le (gu σ c k v c2 k2) m := by
  rw [gu_at]
  by_cases e : c2 = c ∧ k2 = k
  · rw [if_pos e]; exact hv e.1 e.2
  · rw [if_neg e]; exact h
theorem HP.upd {Z : List gH} {σ τ : gS} {h a N V T M B : Nat} (hp : HP Z σ τ h a N V T M B) (hh : h + 8 < 90) {j i : Nat} (hd : dom 12 j i) {v : Int32} (hv : okv j i v) : HP Z (gu σ (h + j) i v) (gu τ a (mp j i) v) h a N V T M B := by
  obtain ⟨p1, p2, p3, p4, p5, p6, p7⟩ := hp
  have hj : j ≤ 7 := by rcases hd with h | h | h | h | h <;> omega
  have hs : ∀ q, q = 9 ∨ q = 10 ∨ q = 11 ∨ q = 17 ∨ q = 14 → gu σ (h + j) i v h q = σ h q := by
    intro q hq
    refine gu_off _ _ ?_
    rcases hv with ⟨h1, h2⟩ | h1 | h1 | h1 | h1 | h1 | h1 | h1
    · right; rcases h2 with h2 | h2 | h2 | h2 | h2 <;> omega
    all_goals (left; omega)
  refine ⟨p1, ⟨by rw [hs 9 (by omega)]; exact p2.1, by rw [hs 10 (by omega)]; exact p2.2.1, by rw [hs 11 (by omega)]; exact p2.2.2.1, by rw [hs 17 (by omega)]; exact p2.2.2.2.1, by rw [hs 14 (by omega)]; exact p2.2.2.2.2.1, gu_le p2.2.2.2.2.2 (fun e1 e2 => ?_)⟩, p3.upd p1.1 hd v, fun q hq => ⟨gu_le (p4 q hq).1 (fun e1 e2 => ?_), gu_le (p4 q hq).2.1 (fun e1 e2 => ?_), gu_le (p4 q hq).2.2.1 (fun e1 e2 => ?_), gu_le (p4 q hq).2.2.2 (fun e1 e2 => ?_)⟩, fun q hq => gu_le (p5 q hq) (fun e1 e2 => ?_), fun q hq => gu_le (p6 q hq) (fun e1 e2 => ?_), p7.fr (fun c hc => gu_ne _ _ _ (by omega)) (gu_ne _ _ _ (by omega)) (fun q hq => gu_off _ _ (Or.inr (by have := mp_lt hd; omega)))⟩
  all_goals
    rcases hv with ⟨h1, h2⟩ | ⟨h1, h2⟩ | ⟨h1, h2⟩ | ⟨h1, h2⟩ | ⟨h1, h2⟩ | ⟨h1, h2⟩ | ⟨h1, h2⟩ | h1 <;> first | exact h2 | (exfalso; omega) | (rcases h2 with h2 | h2 | h2 | h2 | h2 <;> first | exact h2.2 | (exfalso; omega))
/-- both sides write the same place of the house that is now -/
theorem RR.put {Z : List gH} {σ τ : gS} {N V T M B : Nat} (h : RR Z σ τ) (hp : HP Z σ τ 4 66 N V T M B) (hm : M ≤ 9999 ∧ B ≤ 1188 * M) {j i : Nat} (hd : dom 12 j i) {v : Int32} (hv : okv j i v) : RR Z (gu σ (4 + j) i v) (gu τ 66 (mp j i) v) := by
  have hj : j ≤ 7 := by rcases hd with h | h | h | h | h <;> omega
  exact h.now hp (fun c _ hc => gu_ne _ _ _ (by omega)) (fun c _ hc => gu_ne _ _ _ hc) ⟨by rw [gu_ne _ _ _ (by omega)], by rw [gu_ne _ _ _ (by omega)], by rw [gu_ne _ _ _ (by omega)]⟩ (hp.upd (by omega) hd hv) hm (Nat.le_refl T)
theorem frC {σ : gS} {j i : Nat} {v : Int32} (hj : j ≤ 8) (c : Nat) (h1 : 65 ≤ c) (h2 : c < 90) : gu σ (4 + j) i v c = σ c := gu_ne _ _ _ (by omega)
theorem frM {τ : gS} {i : Nat} {v : Int32} (c : Nat) (h : c < 65 ∨ 90 ≤ c) : gu τ 66 i v c = τ c := gu_ne _ _ _ (by omega)
section
variable {Z : List gH}
theorem sim_heat (x : Int32) : Sim Z (F_X9_heat Z x) (F_X10_heat Z x) := by
  refine Sim.read (fun σ τ hr => ?_)
  obtain ⟨⟨N, V, T, M, B, hp, hm, hi⟩, -⟩ := hr
  unfold F_X9_heat F_X10_heat
  rw [x9_isRoom, x10_isRoom, mCall_some, mCall_some]
  rcases rng x 7 (by decide) with ⟨k, hk, rfl⟩ | ho
  · have e : wi (Int32.ofNat k) 0 7 = 1 := wi_in (b := 7) hk (by decide)
    have e2 : (10 : Int32) + Int32.ofNat k = Int32.ofNat (10 + k) := addk 10 k
    rw [e, if_neg (by decide), if_neg (by decide), mInk (by omega) (by decide), e2, mInk (by omega) (by decide), nnk (by omega), nnk (by omega)]
    exact ⟨_, rfl, by rw [show τ 66 (10 + k) = σ 9 k from (hp.2.2.1 5 k (by unfold dom; omega)).symm]⟩
  · have e : wi x 0 7 = 0 := wi_out ho
    rw [e]
    exact ⟨_, rfl, rfl⟩
theorem sim_seed (x : Int32) : Sim Z (F_X9_seed Z x) (F_X10_seed Z x) := by
  intro σ τ hr
  obtain ⟨⟨N, V, T, M, B, hp, hm, hi⟩, -⟩ := id hr
  unfold F_X9_seed F_X10_seed
  have e : F_X10_swaps Z 0 x τ = some (τ 66 0, gu τ 66 0 x) := x10_swaps (q := 0) (by decide)
  rw [e]
  refine ⟨σ 4 18, gu σ 4 18 x, gu τ 66 0 x, rfl, ?_, hr.put hp hm (j := 0) (i := 18) (by unfold dom; omega) (by unfold okv; omega), frC (j := 0) (by omega), frM⟩
  rw [mCall_some, show τ 66 0 = σ 4 18 from (hp.2.2.1 0 18 (by unfold dom; omega)).symm]
theorem sim_heats (hZ : Lay Z) (x y : Int32) : Sim Z (F_X9_heats Z x y) (F_X10_heats Z x y) := by
  intro σ τ hr
  obtain ⟨⟨N, V, T, M, B, hp, hm, hi⟩, -⟩ := id hr
  unfold F_X9_heats F_X10_heats
  rw [x9_isRoom, x10_isRoom, mCall_some, mCall_some]
  rcases rng x 7 (by decide) with ⟨k, hk, rfl⟩ | ho
  · have e : wi (Int32.ofNat k) 0 7 = 1 := wi_in (b := 7) hk (by decide)
    rw [e, if_neg (by decide), if_neg (by decide), x10_in, mCall_some]
    rcases rng y 99 (by decide) with ⟨v, hv, rfl⟩ | hv
    · have ey : wi (Int32.ofNat v) 0 99 = 1 := wi_in (b := 99) hv (by decide)
      have e2 : (10 : Int32) + Int32.ofNat k = Int32.ofNat (10 + k) := addk 10 k
      have e3 : F_X9_replaced Z 9 (Int32.ofNat k) (Int32.ofNat v) 99 σ = some (σ 9 k, gu σ 9 k (Int32.ofNat v)) := x9_replaced (m := 99) (zl_at (hZ.at (i := 9) rfl)) (by decide) (by omega) hv (by decide)
      rw [e3, ey, if_neg (by decide), e2, x10_swaps (by omega)]
      refine ⟨σ 9 k, gu σ 9 k (Int32.ofNat v), gu τ 66 (10 + k) (Int32.ofNat v), rfl, ?_, hr.put hp hm (j := 5) (i := k) (by unfold dom; omega) (by unfold okv; exact Or.inr (Or.inr (Or.inr (Or.inr (Or.inr (Or.inl ⟨rfl, le_k hv⟩)))))), frC (j := 5) (by omega), frM⟩
      rw [mCall_some, show τ 66 (10 + k) = σ 9 k from (hp.2.2.1 5 k (by unfold dom; omega)).symm]
    · have ey : wi y 0 99 = 0 := wi_out hv
      have e3 : F_X9_replaced Z 9 (Int32.ofNat k) y 99 σ = some (-1000000001, σ) := x9_replaced_out hv
      rw [e3, ey]
      exact ⟨_, σ, τ, rfl, rfl, hr, fun _ _ _ => rfl, fun _ _ => rfl⟩
  · have e : wi x 0 7 = 0 := wi_out ho
    rw [e]
    exact ⟨_, σ, τ, rfl, rfl, hr, fun _ _ _ => rfl, fun _ _ => rfl⟩
end
