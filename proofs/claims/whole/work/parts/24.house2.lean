/-! ===== doors, things, visitors, counts ===== -/
theorem same {Z : List gH} {σ τ : gS} (hr : RR Z σ τ) {r : Int32} {A B : Option (Int32 × gS)} (a : A = some (r, σ)) (b : B = some (r, τ)) : ∃ r σ2 τ2, A = some (r, σ2) ∧ B = some (r, τ2) ∧ RR Z σ2 τ2 ∧ (∀ c, 65 ≤ c → c < 90 → σ2 c = σ c) ∧ ∀ c, c < 65 ∨ 90 ≤ c → τ2 c = τ c :=
  ⟨r, σ, τ, a, b, hr, fun _ _ _ => rfl, fun _ _ => rfl⟩
theorem gu_comm (σ : gS) {c k c2 k2 : Nat} {v w : Int32} (h : c ≠ c2 ∨ k ≠ k2 ∨ v = w) : gu (gu σ c k v) c2 k2 w = gu (gu σ c2 k2 w) c k v := by
  funext a b
  rw [gu_at, gu_at, gu_at, gu_at]
  by_cases h1 : a = c ∧ b = k
  · by_cases h2 : a = c2 ∧ b = k2
    · rw [if_pos h2, if_pos h1]
      rcases h with h | h | h
      · omega
      · omega
      · exact h.symm
    · rw [if_neg h2, if_pos h1, if_pos h1]
  · rw [if_neg h1, if_neg h1]
theorem ix40 (k : Nat) : (82 : Int32) + 4 * Int32.ofNat k = Int32.ofNat (82 + 4 * k) := by
  show Int32.ofNat 82 + Int32.ofNat 4 * Int32.ofNat k = _
  rw [mulk, addk]
def a2 (x y : Int32) : Int32 := if wi x 0 7 = 0 then 0 else if wi y 0 7 = 0 then 0 else if x = y then 0 else 1
theorem x9_areTwo {Z : List gH} {x y : Int32} {σ : gS} : F_X9_areTwoRooms Z x y σ = some (a2 x y, σ) := by
  unfold F_X9_areTwoRooms a2
  rw [x9_isRoom, mCall_some]
  split
  · rfl
  · rw [x9_isRoom, mCall_some]
    split
    · rfl
    · split <;> rfl
theorem x10_areTwo {Z : List gH} {x y : Int32} {σ : gS} : F_X10_areTwo Z x y σ = some (a2 x y, σ) := by
  unfold F_X10_areTwo a2
  rw [x10_isRoom, mCall_some]
  split
  · rfl
  · rw [x10_isRoom, mCall_some]
    split
    · rfl
    · split <;> rfl
theorem a2_cases (x y : Int32) : a2 x y = 0 ∨ ∃ k l, k ≤ 7 ∧ l ≤ 7 ∧ k ≠ l ∧ x = Int32.ofNat k ∧ y = Int32.ofNat l ∧ a2 x y = 1 := by
  unfold a2
  rcases rng x 7 (by decide) with ⟨k, hk, rfl⟩ | ho
  · rcases rng y 7 (by decide) with ⟨l, hl, rfl⟩ | ho
    · have e : wi (Int32.ofNat k) 0 7 = 1 := wi_in (b := 7) hk (by decide)
      have e2 : wi (Int32.ofNat l) 0 7 = 1 := wi_in (b := 7) hl (by decide)
      rw [e, e2, if_neg (by decide), if_neg (by decide)]
      by_cases hkl : k = l
      · left; rw [if_pos (by rw [hkl])]
      · right; exact ⟨k, l, hk, hl, hkl, rfl, rfl, if_neg (fun q => hkl ((eqk (by omega) (by omega)).mp q))⟩
    · have e2 : wi y 0 7 = 0 := wi_out ho
      left
      rw [e2]; split <;> rfl
  · have e2 : wi x 0 7 = 0 := wi_out ho
    left
    rw [e2]; rfl
theorem x0_doorBetween {Z : List gH} {h k l : Nat} {σ : gS} (hk : k ≤ 7) (hl : l ≤ 7) : F_X0_doorBetween Z h (Int32.ofNat k) (Int32.ofNat l) σ = some (σ (h + 6) (8 * k + l), σ) := by
  unfold F_X0_doorBetween
  rw [ix8c, mInk (by omega) (by decide), nnk (by omega)]
theorem x0_putDoor {Z : List gH} {h k l : Nat} {v : Int32} {σ : gS} (hk : k ≤ 7) (hl : l ≤ 7) : F_X0_putDoor Z h (Int32.ofNat k) (Int32.ofNat l) v σ = some (0, gu (gu σ (h + 6) (8 * k + l) v) (h + 6) (8 * l + k) v) := by
  unfold F_X0_putDoor
  rw [ix8c, ix8c, mInk (by omega) (by decide), nnk (by omega), mLet_eq, mInk (by omega) (by decide), nnk (by omega)]; rfl
theorem x10_leaves {Z : List gH} {k l : Nat} {v : Int32} {τ : gS} (hk : k ≤ 7) (hl : l ≤ 7) (hkl : k ≠ l) : F_X10_leaves Z (Int32.ofNat k) (Int32.ofNat l) v τ = some (τ 66 (18 + (8 * k + l)), gu (gu τ 66 (18 + (8 * k + l)) v) 66 (18 + (8 * l + k)) v) := by
  unfold F_X10_leaves
  rw [ix8, ix8, mInk (by omega) (by decide), nnk (by omega), mLet_eq, x10_swaps (by omega), mCall_some, Nat.add_assoc, Nat.add_assoc, gu_off _ _ (Or.inr (by omega)), gu_comm τ (Or.inr (Or.inr rfl))]
section
variable {Z : List gH}
theorem sim_doorTold (x y : Int32) : Sim Z (F_X9_doorTold Z x y) (F_X10_doorTold Z x y) := by
  refine Sim.read (fun σ τ hr => ?_)
  obtain ⟨⟨N, V, T, M, B, hp, hm, hi⟩, -⟩ := hr
  unfold F_X9_doorTold F_X10_doorTold
  rw [x9_areTwo, x10_areTwo, mCall_some, mCall_some]
  rcases a2_cases x y with e | ⟨k, l, hk, hl, hkl, rfl, rfl, e⟩
  · rw [e]; exact ⟨_, rfl, rfl⟩
  · rw [e, if_neg (by decide), if_neg (by decide), x0_doorBetween hk hl, ix8, mInk (by omega) (by decide), nnk (by omega), Nat.add_assoc]
    exact ⟨_, rfl, by rw [show τ 66 (18 + (8 * k + l)) = σ (4 + 6) (8 * k + l) from (hp.2.2.1 6 (8 * k + l) (by unfold dom; omega)).symm]⟩
theorem sim_door (x y z : Int32) : Sim Z (F_X9_door Z x y z) (F_X10_door Z x y z) := by
  intro σ τ hr
  obtain ⟨⟨N, V, T, M, B, hp, hm, hi⟩, -⟩ := id hr
  unfold F_X9_door F_X10_door
  rw [x9_areTwo, x10_areTwo, mCall_some, mCall_some]
  rcases a2_cases x y with e | ⟨k, l, hk, hl, hkl, rfl, rfl, e⟩
  · rw [e]; exact same hr rfl rfl
  · rw [e, if_neg (by decide), if_neg (by decide), x9_within, x10_in, mCall_some, mCall_some]
    rcases rng z 2 (by decide) with ⟨v, hv, rfl⟩ | ho
    · have e2 : wi (Int32.ofNat v) 0 2 = 1 := wi_in (b := 2) hv (by decide)
      rw [e2, if_neg (by decide), if_neg (by decide), x0_doorBetween hk hl, mCall_some, x0_putDoor hk hl, mCall_some, x10_leaves hk hl hkl, mCall_some]
      have ok : ∀ q, okv 6 q (Int32.ofNat v) := fun q => by unfold okv; exact Or.inr (Or.inr (Or.inr (Or.inr (Or.inr (Or.inr (Or.inl ⟨rfl, le_k hv⟩))))))
      have hr1 := hr.put hp hm (j := 6) (i := 8 * k + l) (by unfold dom; omega) (ok _)
      have hp1 := hp.upd (by omega) (j := 6) (i := 8 * k + l) (by unfold dom; omega) (ok _)
      have hr2 := hr1.put hp1 hm (j := 6) (i := 8 * l + k) (by unfold dom; omega) (ok _)
      refine ⟨_, _, _, rfl, ?_, hr2, fun c q1 q2 => by rw [frC (j := 6) (by omega) c q1 q2, frC (j := 6) (by omega) c q1 q2], fun c q => by rw [frM c q, frM c q]⟩
      rw [show τ 66 (18 + (8 * k + l)) = σ (4 + 6) (8 * k + l) from (hp.2.2.1 6 (8 * k + l) (by unfold dom; omega)).symm]
      rfl
    · have e2 : wi z 0 2 = 0 := wi_out ho
      rw [e2]; exact same hr rfl rfl
theorem sim_turns (x y : Int32) : Sim Z (F_X9_turns Z x y) (F_X10_turns Z x y) := by
  intro σ τ hr
  obtain ⟨⟨N, V, T, M, B, hp, hm, hi⟩, -⟩ := id hr
  have hN := hp.1.1
  have e9 : σ 4 9 = Int32.ofNat N := hp.2.1.1
  have t9 : τ 66 1 = Int32.ofNat N := (hp.2.2.1 0 9 (by unfold dom; omega)).symm.trans e9
  unfold F_X9_turns F_X10_turns
  rw [x9_isThing, x10_isThing, mCall_some, mCall_some, e9, t9]
  rcases rngN x N (by omega) with ⟨k, hk, rfl⟩ | ho
  · rw [wi_inN hk (by omega), if_neg (by decide), if_neg (by decide), x9_isKind, x10_in, mCall_some, mCall_some]
    rcases rng y 5 (by decide) with ⟨v, hv, rfl⟩ | ho
    · have e2 : wi (Int32.ofNat v) 0 5 = 1 := wi_in (b := 5) hv (by decide)
      have e4 := ix40 k
      rw [e2, if_neg (by decide), if_neg (by decide), mInk (by omega) (by decide), nnk (by omega), mLet_eq, mInk (by omega) (by decide), mLet_eq, e4, x10_swaps (by omega), mCall_some]
      refine ⟨_, _, _, rfl, ?_, hr.put hp hm (j := 1) (i := k) (by unfold dom; omega) (by unfold okv; exact Or.inr (Or.inl ⟨rfl, le_k hv⟩)), frC (j := 1) (by omega), frM⟩
      rw [show τ 66 (82 + 4 * k) = σ (4 + 1) k from (hp.2.2.1 1 k (by unfold dom; omega)).symm]
      rfl
    · have e2 : wi y 0 5 = 0 := wi_out ho
      rw [e2]; exact same hr rfl rfl
  · rw [wi_out ho]; exact same hr rfl rfl
theorem sim_count (x : Int32) : Sim Z (F_X9_count Z x) (F_X10_count Z x) := by
  refine Sim.read (fun σ τ hr => ?_)
  obtain ⟨⟨N, V, T, M, B, hp, hm, hi⟩, -, -, ⟨n, -, t1, t2, -⟩, ⟨w, -, w1, w2, -⟩, -⟩ := hr
  have z : ∀ i, 9 ≤ i → i ≤ 18 → σ 4 i = τ 66 (mp 0 i) := fun i h1 h2 => hp.2.2.1 0 i (by unfold dom; omega)
  unfold F_X9_count F_X10_count
  rw [show σ 4 9 = τ 66 1 from z 9 (by omega) (by omega), show σ 4 17 = τ 66 2 from z 17 (by omega) (by omega), show σ 4 12 = τ 66 3 from z 12 (by omega) (by omega), show σ 4 13 = τ 66 4 from z 13 (by omega) (by omega), show σ 4 10 = τ 66 5 from z 10 (by omega) (by omega), show σ 4 11 = τ 66 9 from z 11 (by omega) (by omega), show σ 4 18 = τ 66 0 from z 18 (by omega) (by omega), t1, t2, w1, w2]
  repeat' split
  all_goals exact ⟨_, rfl, rfl⟩
end
