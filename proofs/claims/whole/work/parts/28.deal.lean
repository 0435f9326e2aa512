/-! ===== deal ===== -/
theorem minK {a b : Nat} (ha : a < 2 ^ 31) (hb : b < 2 ^ 31) : mMin (Int32.ofNat a) (Int32.ofNat b) = Int32.ofNat (min a b) := by
  unfold mMin
  by_cases h : b < a
  · rw [if_pos ((ltk hb ha).mpr h), Nat.min_eq_right (by omega)]
  · rw [if_neg (fun q => h ((ltk hb ha).mp q)), Nat.min_eq_left (by omega)]
theorem maxK {a b : Nat} (ha : a < 2 ^ 31) (hb : b < 2 ^ 31) : mMax (Int32.ofNat a) (Int32.ofNat b) = Int32.ofNat (max a b) := by
  unfold mMax
  by_cases h : a < b
  · rw [if_pos ((ltk ha hb).mpr h), Nat.max_eq_right (by omega)]
  · rw [if_neg (fun q => h ((ltk ha hb).mp q)), Nat.max_eq_left (by omega)]
section
variable {Z : List gH}
def zz (z : Int32) : Int32 := z * 1103515245 + 12345
theorem x0_draw {h : Nat} {σ : gS} : F_X0_draw Z h σ = some (mUsr (zz (σ h 18)) 8, gu σ h 18 (zz (σ h 18))) := by
  unfold F_X0_draw
  rw [mLet_eq, gu_self]; rfl
theorem x10_draw {τ : gS} : F_X10_draw Z τ = some (mUsr (zz (τ 66 0)) 8, gu τ 66 0 (zz (τ 66 0))) := by
  unfold F_X10_draw
  rw [mLet_eq, gu_self]; rfl
theorem draw_pair {σ τ : gS} {N V T M B : Nat} (hr : RR Z σ τ) (hp : HP Z σ τ 4 66 N V T M B) (hm : M ≤ 9999 ∧ B ≤ 1188 * M) : ∃ w σ2 τ2, F_X0_draw Z 4 σ = some (mUsr w 8, σ2) ∧ F_X10_draw Z τ = some (mUsr w 8, τ2) ∧ RR Z σ2 τ2 ∧ HP Z σ2 τ2 4 66 N V T M B ∧ (∀ c, 65 ≤ c → c < 90 → σ2 c = σ c) ∧ ∀ c, c < 65 ∨ 90 ≤ c → τ2 c = τ c := by
  have e : τ 66 0 = σ 4 18 := (hp.2.2.1 0 18 (by unfold dom; omega)).symm
  refine ⟨zz (σ 4 18), gu σ 4 18 (zz (σ 4 18)), gu τ 66 0 (zz (σ 4 18)), x0_draw, by rw [x10_draw, e], hr.put hp hm (j := 0) (i := 18) (by unfold dom; omega) (by unfold okv; omega), hp.upd (by omega) (j := 0) (i := 18) (by unfold dom; omega) (by unfold okv; omega), frC (j := 0) (by omega), frM⟩
theorem draw_thing {σ τ : gS} {N V T M B : Nat} (hr : RR Z σ τ) (hp : HP Z σ τ 4 66 N V T M B) (hm : M ≤ 9999 ∧ B ≤ 1188 * M) (hN : N < 12) : ∃ σ2 τ2, F_X0_drawThing Z 4 σ = some (0, σ2) ∧ (∀ K : gS → Option (Int32 × gS), mCall (F_X10_draw Z τ) (fun r1 s2 => mLet ((mRem r1 6)) (fun v3 => mCall (F_X10_draw Z s2) (fun r4 s5 => mLet ((mRem r4 8)) (fun v6 => mCall (F_X10_draw Z s5) (fun r7 s8 => mLet ((mRem r7 60)) (fun v9 => mCall (F_X10_draw Z s8) (fun r10 s11 => if (mRem r10 4) = 0 then mCall (F_X10_comes Z v3 v6 v9 1 s11) (fun r14 s15 => K s15) else mCall (F_X10_comes Z v3 v6 v9 0 s11) (fun r12 s13 => K s13)))))))) = K τ2) ∧ RR Z σ2 τ2 ∧ HP Z σ2 τ2 4 66 (N + 1) V T M B ∧ (∀ c, 65 ≤ c → c < 90 → σ2 c = σ c) ∧ ∀ c, c < 65 ∨ 90 ≤ c → τ2 c = τ c := by
  obtain ⟨w1, s1, t1, a1, b1, r1, p1, f1, g1⟩ := draw_pair hr hp hm
  obtain ⟨w2, s2, t2, a2, b2, r2, p2, f2, g2⟩ := draw_pair r1 p1 hm
  obtain ⟨w3, s3, t3, a3, b3, r3, p3, f3, g3⟩ := draw_pair r2 p2 hm
  obtain ⟨w4, s4, t4, a4, b4, r4, p4, f4, g4⟩ := draw_pair r3 p3 hm
  obtain ⟨k1, hk1, e1⟩ := rem8 w1 (m := 6) (by decide) (by decide)
  obtain ⟨k2, hk2, e2⟩ := rem8 w2 (m := 8) (by decide) (by decide)
  obtain ⟨k3, hk3, e3⟩ := rem8 w3 (m := 60) (by decide) (by decide)
  have e1 : mRem (mUsr w1 8) 6 = Int32.ofNat k1 := e1
  have e2 : mRem (mUsr w2 8) 8 = Int32.ofNat k2 := e2
  have e3 : mRem (mUsr w3 8) 60 = Int32.ofNat k3 := e3
  have fin : ∀ d, d ≤ 1 → ∃ σ2 τ2, F_X0_addThing Z 4 (Int32.ofNat k1) (Int32.ofNat k2) (Int32.ofNat k3) (Int32.ofNat d) s4 = some (Int32.ofNat N, σ2) ∧ F_X10_comes Z (Int32.ofNat k1) (Int32.ofNat k2) (Int32.ofNat k3) (Int32.ofNat d) t4 = some (Int32.ofNat N, τ2) ∧ RR Z σ2 τ2 ∧ HP Z σ2 τ2 4 66 (N + 1) V T M B ∧ (∀ c, 65 ≤ c → c < 90 → σ2 c = σ c) ∧ ∀ c, c < 65 ∨ 90 ≤ c → τ2 c = τ c := by
    intro d hd
    obtain ⟨σ2, τ2, h1, h2, h3, h4, -, h5, h6⟩ := add_thing r4 p4 hm hN (a := k1) (b := k2) (c := k3) (d := d) (by omega) (by omega) (by omega) hd
    exact ⟨σ2, τ2, h1, h2, h3, h4, fun c q1 q2 => by rw [h5 c q1 q2, f4 c q1 q2, f3 c q1 q2, f2 c q1 q2, f1 c q1 q2], fun c q => by rw [h6 c q, g4 c q, g3 c q, g2 c q, g1 c q]⟩
  unfold F_X0_drawThing
  rw [a1, mCall_some, mLet_eq, a2, mCall_some, mLet_eq, a3, mCall_some, mLet_eq, a4, mCall_some, e1, e2, e3]
  by_cases h : mRem (mUsr w4 8) 4 = 0
  · obtain ⟨σ2, τ2, h1, h2, h3⟩ := fin 1 (by omega)
    have h1 : F_X0_addThing Z 4 (Int32.ofNat k1) (Int32.ofNat k2) (Int32.ofNat k3) 1 s4 = some (Int32.ofNat N, σ2) := h1
    have h2 : F_X10_comes Z (Int32.ofNat k1) (Int32.ofNat k2) (Int32.ofNat k3) 1 t4 = some (Int32.ofNat N, τ2) := h2
    rw [if_pos h, h1]
    refine ⟨σ2, τ2, rfl, fun K => ?_, h3⟩
    rw [b1, mCall_some, mLet_eq, b2, mCall_some, mLet_eq, b3, mCall_some, mLet_eq, b4, mCall_some, e1, e2, e3, if_pos h, h2, mCall_some]
  · obtain ⟨σ2, τ2, h1, h2, h3⟩ := fin 0 (by omega)
    have h1 : F_X0_addThing Z 4 (Int32.ofNat k1) (Int32.ofNat k2) (Int32.ofNat k3) 0 s4 = some (Int32.ofNat N, σ2) := h1
    have h2 : F_X10_comes Z (Int32.ofNat k1) (Int32.ofNat k2) (Int32.ofNat k3) 0 t4 = some (Int32.ofNat N, τ2) := h2
    rw [if_neg h, h1]
    refine ⟨σ2, τ2, rfl, fun K => ?_, h3⟩
    rw [b1, mCall_some, mLet_eq, b2, mCall_some, mLet_eq, b3, mCall_some, mLet_eq, b4, mCall_some, e1, e2, e3, if_neg h, h2, mCall_some]
theorem deal_L {N V T M B X C : Nat} (hm : M ≤ 9999 ∧ B ≤ 1188 * M) (hN : N ≤ 12) (hX : X ≤ 12) (hC : C = min X (12 - N)) : ∀ (n i : Nat) (σ τ : gS), RR Z σ τ → HP Z σ τ 4 66 (N + i) V T M B → i ≤ C → C - i < n → ∃ σ2 τ2, F_X9_deal_L30 Z n (Int32.ofNat C) (Int32.ofNat i) σ = some (Int32.ofNat C, σ2) ∧ F_X10_deal_L15 Z (Int32.ofNat X) n (Int32.ofNat i) τ = some (Int32.ofNat C, τ2) ∧ RR Z σ2 τ2 ∧ (∀ c, 65 ≤ c → c < 90 → σ2 c = σ c) ∧ ∀ c, c < 65 ∨ 90 ≤ c → τ2 c = τ c := by
  intro n
  induction n with
  | zero => intro i σ τ hr hp h1 h2; omega
  | succ n ih =>
    intro i σ τ hr hp h1 h2
    have t9 : τ 66 1 = Int32.ofNat (N + i) := (hp.2.2.1 0 9 (by unfold dom; omega)).symm.trans hp.2.1.1
    rw [F_X9_deal_L30, F_X10_deal_L15, t9]
    by_cases hd : C ≤ i
    · rw [if_pos ((lek (by omega) (by omega)).mpr hd)]
      have ei : i = C := by omega
      have er : (if Int32.ofNat X ≤ Int32.ofNat i then some (Int32.ofNat i, τ) else if 12 ≤ Int32.ofNat (N + i) then some (Int32.ofNat i, τ) else mCall (F_X10_draw Z τ) (fun r1 s2 => mLet ((mRem r1 6)) (fun v3 => mCall (F_X10_draw Z s2) (fun r4 s5 => mLet ((mRem r4 8)) (fun v6 => mCall (F_X10_draw Z s5) (fun r7 s8 => mLet ((mRem r7 60)) (fun v9 => mCall (F_X10_draw Z s8) (fun r10 s11 => if (mRem r10 4) = 0 then mCall (F_X10_comes Z v3 v6 v9 1 s11) (fun r14 s15 => F_X10_deal_L15 Z (Int32.ofNat X) n (Int32.ofNat i + 1) s15) else mCall (F_X10_comes Z v3 v6 v9 0 s11) (fun r12 s13 => F_X10_deal_L15 Z (Int32.ofNat X) n (Int32.ofNat i + 1) s13))))))))) = some (Int32.ofNat C, τ) := by
        by_cases h3 : X ≤ i
        · rw [if_pos ((lek (by omega) (by omega)).mpr h3), ei]
        · have h12 : (12 : Int32) ≤ Int32.ofNat (N + i) := (lek (a := 12) (b := N + i) (by decide) (by omega)).mpr (by omega)
          rw [if_neg (fun q => h3 ((lek (by omega) (by omega)).mp q)), if_pos h12, ei]
      exact ⟨σ, τ, rfl, er, hr, fun _ _ _ => rfl, fun _ _ => rfl⟩
    · rw [if_neg (fun q => hd ((lek (by omega) (by omega)).mp q)), if_neg (fun q => by have := (lek (by omega) (by omega)).mp q; omega), if_neg (fun q => by have := (lek (a := 12) (by decide) (by omega)).mp q; omega)]
      obtain ⟨s1, t1, a1, b1, r1, p1, f1, g1⟩ := draw_thing hr hp hm (by omega)
      obtain ⟨σ2, τ2, a2, b2, r2, f2, g2⟩ := ih (i + 1) s1 t1 r1 p1 (by omega) (by omega)
      have e5 : Int32.ofNat i + 1 = Int32.ofNat (i + 1) := addk i 1
      refine ⟨σ2, τ2, by rw [a1, mCall_some, e5]; exact a2, ?_, r2, fun c q1 q2 => by rw [f2 c q1 q2, f1 c q1 q2], fun c q => by rw [g2 c q, g1 c q]⟩
      rw [b1 (fun s => F_X10_deal_L15 Z (Int32.ofNat X) n (Int32.ofNat i + 1) s), e5]
      exact b2
theorem wi_in2 {a k b : Nat} (ha : a ≤ k) (hk : k ≤ b) (hb : b < 2 ^ 31) : wi (Int32.ofNat k) (Int32.ofNat a) (Int32.ofNat b) = 1 := by
  refine if_neg (fun h => ?_)
  rcases h with h | h
  · have := (ltk (by omega) (by omega)).mp h; omega
  · have := (ltk hb (by omega)).mp h; omega
/-- a number is one of a .. b, or not -/
theorem rng2 (x : Int32) (a b : Nat) (ha : a < 2 ^ 31) (hb : b < 2 ^ 31) : (∃ k, a ≤ k ∧ k ≤ b ∧ x = Int32.ofNat k) ∨ (x < Int32.ofNat a ∨ Int32.ofNat b < x) := by
  rcases rng x b hb with ⟨k, hk, rfl⟩ | h | h
  · by_cases h1 : a ≤ k
    · exact Or.inl ⟨k, h1, hk, rfl⟩
    · exact Or.inr (Or.inl ((ltk (by omega) ha).mpr (by omega)))
  · right; left
    rw [Int32.lt_iff_toInt_lt] at h ⊢
    rw [Int32.toInt_ofNat_of_lt ha]
    have e0 : (0 : Int32).toInt = 0 := rfl
    omega
  · exact Or.inr (Or.inr h)
theorem sim_deal (x : Int32) : Sim Z (F_X9_deal Z x) (F_X10_deal Z x) := by
  intro σ τ hr
  obtain ⟨⟨N, V, T, M, B, hp, hm, hi⟩, -⟩ := id hr
  have hN := hp.1.1
  have e9 : σ 4 9 = Int32.ofNat N := hp.2.1.1
  unfold F_X9_deal F_X10_deal
  rw [x9_within, x10_in, mCall_some, mCall_some]
  rcases rng2 x 1 12 (by decide) (by decide) with ⟨k, hk1, hk2, rfl⟩ | ho
  · have e : wi (Int32.ofNat k) 1 12 = 1 := wi_in2 (a := 1) (b := 12) hk1 hk2 (by decide)
    have e2 : (12 : Int32) - Int32.ofNat N = Int32.ofNat (12 - N) := subk (a := 12) hN
    rw [e, if10, if10, mLet_eq, e9, e2, minK (by omega) (by omega)]
    obtain ⟨σ2, τ2, h1, h2, h3⟩ := deal_L (N := N) (X := k) hm hN hk2 rfl mFuel 0 σ τ hr hp (by omega) (by unfold mFuel; omega)
    exact ⟨_, σ2, τ2, h1, h2, h3⟩
  · have e : wi x 1 12 = 0 := wi_out ho
    rw [e, if00, if00]; exact same hr rfl rfl
end
