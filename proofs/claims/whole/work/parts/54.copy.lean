section
variable {Z : List gH}
theorem subInt {L m : Nat} (hL : L ≤ 24) (hm : m < 2 ^ 31) : (Int32.ofNat L - Int32.ofNat m).toInt = (L : Int) - m := by
  rw [Int32.toInt_sub, Int32.toInt_ofNat_of_lt (by omega), Int32.toInt_ofNat_of_lt (by omega), Int.bmod_eq_of_le_mul_two (by omega) (by omega)]
theorem nonneg {x : Int32} (h : ¬ x < 0) : ∃ a, a < 2 ^ 31 ∧ x = Int32.ofNat a := by
  refine ⟨nn x, x.toNatClampNeg_lt, (Int32.ofNat_toNatClampNeg x (Int32.not_lt.mp h)).symm⟩
theorem hasRow_eq {σ : gS} {c L : Nat} {x n : Int32} (hL : L ≤ 24) (e : σ c 2 = Int32.ofNat L) : (∃ a m, a + m ≤ L ∧ x = Int32.ofNat a ∧ n = Int32.ofNat m ∧ F_X5_hasRow Z c x n σ = some (1, σ)) ∨ ((∀ a m, x = Int32.ofNat a → n = Int32.ofNat m → a < 2 ^ 31 → m < 2 ^ 31 → L < a + m) ∧ F_X5_hasRow Z c x n σ = some (0, σ)) := by
  unfold F_X5_hasRow
  simp only [x9_within, mCall_some, e]
  rcases rng n L (by omega) with ⟨m, hm, rfl⟩ | ho
  · rw [wi_in hm (by omega), if10, subk hm]
    rcases rng x (L - m) (by omega) with ⟨a, ha, rfl⟩ | ho
    · left
      refine ⟨a, m, by omega, rfl, rfl, ?_⟩
      rw [wi_in ha (by omega), if10]; rfl
    · right
      refine ⟨fun a m' ea em ha hm' => ?_, by rw [wi_out ho, if00]; rfl⟩
      have em := (eqk (by omega) (by omega)).mp em
      subst em
      rcases ho with ho | ho
      · exact absurd (ea ▸ ho) (lt0k ha)
      · have := (ltk (by omega) ha).mp (ea ▸ ho)
        omega
  · right
    refine ⟨fun a m ea em ha hm => ?_, by rw [wi_out ho, if00]; rfl⟩
    rcases ho with ho | ho
    · exact absurd (em ▸ ho) (lt0k hm)
    · have := (ltk (by omega) hm).mp (em ▸ ho)
      omega
theorem cp_in {q p a b m : Nat} (hq : q ≤ 3) (ha : a + m ≤ 24) (τ : gS) : ∀ (n i : Nat) (t : gS), (∀ c, c ≠ 88 → t c = τ c) → (∀ k, k < i → t 88 k = τ 83 (24 * q + a + k)) → i ≤ m → m - i < n → ∃ t2, F_X10_copy_L104 Z (Int32.ofNat q) (Int32.ofNat a) (Int32.ofNat p) (Int32.ofNat b) (Int32.ofNat m) n (Int32.ofNat i) t = F_X10_copy_L141 Z (Int32.ofNat p) (Int32.ofNat b) (Int32.ofNat m) mFuel 0 t2 ∧ (∀ c, c ≠ 88 → t2 c = τ c) ∧ ∀ k, k < m → t2 88 k = τ 83 (24 * q + a + k) := by
  intro n
  induction n with
  | zero => intro i t h1 h2 h3 h4; omega
  | succ n ih =>
    intro i t h1 h2 h3 h4
    have ei : Int32.ofNat i + 1 = Int32.ofNat (i + 1) := addk i 1
    rw [F_X10_copy_L104]
    by_cases hd : m ≤ i
    · rw [if_pos ((lek (by omega) (by omega)).mpr hd)]
      exact ⟨t, rfl, h1, fun k hk => h2 k (by omega)⟩
    · rw [if_neg (fun x => hd ((lek (by omega) (by omega)).mp x)), ix24, addk, mInk (k := 24 * q + a + i) (by omega) (by decide), mInk (k := i) (by omega) (by decide), nnk (k := i) (by omega), nnk (k := 24 * q + a + i) (by omega), mLet_eq, ei]
      refine ih (i + 1) _ (fun c hc => by rw [gu_ne _ _ _ hc]; exact h1 c hc) (fun k hk => ?_) (by omega) (by omega)
      by_cases e : k = i
      · subst e; rw [gu_self, h1 83 (by decide)]
      · rw [gu_off _ _ (Or.inr e)]; exact h2 k (by omega)
theorem cp_out {p b m : Nat} (hp : p ≤ 3) (hb : b + m ≤ 24) (u : gS) : ∀ (n i : Nat) (t : gS), (∀ c, c ≠ 83 → t c = u c) → (∀ k, k < i → t 83 (24 * p + b + k) = u 88 k) → (∀ j, j < 24 * p + b ∨ 24 * p + b + i ≤ j → t 83 j = u 83 j) → i ≤ m → m - i < n → ∃ t2, F_X10_copy_L141 Z (Int32.ofNat p) (Int32.ofNat b) (Int32.ofNat m) n (Int32.ofNat i) t = some (Int32.ofNat m, t2) ∧ (∀ c, c ≠ 83 → t2 c = u c) ∧ (∀ k, k < m → t2 83 (24 * p + b + k) = u 88 k) ∧ ∀ j, j < 24 * p + b ∨ 24 * p + b + m ≤ j → t2 83 j = u 83 j := by
  intro n
  induction n with
  | zero => intro i t h1 h2 h3 h4 h5; omega
  | succ n ih =>
    intro i t h1 h2 h3 h4 h5
    have ei : Int32.ofNat i + 1 = Int32.ofNat (i + 1) := addk i 1
    rw [F_X10_copy_L141]
    by_cases hd : m ≤ i
    · rw [if_pos ((lek (by omega) (by omega)).mpr hd)]
      exact ⟨t, rfl, h1, fun k hk => h2 k (by omega), fun j hj => h3 j (by omega)⟩
    · rw [if_neg (fun x => hd ((lek (by omega) (by omega)).mp x)), ix24, addk, mInk (k := i) (by omega) (by decide), mInk (k := 24 * p + b + i) (by omega) (by decide), nnk (k := i) (by omega), nnk (k := 24 * p + b + i) (by omega), mLet_eq, ei]
      refine ih (i + 1) _ (fun c hc => by rw [gu_ne _ _ _ hc]; exact h1 c hc) (fun k hk => ?_) (fun j hj => ?_) (by omega) (by omega)
      · by_cases e : k = i
        · subst e; rw [gu_self, h1 88 (by decide)]
        · rw [gu_off _ _ (Or.inr (by omega))]; exact h2 k (by omega)
      · rw [gu_off _ _ (Or.inr (by omega))]; exact h3 j (by omega)
theorem copy_put {σ τ : gS} (hr : RR Z σ τ) {q p a b m : Nat} (hq : q ≤ 3) (hp : p ≤ 3) (ha : a + m ≤ 24) (hb : b + m ≤ 24) : ∃ r σ2 τ2, mCopy 24 24 σ (39 + 2 * q + 1) (Int32.ofNat a) (39 + 2 * p + 1) (Int32.ofNat b) (Int32.ofNat m) (fun s15 => some (Int32.ofNat m, s15)) = some (r, σ2) ∧ F_X10_copy_L104 Z (Int32.ofNat q) (Int32.ofNat a) (Int32.ofNat p) (Int32.ofNat b) (Int32.ofNat m) mFuel 0 τ = some (r, τ2) ∧ RR Z σ2 τ2 ∧ (∀ c, 65 ≤ c → c < 90 → σ2 c = σ c) ∧ ∀ c, c < 65 ∨ 90 ≤ c → τ2 c = τ c := by
  obtain ⟨-, sh, -⟩ := id hr
  have m5 : mFuel = 5000 := rfl
  obtain ⟨-, -, -, -, sq⟩ := sh q (by omega)
  obtain ⟨a1, a2, a3, a4, sp⟩ := sh p (by omega)
  obtain ⟨t1, u1, u2, u3⟩ := cp_in (Z := Z) (p := p) (b := b) hq ha τ mFuel 0 τ (fun _ _ => rfl) (fun k hk => by omega) (by omega) (by omega)
  have u1 : F_X10_copy_L104 Z (Int32.ofNat q) (Int32.ofNat a) (Int32.ofNat p) (Int32.ofNat b) (Int32.ofNat m) mFuel 0 τ = _ := u1
  obtain ⟨t2, v1, v2, v3, v4⟩ := cp_out (Z := Z) hp hb t1 mFuel 0 t1 (fun _ _ => rfl) (fun k hk => by omega) (fun _ _ => rfl) (by omega) (by omega)
  have v1 : F_X10_copy_L141 Z (Int32.ofNat p) (Int32.ofNat b) (Int32.ofNat m) mFuel 0 t1 = some (Int32.ofNat m, t2) := v1
  have z1 : 39 + 2 * q + 1 = 40 + 2 * q := by omega
  have z2 : 39 + 2 * p + 1 = 40 + 2 * p := by omega
  unfold mCopy
  rw [nnk (k := a) (by omega), nnk (k := b) (by omega), nnk (k := m) (by omega), if_pos ⟨lt0k (by omega), lt0k (by omega), lt0k (by omega), ha, hb⟩, u1, v1, z1, z2]
  have f88 : ∀ c, c ≠ 83 → c ≠ 88 → t2 c = τ c := fun c h1 h2 => (v2 c h1).trans (u2 c h2)
  have far : ∀ j, j < 24 * p + b ∨ 24 * p + b + m ≤ j → t2 83 j = τ 83 j := fun j hj => by rw [v4 j hj, u2 83 (by decide)]
  refine sh_fin hr (fun c hc => gp_ne _ _ (by omega)) (fun c hc => f88 c (by omega) (by omega)) (sh.one (q := p) (fun c _ _ h3 h4 => gp_ne _ _ h4) (fun p' hp' hpq => ⟨by rw [f88 81 (by decide) (by decide)], by rw [f88 82 (by decide) (by decide)]⟩) (fun p' k hp' hpq hk => far _ (by omega)) ⟨?_, ?_, ?_, ?_, fun k hk => ?_⟩) rfl rfl
  · rw [gp_ne _ _ (by omega), f88 81 (by decide) (by decide)]; exact a1
  · rw [gp_ne _ _ (by omega)]; exact a2
  · rw [gp_ne _ _ (by omega)]; exact a3
  · rw [gp_ne _ _ (by omega), f88 82 (by decide) (by decide)]; exact a4
  · rw [gp_self]
    unfold va_cpy
    by_cases c : b ≤ k ∧ k < b + m
    · rw [if_pos c]
      have e := v3 (k - b) (by omega)
      rw [show 24 * p + b + (k - b) = 24 * p + k by omega, u3 (k - b) (by omega)] at e
      rw [e, sq (a + (k - b)) (by omega), show 24 * q + (a + (k - b)) = 24 * q + a + (k - b) by omega]
    · rw [if_neg c, far _ (by omega)]; exact sp k hk
theorem sim_copy (x l2 z l4 l5 : Int32) : Sim Z (F_X9_copy Z x l2 z l4 l5) (F_X10_copy Z x l2 z l4 l5) := by
  intro σ τ hr
  obtain ⟨-, sh, -⟩ := id hr
  unfold F_X9_copy F_X10_copy
  simp only [x9_isSheet, x10_isSheet, mCall_some]
  rcases rng x 3 (by decide) with ⟨q, hq, rfl⟩ | ho
  rotate_left
  · rw [wi_out (a := 0) (b := 3) ho, if00, if00]; exact same hr rfl rfl
  have e1 : wi (Int32.ofNat q) 0 3 = 1 := wi_in (b := 3) hq (by decide)
  rw [e1, if10, if10]
  rcases rng z 3 (by decide) with ⟨p, hp, rfl⟩ | ho
  rotate_left
  · rw [wi_out (a := 0) (b := 3) ho, if00, if00]; exact same hr rfl rfl
  have e2 : wi (Int32.ofNat p) 0 3 = 1 := wi_in (b := 3) hp (by decide)
  rw [e2, if10, if10]
  have iq : ∀ {α : Type} {a : Option α}, mIn 4 (Int32.ofNat q) a = a := mInk (k := q) (by omega) (by decide)
  have ip : ∀ {α : Type} {a : Option α}, mIn 4 (Int32.ofNat p) a = a := mInk (k := p) (by omega) (by decide)
  obtain ⟨a1, -, ⟨L1, hL1, a3⟩, a4, -⟩ := sh q (by omega)
  obtain ⟨b1, -, ⟨L2, hL2, b3⟩, b4, -⟩ := sh p (by omega)
  simp only [mSh_eq hq, mSh_eq hp, iq, ip, nnk (k := q) (by omega), nnk (k := p) (by omega)]
  rcases miss_eq (Z := Z) sh hq with ⟨-, m1, -, m2⟩ | ⟨-, m1, -, m2⟩
  · rw [m1, if_pos m2, mCall_some, if10]; exact same hr rfl rfl
  rw [m1, if_neg m2, mCall_some, if00]
  rcases miss_eq (Z := Z) sh hp with ⟨-, m1, m2, -⟩ | ⟨-, m1, m2, -⟩
  · rw [m1, if_neg m2, mCall_some, if10]; exact same hr rfl rfl
  rw [m1, if_pos m2, mCall_some, if00, ← a1, ← b1, ← a4, ← b4, a3, b3]
  by_cases hk : σ (39 + 2 * q) 1 = σ (39 + 2 * p) 1
  rotate_left
  · rw [if_neg hk, if_neg hk]; exact same hr rfl rfl
  rw [if_pos hk, if_pos hk]
  rcases hasRow_eq (Z := Z) (x := l2) (n := l5) hL1 a3 with ⟨a, m, h1, rfl, rfl, r1⟩ | ⟨h1, r1⟩
  · have na : ¬ Int32.ofNat a < 0 := lt0k (by omega)
    have nm : ¬ Int32.ofNat m < 0 := lt0k (by omega)
    have nl : ¬ Int32.ofNat (L1 - m) < Int32.ofNat a := fun w => by have := (ltk (by omega) (by omega)).mp w; omega
    have s1 : Int32.ofNat L1 - Int32.ofNat m = Int32.ofNat (L1 - m) := subk (by omega)
    rw [r1, mCall_some, if10, if_neg na, if_neg nm, s1, if_neg nl]
    rcases hasRow_eq (Z := Z) (x := l4) (n := Int32.ofNat m) hL2 b3 with ⟨b, m', h2, rfl, em, r2⟩ | ⟨h2, r2⟩
    · have em := (eqk (by omega) (by omega)).mp em
      subst em
      have nb : ¬ Int32.ofNat b < 0 := lt0k (by omega)
      have s2 : Int32.ofNat L2 - Int32.ofNat m = Int32.ofNat (L2 - m) := subk (by omega)
      have ge : Int32.ofNat b ≤ Int32.ofNat (L2 - m) := (lek (by omega) (by omega)).mpr (by omega)
      rw [r2, mCall_some, if10, if_neg nb, s2, if_pos ge]
      exact copy_put hr hq hp (by omega) (by omega)
    · rw [r2, mCall_some, if00]
      by_cases c : l4 < 0
      · rw [if_pos c]; exact same hr rfl rfl
      · obtain ⟨b, hb, rfl⟩ := nonneg c
        have := h2 b m rfl rfl hb (by omega)
        have ge : ¬ Int32.ofNat b ≤ Int32.ofNat L2 - Int32.ofNat m := fun w => by
          rw [Int32.le_iff_toInt_le, subInt hL2 (by omega), Int32.toInt_ofNat_of_lt (by omega)] at w
          omega
        rw [if_neg c, if_neg ge]
        exact same hr rfl rfl
  · rw [r1, mCall_some, if00]
    by_cases c1 : l2 < 0
    · rw [if_pos c1]; exact same hr rfl rfl
    rw [if_neg c1]
    by_cases c2 : l4 < 0
    · rw [if_pos c2]; exact same hr rfl rfl
    rw [if_neg c2]
    by_cases c3 : l5 < 0
    · rw [if_pos c3]; exact same hr rfl rfl
    rw [if_neg c3]
    obtain ⟨a, ha, rfl⟩ := nonneg c1
    obtain ⟨m, hm, rfl⟩ := nonneg c3
    have := h1 a m rfl rfl ha hm
    have gt : Int32.ofNat L1 - Int32.ofNat m < Int32.ofNat a := by
      rw [Int32.lt_iff_toInt_lt, subInt hL1 hm, Int32.toInt_ofNat_of_lt (by omega)]
      omega
    rw [if_pos gt]
    exact same hr rfl rfl
end
