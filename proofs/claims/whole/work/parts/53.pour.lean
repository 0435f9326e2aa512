section
variable {Z : List gH}
theorem wi_outN {i N : Nat} (h : N ≤ i) (hi : i < 2 ^ 31) : wi (Int32.ofNat i) 0 (Int32.ofNat N - 1) = 0 := by
  rcases rngN (Int32.ofNat i) N (by omega) with ⟨k, hk, e⟩ | ho
  · have := (eqk (by omega) (by omega)).mp e
    omega
  · exact wi_out ho
theorem hasP_in {σ : gS} {c i L : Nat} (h : i < L) (hL : L < 2 ^ 31) (e : σ c 2 = Int32.ofNat L) : F_X5_hasPlace Z c (Int32.ofNat i) σ = some (1, σ) := by
  unfold F_X5_hasPlace
  rw [x9_within, mCall_some, e, wi_inN h hL]; rfl
theorem hasP_out {σ : gS} {c i L : Nat} (h : L ≤ i) (hi : i < 2 ^ 31) (e : σ c 2 = Int32.ofNat L) : F_X5_hasPlace Z c (Int32.ofNat i) σ = some (0, σ) := by
  unfold F_X5_hasPlace
  rw [x9_within, mCall_some, e, wi_outN h hi]; rfl
theorem hasN_in {σ : gS} {c i L : Nat} (h : i < L) (hL : L ≤ 24) (e : σ c 2 = Int32.ofNat L) : F_X5_hasNumber Z c (Int32.ofNat i) σ = some (if σ (c + 1) i = -1000000005 then 0 else 1, σ) := by
  unfold F_X5_hasNumber
  rw [hasP_in h (by omega) e, mCall_some, if10, mInk (k := i) (by omega) (by decide), nnk (k := i) (by omega)]
  split <;> rfl
theorem hasN_out {σ : gS} {c i L : Nat} (h : L ≤ i) (hi : i < 2 ^ 31) (e : σ c 2 = Int32.ofNat L) : F_X5_hasNumber Z c (Int32.ofNat i) σ = some (0, σ) := by
  unfold F_X5_hasNumber
  rw [hasP_out h hi e, mCall_some, if00]; rfl
theorem ix24 (q i : Nat) : (24 : Int32) * Int32.ofNat q + Int32.ofNat i = Int32.ofNat (24 * q + i) := by
  rw [show (24 : Int32) * Int32.ofNat q = Int32.ofNat (24 * q) from mulk 24 q, addk]
theorem reads_L {σ τ : gS} {N V T M B q L : Nat} (hp : HP Z σ τ 4 66 N V T M B) (hq : q ≤ 3) (hL : L ≤ 24) (e2 : σ (39 + 2 * q) 2 = Int32.ofNat L) (t2 : τ 82 q = Int32.ofNat L) (ep : ∀ k, k < 24 → σ (40 + 2 * q) k = τ 83 (24 * q + k)) : ∀ (n i : Nat), i ≤ L → L - i < n → ∃ r, F_X9_reads_L29 Z n (39 + 2 * q) (Int32.ofNat i) σ = some (r, σ) ∧ F_X10_reads_L24 Z (Int32.ofNat q) n (Int32.ofNat i) τ = some (r, τ) := by
  have hN := hp.1.1
  have e9 : σ 4 9 = Int32.ofNat N := hp.2.1.1
  have t9 : τ 66 1 = Int32.ofNat N := (hp.2.2.1 0 9 (by unfold dom; omega)).symm.trans e9
  intro n
  induction n with
  | zero => intro i h1 h2; omega
  | succ n ih =>
    intro i h1 h2
    have ei : Int32.ofNat i + 1 = Int32.ofNat (i + 1) := addk i 1
    rw [F_X9_reads_L29, F_X10_reads_L24, mInk (k := q) (by omega) (by decide), nnk (k := q) (by omega), e2, t2]
    by_cases hd : L ≤ i
    · have c : Int32.ofNat L ≤ Int32.ofNat i := (lek (by omega) (by omega)).mpr hd
      rw [if_pos c, if_pos c]; exact ⟨_, rfl, rfl⟩
    · have c : ¬ Int32.ofNat L ≤ Int32.ofNat i := fun x => hd ((lek (by omega) (by omega)).mp x)
      have z2 : 39 + 2 * q + 1 = 40 + 2 * q := by omega
      rw [if_neg c, if_neg c, hasN_in (by omega) hL e2, mCall_some, ix24, mInk (k := 24 * q + i) (by omega) (by decide), nnk (k := 24 * q + i) (by omega), mLet_eq, z2, ← ep i (by omega), ei]
      by_cases v : σ (40 + 2 * q) i = -1000000005
      · rw [if_pos v, if_pos v, if00]
        exact ih (i + 1) (by omega) (by omega)
      · rw [if_neg v, if_neg v, if10, x9_isThing, x10_isThing, mCall_some, mCall_some, e9, t9]
        by_cases hi : i < N
        · have z1 : τ 66 (82 + 4 * i + 1) = σ 6 i := (hp.2.2.1 2 i (by unfold dom; omega)).symm
          have o1 : F_X10_of Z (Int32.ofNat i) 1 τ = some (σ 6 i, τ) := by rw [← z1]; exact x10_of (w := 1) (by omega) (by decide)
          rw [wi_inN hi (by omega), if10, if10, mInk (k := i) (by omega) (by decide), mInk (k := i) (by omega) (by decide), nnk (k := i) (by omega), o1, mCall_some]
          by_cases w : σ 6 i = σ (40 + 2 * q) i
          · rw [if_pos w, if_pos w.symm]; exact ih (i + 1) (by omega) (by omega)
          · rw [if_neg w, if_neg (fun x => w x.symm)]; exact ⟨_, rfl, rfl⟩
        · rw [wi_outN (by omega) (by omega), if00, if00]; exact ⟨_, rfl, rfl⟩
theorem sim_reads (x : Int32) : Sim Z (F_X9_reads Z x) (F_X10_reads Z x) := by
  intro σ τ hr
  obtain ⟨⟨N, V, T, M, B, hp, -⟩, sh, -⟩ := id hr
  have m5 : mFuel = 5000 := rfl
  unfold F_X9_reads F_X10_reads
  rw [x9_isSheet, x10_isSheet, mCall_some, mCall_some]
  rcases rng x 3 (by decide) with ⟨q, hq, rfl⟩ | ho
  rotate_left
  · rw [wi_out (a := 0) (b := 3) ho, if00, if00]; exact same hr rfl rfl
  have e1 : wi (Int32.ofNat q) 0 3 = 1 := wi_in (b := 3) hq (by decide)
  obtain ⟨a1, a2, ⟨L, hL, a3⟩, a4, a5⟩ := sh q (by omega)
  rw [e1, if10, if10, mSh_eq hq, mInk (k := q) (by omega) (by decide), nnk (k := q) (by omega)]
  rcases miss_eq (Z := Z) sh hq with ⟨-, m1, m2, -⟩ | ⟨m0, m1, m2, -⟩
  · rw [m1, if_neg m2, mCall_some, if10]; exact same hr rfl rfl
  rw [m1, if_pos m2, mCall_some, if00]
  obtain ⟨r, b1, b2⟩ := reads_L (Z := Z) hp hq hL a3 (a4.symm.trans a3) a5 mFuel 0 (by omega) (by omega)
  exact same hr b1 b2
theorem gu_idz (σ : gS) (c k : Nat) : gu σ c k (σ c k) = σ := by
  funext a b
  rw [gu_at]
  split
  · rename_i h; rw [h.1, h.2]
  · rfl
/-- the class's pouring goes on, beyond the sheet's places, for nothing -/
theorem pour_beyond {N q L : Nat} {w : Int32} {s : gS} (e9 : s 4 9 = Int32.ofNat N) (hN : N ≤ 12) (e2 : s (39 + 2 * q) 2 = Int32.ofNat L) : ∀ (n i : Nat), L ≤ i → i ≤ N → N - i < n → F_X9_pour_L32 Z n (39 + 2 * q) w (Int32.ofNat i) s = some (w, s) := by
  intro n
  induction n with
  | zero => intro i h1 h2 h3; omega
  | succ n ih =>
    intro i h1 h2 h3
    have ei : Int32.ofNat i + 1 = Int32.ofNat (i + 1) := addk i 1
    rw [F_X9_pour_L32, e9]
    by_cases hd : N ≤ i
    · rw [if_pos ((lek (by omega) (by omega)).mpr hd)]
    · rw [if_neg (fun x => hd ((lek (by omega) (by omega)).mp x)), hasN_out h1 (by omega) e2, mCall_some, if00, ei]
      exact ih (i + 1) (by omega) (by omega) (by omega)
theorem pour_L {N V T M B q L : Nat} (hm : M ≤ 9999 ∧ B ≤ 1188 * M) (hq : q ≤ 3) (hL : L ≤ 24) : ∀ (n i : Nat) (w : Int32) (s t : gS), RR Z s t → HP Z s t 4 66 N V T M B → s (39 + 2 * q) 2 = Int32.ofNat L → i ≤ N → N - i < n → ∃ r s2 t2, F_X9_pour_L32 Z n (39 + 2 * q) w (Int32.ofNat i) s = some (r, s2) ∧ F_X10_pour_L26 Z (Int32.ofNat q) n w (Int32.ofNat i) t = some (r, t2) ∧ RR Z s2 t2 ∧ (∀ c, 65 ≤ c → c < 90 → s2 c = s c) ∧ ∀ c, c < 65 ∨ 90 ≤ c → t2 c = t c := by
  intro n
  induction n with
  | zero => intro i w s t hr hp e2 h1 h2; omega
  | succ n ih =>
    intro i w s t hr hp e2 h1 h2
    have hN := hp.1.1
    have e9 : s 4 9 = Int32.ofNat N := hp.2.1.1
    have t9 : t 66 1 = Int32.ofNat N := (hp.2.2.1 0 9 (by unfold dom; omega)).symm.trans e9
    obtain ⟨-, -, -, a4, a5⟩ := hr.2.1 q (by omega)
    have t2 : t 82 q = Int32.ofNat L := a4.symm.trans e2
    have ei : Int32.ofNat i + 1 = Int32.ofNat (i + 1) := addk i 1
    rw [F_X10_pour_L26, mInk (k := q) (by omega) (by decide), nnk (k := q) (by omega), t2, t9]
    by_cases hl : L ≤ i
    · rw [if_pos ((lek (by omega) (by omega)).mpr hl), pour_beyond e9 hN e2 (n + 1) i hl h1 h2]
      exact same hr rfl rfl
    rw [if_neg (fun x => hl ((lek (by omega) (by omega)).mp x)), F_X9_pour_L32, e9]
    by_cases hd : N ≤ i
    · have c : Int32.ofNat N ≤ Int32.ofNat i := (lek (by omega) (by omega)).mpr hd
      rw [if_pos c, if_pos c]; exact same hr rfl rfl
    have c : ¬ Int32.ofNat N ≤ Int32.ofNat i := fun x => hd ((lek (by omega) (by omega)).mp x)
    have z2 : 39 + 2 * q + 1 = 40 + 2 * q := by omega
    have zf : t 66 (82 + 4 * i + 2) = s 7 i := (hp.2.2.1 3 i (by unfold dom; omega)).symm
    have o2 : F_X10_of Z (Int32.ofNat i) 2 t = some (s 7 i, t) := by rw [← zf]; exact x10_of (w := 2) (by omega) (by decide)
    have ix : (82 + (4 * Int32.ofNat i)) + 2 = Int32.ofNat (82 + 4 * i + 2) := ix4 i 2
    have i12 : ∀ {α : Type} {a : Option α}, mIn 12 (Int32.ofNat i) a = a := mInk (k := i) (by omega) (by decide)
    rw [if_neg c, if_neg c, hasN_in (by omega) hL e2, mCall_some, ix24, mInk (k := 24 * q + i) (by omega) (by decide), nnk (k := 24 * q + i) (by omega), mLet_eq, z2, ← a5 i (by omega), ei]
    by_cases v : s (40 + 2 * q) i = -1000000005
    · rw [if_pos v, if_pos v, if00, o2, mCall_some]
      unfold F_X10_pour_J83
      have gi : gu t 66 (82 + 4 * i + 2) (s 7 i) = t := by rw [← zf]; exact gu_idz t 66 (82 + 4 * i + 2)
      rw [ix, x10_swaps (by omega), mCall_some, zf, gi, if_pos rfl, mLet_eq, Int32.add_zero, ei]
      exact ih (i + 1) w s t hr hp e2 (by omega) (by omega)
    · obtain ⟨p, hpp, k1, k2⟩ := clamp (Z := Z) (s (40 + 2 * q) i) 99 (by decide) t
      have k1 : mMax 0 (mMin 99 (s (40 + 2 * q) i)) = Int32.ofNat p := k1
      have k2 : F_X10_within Z (s (40 + 2 * q) i) 0 99 t = some (Int32.ofNat p, t) := k2
      rw [if_neg v, if_neg v, if10, mInk (k := i) (by omega) (by decide), nnk (k := i) (by omega)]
      unfold F_X9_held
      rw [k1, mCall_some, i12, i12, i12, k2, mCall_some, mLet_eq, mLet_eq]
      unfold F_X10_pour_J83
      rw [ix, x10_swaps (by omega), mCall_some, zf, ei]
      have hr1 := hr.put hp hm (j := 3) (i := i) (v := Int32.ofNat p) (by unfold dom; omega) (okj (m := 99) (by omega) i (le_k hpp))
      have hp1 := hp.upd (by omega) (j := 3) (i := i) (v := Int32.ofNat p) (by unfold dom; omega) (okj (m := 99) (by omega) i (le_k hpp))
      have e2' : gu s 7 i (Int32.ofNat p) (39 + 2 * q) 2 = Int32.ofNat L := by rw [gu_ne _ _ _ (by omega)]; exact e2
      have key : ∀ w, ∃ r s2 t2, F_X9_pour_L32 Z n (39 + 2 * q) w (Int32.ofNat (i + 1)) (gu s 7 i (Int32.ofNat p)) = some (r, s2) ∧ F_X10_pour_L26 Z (Int32.ofNat q) n w (Int32.ofNat (i + 1)) (gu t 66 (82 + 4 * i + 2) (Int32.ofNat p)) = some (r, t2) ∧ RR Z s2 t2 ∧ (∀ c, 65 ≤ c → c < 90 → s2 c = s c) ∧ ∀ c, c < 65 ∨ 90 ≤ c → t2 c = t c := by
        intro w
        obtain ⟨r, s2, t2, b1, b2, b3, b4, b5⟩ := ih (i + 1) w (gu s 7 i (Int32.ofNat p)) (gu t 66 (82 + 4 * i + 2) (Int32.ofNat p)) hr1 hp1 e2' (by omega) (by omega)
        exact ⟨r, s2, t2, b1, b2, b3, fun c q1 q2 => by rw [b4 c q1 q2, gu_ne _ _ _ (by omega)], fun c q1 => by rw [b5 c q1, gu_ne _ _ _ (by omega)]⟩
      by_cases ww : Int32.ofNat p = s 7 i
      · rw [if_pos ww, if_pos ww.symm, mLet_eq, Int32.add_zero]; exact key w
      · rw [if_neg ww, if_neg (fun x => ww x.symm), mLet_eq]; exact key (w + 1)
theorem sim_pour (x : Int32) : Sim Z (F_X9_pour Z x) (F_X10_pour Z x) := by
  intro σ τ hr
  obtain ⟨⟨N, V, T, M, B, hp, hm, -⟩, sh, -⟩ := id hr
  have hN := hp.1.1
  have m5 : mFuel = 5000 := rfl
  unfold F_X9_pour F_X10_pour
  rw [x9_isSheet, x10_isSheet, mCall_some, mCall_some]
  rcases rng x 3 (by decide) with ⟨q, hq, rfl⟩ | ho
  rotate_left
  · rw [wi_out (a := 0) (b := 3) ho, if00, if00]; exact same hr rfl rfl
  have e1 : wi (Int32.ofNat q) 0 3 = 1 := wi_in (b := 3) hq (by decide)
  obtain ⟨a1, a2, ⟨L, hL, a3⟩, a4, a5⟩ := sh q (by omega)
  rw [e1, if10, if10, mSh_eq hq, mInk (k := q) (by omega) (by decide), nnk (k := q) (by omega)]
  rcases miss_eq (Z := Z) sh hq with ⟨-, m1, m2, -⟩ | ⟨m0, m1, m2, -⟩
  · rw [m1, if_neg m2, mCall_some, if10]; exact same hr rfl rfl
  rw [m1, if_pos m2, mCall_some, if00]
  exact pour_L (Z := Z) hm hq hL mFuel 0 0 σ τ hr hp a3 (by omega) (by omega)
end
