/-! ===== the whole relation, and what a pair of calls owes ===== -/
/-- WORTH by kind and fuel -/
def kWorth (kd fu : Int32) : Int32 := if kd = 1 then fu + 4 else if kd = 2 then 120 - fu else if kd = 3 then 2 * (fu + 4) else if kd = 4 then (120 - fu) - 6 else if kd = 5 then 3 else fu
def SHR (σ τ : gS) : Prop := ∀ q, q < 4 → σ (39 + 2 * q) 1 = τ 81 q ∧ (σ (39 + 2 * q) 1 = -1 ∨ σ (39 + 2 * q) 1 = 0 ∨ σ (39 + 2 * q) 1 = 1) ∧ le (σ (39 + 2 * q) 2) 24 ∧ σ (39 + 2 * q) 2 = τ 82 q ∧ ∀ k, k < 24 → σ (40 + 2 * q) k = τ 83 (24 * q + k)
def SLR (σ τ : gS) : Prop := ∀ q, q < 5 → σ (48 + 3 * q) 1 = τ 84 q ∧ le (σ (48 + 3 * q) 1) 3 ∧ (σ (48 + 3 * q) 1 = 1 → σ (48 + 3 * q) 2 = τ 85 q ∧ kWorth (σ (48 + 3 * q) 2) (σ (48 + 3 * q) 3) = τ 86 q ∧ le (σ (48 + 3 * q) 2) 5) ∧ (σ (48 + 3 * q) 1 = 2 → σ (49 + 3 * q) 2 = τ 85 q ∧ le (σ (49 + 3 * q) 2) 24 ∧ ∀ k, k < 24 → σ (50 + 3 * q) k = τ 87 (24 * q + k)) ∧ (σ (48 + 3 * q) 1 = 3 → σ (48 + 3 * q) 4 = τ 85 q)
def TPR (σ τ : gS) : Prop := ∃ n, n ≤ 96 ∧ σ 34 1 = Int32.ofNat n ∧ τ 65 10 = Int32.ofNat n ∧ ∀ k, k < n → σ 35 k = τ 73 k ∧ le (σ 35 k) 255
def WTR (σ τ : gS) : Prop := ∃ n, n ≤ 60 ∧ σ 0 11 = Int32.ofNat n ∧ τ 65 36 = Int32.ofNat n ∧ ∀ k, k < n → σ 64 k = τ 89 k
def KCR (τ : gS) : Prop := (∀ k, k < 11 → τ 74 k = ([98, 117, 114, 110, 102, 101, 101, 102, 105, 110, 101] : List Int32).getD k 0) ∧ ∀ k, k < 4 → τ 75 k = ([0, 4, 7, 11] : List Int32).getD k 0
def IMR (Z : List gH) (σ τ : gS) (T : Nat) : Prop := (σ 0 12 = 0 ∧ τ 65 3 = 0) ∨ (σ 0 12 = 1 ∧ τ 65 3 = 1 ∧ ∃ N2 V2 T2 M2 B2, HP Z σ τ 13 67 N2 V2 T2 M2 B2 ∧ (M2 ≤ 9999 ∧ B2 ≤ 1188 * M2) ∧ T2 ≤ T)
def RR (Z : List gH) (σ τ : gS) : Prop := (∃ N V T M B, HP Z σ τ 4 66 N V T M B ∧ (M ≤ 9999 ∧ B ≤ 1188 * M) ∧ IMR Z σ τ T) ∧ SHR σ τ ∧ SLR σ τ ∧ TPR σ τ ∧ WTR σ τ ∧ KCR τ
/-- cells of the class that last -/
def pcl (c : Nat) : Prop := c = 0 ∨ (4 ≤ c ∧ c ≤ 21) ∨ c = 34 ∨ c = 35 ∨ (39 ≤ c ∧ c ≤ 62) ∨ c = 64 ∨ 90 ≤ c
/-- cells of the model that last -/
def pml (c : Nat) : Prop := c = 66 ∨ c = 67 ∨ c = 73 ∨ c = 74 ∨ c = 75 ∨ (81 ≤ c ∧ c ≤ 87) ∨ c = 89
def k65 (τ τ2 : gS) : Prop := τ2 65 3 = τ 65 3 ∧ τ2 65 10 = τ 65 10 ∧ τ2 65 36 = τ 65 36
theorem k65.rf {τ : gS} : k65 τ τ := ⟨rfl, rfl, rfl⟩
theorem SHR.fr {σ τ σ2 τ2 : gS} (h : SHR σ τ) (h1 : ∀ c, 39 ≤ c → c ≤ 46 → σ2 c = σ c) (h2 : ∀ c, 81 ≤ c → c ≤ 83 → τ2 c = τ c) : SHR σ2 τ2 := by
  intro q hq
  rw [h1 _ (by omega) (by omega), h1 (40 + 2 * q) (by omega) (by omega), h2 81 (by omega) (by omega), h2 82 (by omega) (by omega), h2 83 (by omega) (by omega)]
  exact h q hq
theorem SLR.fr {σ τ σ2 τ2 : gS} (h : SLR σ τ) (h1 : ∀ c, 48 ≤ c → c ≤ 62 → σ2 c = σ c) (h2 : ∀ c, 84 ≤ c → c ≤ 87 → τ2 c = τ c) : SLR σ2 τ2 := by
  intro q hq
  rw [h1 _ (by omega) (by omega), h1 (49 + 3 * q) (by omega) (by omega), h1 (50 + 3 * q) (by omega) (by omega), h2 84 (by omega) (by omega), h2 85 (by omega) (by omega), h2 86 (by omega) (by omega), h2 87 (by omega) (by omega)]
  exact h q hq
theorem TPR.fr {σ τ σ2 τ2 : gS} (h : TPR σ τ) (h1 : σ2 34 = σ 34) (h2 : σ2 35 = σ 35) (h3 : τ2 65 10 = τ 65 10) (h4 : τ2 73 = τ 73) : TPR σ2 τ2 := by
  obtain ⟨n, q1, q2, q3, q4⟩ := h
  exact ⟨n, q1, by rw [h1]; exact q2, by rw [h3]; exact q3, by rw [h2, h4]; exact q4⟩
theorem WTR.fr {σ τ σ2 τ2 : gS} (h : WTR σ τ) (h1 : σ2 0 11 = σ 0 11) (h2 : σ2 64 = σ 64) (h3 : τ2 65 36 = τ 65 36) (h4 : τ2 89 = τ 89) : WTR σ2 τ2 := by
  obtain ⟨n, q1, q2, q3, q4⟩ := h
  exact ⟨n, q1, by rw [h1]; exact q2, by rw [h3]; exact q3, by rw [h2, h4]; exact q4⟩
theorem KCR.fr {τ τ2 : gS} (h : KCR τ) (h1 : τ2 74 = τ 74) (h2 : τ2 75 = τ 75) : KCR τ2 := by
  unfold KCR; rw [h1, h2]; exact h
theorem IMR.fr {Z : List gH} {σ τ σ2 τ2 : gS} {T T2 : Nat} (h : IMR Z σ τ T) (hT : T ≤ T2) (h0 : σ2 0 12 = σ 0 12) (h1 : ∀ c, 13 ≤ c → c ≤ 21 → σ2 c = σ c) (h2 : ∀ c, 90 ≤ c → σ2 c = σ c) (h3 : τ2 65 3 = τ 65 3) (h4 : τ2 67 = τ 67) : IMR Z σ2 τ2 T2 := by
  rcases h with ⟨a, b⟩ | ⟨a, b, N2, V2, U2, M2, B2, hp, hm, ht⟩
  · exact Or.inl ⟨by rw [h0]; exact a, by rw [h3]; exact b⟩
  · exact Or.inr ⟨by rw [h0]; exact a, by rw [h3]; exact b, N2, V2, U2, M2, B2, hp.fr (fun j hj => h1 _ (by omega) (by omega)) h2 h4, hm, by omega⟩
/-- what lasts is as it was -/
theorem RR.query {Z : List gH} {σ τ σ2 τ2 : gS} (h : RR Z σ τ) (h1 : ∀ c, pcl c → σ2 c = σ c) (h2 : ∀ c, pml c → τ2 c = τ c) (h3 : k65 τ τ2) : RR Z σ2 τ2 := by
  obtain ⟨⟨N, V, T, M, B, hp, hm, hi⟩, a, b, c, d, e⟩ := h
  have z0 : σ2 0 = σ 0 := h1 0 (by unfold pcl; omega)
  have z90 : ∀ c, 90 ≤ c → σ2 c = σ c := fun c hc => h1 c (by unfold pcl; omega)
  refine ⟨⟨N, V, T, M, B, hp.fr (fun j hj => h1 _ (by unfold pcl; omega)) z90 (h2 66 (by unfold pml; omega)), hm, hi.fr (Nat.le_refl T) (by rw [z0]) (fun c q1 q2 => h1 c (by unfold pcl; omega)) z90 h3.1 (h2 67 (by unfold pml; omega))⟩, a.fr (fun c q1 q2 => h1 c (by unfold pcl; omega)) (fun c q1 q2 => h2 c (by unfold pml; omega)), b.fr (fun c q1 q2 => h1 c (by unfold pcl; omega)) (fun c q1 q2 => h2 c (by unfold pml; omega)), c.fr (h1 34 (by unfold pcl; omega)) (h1 35 (by unfold pcl; omega)) h3.2.1 (h2 73 (by unfold pml; omega)), d.fr (by rw [z0]) (h1 64 (by unfold pcl; omega)) h3.2.2 (h2 89 (by unfold pml; omega)), e.fr (h2 74 (by unfold pml; omega)) (h2 75 (by unfold pml; omega))⟩
/-- the house that is now has changed, no more -/
theorem RR.now {Z : List gH} {σ τ σ2 τ2 : gS} {N V T M B N1 V1 T1 M1 B1 : Nat} (h : RR Z σ τ) (hp0 : HP Z σ τ 4 66 N1 V1 T1 M1 B1) (h1 : ∀ c, pcl c → ¬ (4 ≤ c ∧ c ≤ 12) → σ2 c = σ c) (h2 : ∀ c, pml c → c ≠ 66 → τ2 c = τ c) (h3 : k65 τ τ2) (hp : HP Z σ2 τ2 4 66 N V T M B) (hm : M ≤ 9999 ∧ B ≤ 1188 * M) (hT : T1 ≤ T) : RR Z σ2 τ2 := by
  obtain ⟨⟨N0, V0, T0, M0, B0, hp1, hm1, hi⟩, a, b, c, d, e⟩ := h
  have eT : T0 = T1 := by
    have e1 := hp1.2.1.2.2.1
    have e2 := hp0.2.1.2.2.1
    have l1 := hp1.1.2.2.1
    have l2 := hp0.1.2.2.1
    exact (eqk (by omega) (by omega)).mp (e1.symm.trans e2)
  subst eT
  have z0 : σ2 0 = σ 0 := h1 0 (by unfold pcl; omega) (by omega)
  have z90 : ∀ c, 90 ≤ c → σ2 c = σ c := fun c hc => h1 c (by unfold pcl; omega) (by omega)
  refine ⟨⟨N, V, T, M, B, hp, hm, hi.fr hT (by rw [z0]) (fun c q1 q2 => h1 c (by unfold pcl; omega) (by omega)) z90 h3.1 (h2 67 (by unfold pml; omega) (by omega))⟩, a.fr (fun c q1 q2 => h1 c (by unfold pcl; omega) (by omega)) (fun c q1 q2 => h2 c (by unfold pml; omega) (by omega)), b.fr (fun c q1 q2 => h1 c (by unfold pcl; omega) (by omega)) (fun c q1 q2 => h2 c (by unfold pml; omega) (by omega)), c.fr (h1 34 (by unfold pcl; omega) (by omega)) (h1 35 (by unfold pcl; omega) (by omega)) h3.2.1 (h2 73 (by unfold pml; omega) (by omega)), d.fr (by rw [z0]) (h1 64 (by unfold pcl; omega) (by omega)) h3.2.2 (h2 89 (by unfold pml; omega) (by omega)), e.fr (h2 74 (by unfold pml; omega) (by omega)) (h2 75 (by unfold pml; omega) (by omega))⟩
/-- two calls answer alike, keep the relation, and write their own cells alone -/
def Sim (Z : List gH) (Fc Fm : gS → Option (Int32 × gS)) : Prop := ∀ σ τ, RR Z σ τ → ∃ r σ2 τ2, Fc σ = some (r, σ2) ∧ Fm τ = some (r, τ2) ∧ RR Z σ2 τ2 ∧ (∀ c, 65 ≤ c → c < 90 → σ2 c = σ c) ∧ ∀ c, c < 65 ∨ 90 ≤ c → τ2 c = τ c
theorem Sim.op {Z : List gH} {Fc Fm : gS → Option (Int32 × gS)} (h : Sim Z Fc Fm) {σ : gS} (hr : RR Z σ σ) : ∃ r s2, mCall (Fc σ) (fun r1 s1 => mCall (Fm s1) (fun r2 s2 => some (r1, r2, s2, Z))) = some (r, r, s2, Z) ∧ RR Z s2 s2 := by
  obtain ⟨r, s1, t1, a1, -, -, f1, -⟩ := h σ σ hr
  have hr1 : RR Z σ s1 := hr.query (fun c _ => rfl) (fun c hc => f1 c (by unfold pml at hc; omega) (by unfold pml at hc; omega)) (by have e := f1 65 (by omega) (by omega); exact ⟨by rw [e], by rw [e], by rw [e]⟩)
  obtain ⟨r2, s1', s2, b1, b2, b3, -, f2⟩ := h σ s1 hr1
  rw [a1] at b1
  obtain ⟨e1, e2⟩ := Prod.mk.inj (Option.some.inj b1)
  subst e1; subst e2
  refine ⟨r, s2, ?_, b3.query (fun c hc => f2 c (by unfold pcl at hc; omega)) (fun c _ => rfl) k65.rf⟩
  rw [a1, mCall_some, b2, mCall_some]
/-- a pair that only reads -/
theorem Sim.read {Z : List gH} {Fc Fm : gS → Option (Int32 × gS)} (h : ∀ σ τ, RR Z σ τ → ∃ r, Fc σ = some (r, σ) ∧ Fm τ = some (r, τ)) : Sim Z Fc Fm := by
  intro σ τ hr
  obtain ⟨r, a, b⟩ := h σ τ hr
  exact ⟨r, σ, τ, a, b, hr, fun _ _ _ => rfl, fun _ _ => rfl⟩
