/-! ===== thinking: a house as another, a row as another ===== -/
section
variable {Z : List gH}
/-- the places of a house that last -/
def hdm (j i : Nat) : Prop := dom 12 j i ∨ (j = 8 ∧ i < 3)
theorem WF.cg {n nm : Nat} {co co2 : Nat → Int32} (h : WF n nm co) (e : ∀ k, k < n → co2 k = co k) : WF n nm co2 := by
  obtain ⟨d, d0, dn, hd⟩ := h
  refine ⟨d, d0, dn, fun k hk => ?_⟩
  rw [e k hk]; exact hd k hk
theorem TT.cp {σ τ σ2 τ2 : gS} {c a a2 t key : Nat} (h : TT Z σ τ c a t key) (ht : t < 14) (h1 : σ2 c = σ c) (h2 : σ2 (c + 1) = σ (c + 1)) (h3 : ∀ q, q < 1508 → τ2 a2 q = τ a q) : TT Z σ2 τ2 c a2 t key := by
  obtain ⟨q1, q2, q3, q4, q5, q6, q7⟩ := h
  refine ⟨q1, by rw [h1]; exact q2, by rw [h3 _ (by omega)]; exact q3, q4, by rw [h1, h3 _ (by omega)]; exact q5, fun k hk => by rw [h2, h3 _ (by omega)]; exact q6 k hk, ?_⟩
  exact q7.cg (fun k hk => h3 _ (by omega))
theorem HP.cp {σ τ σ2 τ2 : gS} {h h2 a a2 N V T M B : Nat} (hp : HP Z σ τ h a N V T M B) (h1 : ∀ j i, hdm j i → σ2 (h2 + j) i = σ (h + j) i) (h3 : ∀ c, 90 ≤ c → σ2 c = σ c) (h4 : ∀ q, q < 1508 → τ2 a2 q = τ a q) : HP Z σ2 τ2 h2 a2 N V T M B := by
  obtain ⟨p1, p2, p3, p4, p5, p6, p7⟩ := hp
  have hN := p1.1
  have hT := p1.2.2.1
  have g0 : ∀ i, 9 ≤ i → i ≤ 18 → σ2 h2 i = σ h i := fun i a b => h1 0 i (Or.inl (Or.inl ⟨rfl, a, b⟩))
  have g1 : ∀ j i, 1 ≤ j → j ≤ 4 → i < 12 → σ2 (h2 + j) i = σ (h + j) i := fun j i a b c => h1 j i (Or.inl (Or.inr (Or.inl ⟨a, b, c⟩)))
  refine ⟨p1, ?_, ?_, ?_, ?_, ?_, ?_⟩
  · rw [g0 9 (by omega) (by omega), g0 10 (by omega) (by omega), g0 11 (by omega) (by omega), g0 17 (by omega) (by omega), g0 14 (by omega) (by omega), g0 13 (by omega) (by omega)]; exact p2
  · intro j i hd
    rw [h1 j i (Or.inl (hd.mono hN)), h4 _ (by have := mp_lt (hd.mono hN); omega)]
    exact p3 j i hd
  · intro i hi
    rw [g1 1 i (by omega) (by omega) (by omega), g1 2 i (by omega) (by omega) (by omega), g1 3 i (by omega) (by omega) (by omega), g1 4 i (by omega) (by omega) (by omega)]; exact p4 i hi
  · intro i hi; rw [h1 5 i (by unfold hdm dom; omega)]; exact p5 i hi
  · intro i hi; rw [h1 6 i (by unfold hdm dom; omega)]; exact p6 i hi
  · obtain ⟨ks, k1, k2⟩ := p7
    refine ⟨ks, fun t ht => ?_, fun key hk => ?_⟩
    · obtain ⟨c, c1, c2, c3⟩ := k1 t ht
      exact ⟨c, c1, c2, c3.cp (by omega) (h3 c c1) (h3 _ (by omega)) h4⟩
    · rw [h1 8 key (Or.inr ⟨rfl, hk⟩)]; exact k2 key hk
theorem gp_self (σ : gS) {i : Nat} (f : Nat → Int32) : gp σ i f i = f := if_pos rfl
theorem mCopy_eq {α : Type} {n : Nat} {σ : gS} {a b : Nat} {f : gS → Option α} (hn : n < 2 ^ 31) : mCopy n n σ a 0 b 0 (Int32.ofNat n) f = f (gp σ b (va_cpy (σ a) (σ b) 0 0 n)) := by
  unfold mCopy
  have z : nn 0 = 0 := rfl
  rw [nnk hn, z, if_pos ⟨by decide, by decide, lt0k hn, by omega, by omega⟩]
theorem va_cpy0 {f g : Nat → Int32} {n k : Nat} (h : k < n) : va_cpy f g 0 0 n k = f k := by
  unfold va_cpy
  rw [if_pos ⟨by omega, by omega⟩]
  congr 1; omega
def hl (j : Nat) : Nat := if j = 5 then 8 else if j = 6 then 64 else if j = 7 then 6 else if j = 8 then 3 else 12
def CP (l0 l1 m : Nat) (σ s : gS) : Prop := (∀ c, c ≤ l0 ∨ l0 + m < c → s c = σ c) ∧ ∀ j i, 1 ≤ j → j ≤ m → i < hl j → s (l0 + j) i = σ (l1 + j) i
theorem CP.step {l0 l1 m n : Nat} {σ s : gS} (h : CP l0 l1 m σ s) (hd : l1 + 8 < l0 ∨ l0 + 8 < l1) (hm : m < 8) (hn : hl (m + 1) = n) : CP l0 l1 (m + 1) σ (gp s (l0 + (m + 1)) (va_cpy (s (l1 + (m + 1))) (s (l0 + (m + 1))) 0 0 n)) := by
  refine ⟨fun c hc => ?_, fun j i h1 h2 h3 => ?_⟩
  · rw [gp_ne _ _ (by omega)]; exact h.1 c (by omega)
  · by_cases e : j = m + 1
    · subst e
      rw [gp_self, va_cpy0 (by omega), h.1 _ (by omega)]
    · rw [gp_ne _ _ (by omega)]; exact h.2 j i h1 (by omega) h3
def SP (l0 l1 m : Nat) (σ s : gS) : Prop := (∀ c, c ≠ l0 → s c = σ c) ∧ ∀ i, 9 ≤ i → i < m → s l0 i = σ l1 i
theorem SP.step {l0 l1 m : Nat} {σ s : gS} (h : SP l0 l1 m σ s) (hd : l1 ≠ l0) : SP l0 l1 (m + 1) σ (gu s l0 m (s l1 m)) := by
  refine ⟨fun c hc => ?_, fun i h1 h2 => ?_⟩
  · rw [gu_ne _ _ _ hc]; exact h.1 c hc
  · by_cases e : i = m
    · subst e; rw [gu_self, h.1 _ hd]
    · rw [gu_off _ _ (Or.inr e)]; exact h.2 i h1 (by omega)
theorem become_eq {l0 l1 : Nat} (σ : gS) (hd : l1 + 8 < l0 ∨ l0 + 8 < l1) : ∃ s, F_X0_becomeAs Z l0 l1 σ = some (0, s) ∧ (∀ j i, hdm j i → s (l0 + j) i = σ (l1 + j) i) ∧ ∀ c, c < l0 ∨ l0 + 8 < c → s c = σ c := by
  have c0 : CP l0 l1 0 σ σ := ⟨fun _ _ => rfl, fun j i h1 h2 => by omega⟩
  have c8 := (((((((c0.step hd (by decide) (n := 12) rfl).step hd (by decide) (n := 12) rfl).step hd (by decide) (n := 12) rfl).step hd (by decide) (n := 12) rfl).step hd (by decide) (n := 8) rfl).step hd (by decide) (n := 64) rfl).step hd (by decide) (n := 6) rfl).step hd (by decide) (n := 3) rfl
  unfold F_X0_becomeAs
  have e12 : (12 : Int32) = Int32.ofNat 12 := rfl
  have e8 : (8 : Int32) = Int32.ofNat 8 := rfl
  have e64 : (64 : Int32) = Int32.ofNat 64 := rfl
  have e6 : (6 : Int32) = Int32.ofNat 6 := rfl
  have e3 : (3 : Int32) = Int32.ofNat 3 := rfl
  rw [e12, e8, e64, e6, e3, mCopy_eq (by decide), mCopy_eq (by decide), mCopy_eq (by decide), mCopy_eq (by decide), mCopy_eq (by decide), mCopy_eq (by decide), mCopy_eq (by decide), mCopy_eq (by decide)]
  generalize gp _ (l0 + 8) _ = s8 at c8 ⊢
  have hne : l1 ≠ l0 := by omega
  have s0 : SP l0 l1 9 s8 s8 := ⟨fun _ _ => rfl, fun i h1 h2 => by omega⟩
  have s10 := (((((((((s0.step hne).step hne).step hne).step hne).step hne).step hne).step hne).step hne).step hne).step hne
  refine ⟨_, rfl, fun j i h => ?_, fun c hc => ?_⟩
  · by_cases hj : j = 0
    · subst hj
      refine (s10.2 i (by unfold hdm dom at h; omega) (by unfold hdm dom at h; omega)).trans ?_
      show s8 l1 i = σ l1 i
      rw [c8.1 l1 (by omega)]
    · refine (congrFun (s10.1 (l0 + j) (by omega)) i).trans ?_
      refine c8.2 j i (by omega) (by unfold hdm dom at h; omega) ?_
      unfold hl
      unfold hdm dom at h
      repeat' split
      all_goals omega
  · exact (s10.1 c (by omega)).trans (c8.1 c (by omega))
theorem copyAll_L {a b : Nat} (hab : a ≠ b) (ha : zl Z a = 1508) (hb : zl Z b = 1508) (τ : gS) : ∀ (n i : Nat) (t : gS), (∀ c, c ≠ b → t c = τ c) → (∀ q, q < i → t b q = τ a q) → i ≤ 1508 → 1508 - i < n → ∃ t2, F_X10_copyAll_L2 Z a b n (Int32.ofNat i) t = some (0, t2) ∧ (∀ c, c ≠ b → t2 c = τ c) ∧ ∀ q, q < 1508 → t2 b q = τ a q := by
  intro n
  induction n with
  | zero => intro i t h1 h2 h3 h4; omega
  | succ n ih =>
    intro i t h1 h2 h3 h4
    have ei : Int32.ofNat i + 1 = Int32.ofNat (i + 1) := addk i 1
    rw [F_X10_copyAll_L2]
    by_cases hd : 1508 ≤ i
    · have c : (1508 : Int32) ≤ Int32.ofNat i := (lek (a := 1508) (by omega) (by omega)).mpr hd
      rw [if_pos c]
      exact ⟨t, rfl, h1, fun q hq => h2 q (by omega)⟩
    · have c : ¬ (1508 : Int32) ≤ Int32.ofNat i := fun q => hd ((lek (a := 1508) (by omega) (by omega)).mp q)
      rw [if_neg c, ha, hb, mInk (k := i) (by omega) (by decide), mInk (k := i) (by omega) (by decide), nnk (k := i) (by omega), mLet_eq, ei]
      refine ih (i + 1) _ (fun c hc => by rw [gu_ne _ _ _ hc]; exact h1 c hc) (fun q hq => ?_) (by omega) (by omega)
      by_cases e : q = i
      · subst e; rw [gu_self, h1 a hab]
      · rw [gu_off _ _ (Or.inr e)]; exact h2 q (by omega)
theorem copyAll_eq {a b : Nat} (hab : a ≠ b) (ha : zl Z a = 1508) (hb : zl Z b = 1508) (τ : gS) : ∃ t2, F_X10_copyAll Z a b τ = some (0, t2) ∧ (∀ c, c ≠ b → t2 c = τ c) ∧ ∀ q, q < 1508 → t2 b q = τ a q := by
  have m5 : mFuel = 5000 := rfl
  exact copyAll_L hab ha hb τ mFuel 0 τ (fun _ _ => rfl) (fun q hq => by omega) (by omega) (by omega)
/-- the class and the model, thinking, since σ and τ -/
def TK (σ τ s t : gS) : Prop := (∀ c, pcl c ∨ (65 ≤ c ∧ c < 90) → s c = σ c) ∧ (∀ c, (pml c ∧ c ≠ 66) ∨ c < 65 ∨ 90 ≤ c → t c = τ c) ∧ k65 τ t ∧ ∀ q, q < 1508 → t 71 q = τ 66 q
def FR (τ t : gS) : Prop := ∀ q, q < 1508 → t 66 q = τ 66 q
theorem thinks_eq (hZ : Lay Z) (σ τ : gS) : ∃ t, F_X10_thinks Z τ = some (0, t) ∧ TK σ τ σ t ∧ FR τ t := by
  obtain ⟨t, a1, a2, a3⟩ := copyAll_eq (Z := Z) (a := 66) (b := 71) (by decide) (zl_at (hZ.at (i := 66) rfl)) (zl_at (hZ.at (i := 71) rfl)) τ
  refine ⟨t, by unfold F_X10_thinks; rw [a1, mCall_some], ⟨fun _ _ => rfl, fun c hc => a2 c (by unfold pml at hc; omega), ?_, a3⟩, fun q hq => by rw [a2 66 (by decide)]⟩
  have e := a2 65 (by decide)
  exact ⟨by rw [e], by rw [e], by rw [e]⟩
theorem TK.puts (hZ : Lay Z) {σ τ s t : gS} (tk : TK σ τ s t) : ∃ t2, F_X10_putsBack Z t = some (0, t2) ∧ TK σ τ s t2 ∧ FR τ t2 := by
  obtain ⟨t2, a1, a2, a3⟩ := copyAll_eq (Z := Z) (a := 71) (b := 66) (by decide) (zl_at (hZ.at (i := 71) rfl)) (zl_at (hZ.at (i := 66) rfl)) t
  obtain ⟨k1, k2, k3, k4⟩ := tk
  refine ⟨t2, by unfold F_X10_putsBack; rw [a1, mCall_some], ⟨k1, fun c hc => (a2 c (by omega)).trans (k2 c hc), ?_, fun q hq => by rw [a2 71 (by decide)]; exact k4 q hq⟩, fun q hq => (a3 q hq).trans (k4 q hq)⟩
  have e := a2 65 (by decide)
  exact ⟨by rw [e]; exact k3.1, by rw [e]; exact k3.2.1, by rw [e]; exact k3.2.2⟩
theorem TK.anew {σ τ s t : gS} (tk : TK σ τ s t) (fr : FR τ t) {N V T M B : Nat} (hp : HP Z σ τ 4 66 N V T M B) : ∃ s2, F_X0_becomeAs Z 22 4 s = some (0, s2) ∧ TK σ τ s2 t ∧ HP Z s2 t 22 66 N V T M B := by
  obtain ⟨s2, a1, a2, a3⟩ := become_eq (Z := Z) (l0 := 22) (l1 := 4) s (by omega)
  obtain ⟨k1, k2, k3, k4⟩ := tk
  refine ⟨s2, a1, ⟨fun c hc => (a3 c (by unfold pcl at hc; omega)).trans (k1 c hc), k2, k3, k4⟩, hp.cp (fun j i h => (a2 j i h).trans ?_) (fun c hc => (a3 c (by omega)).trans (k1 c (by unfold pcl; omega))) fr⟩
  rw [k1 (4 + j) (by unfold pcl; unfold hdm dom at h; omega)]
theorem TK.mf {σ τ s t s2 t2 : gS} (tk : TK σ τ s t) (mf : MF 22 s s2 t t2) : TK σ τ s2 t2 := by
  obtain ⟨k1, k2, k3, k4⟩ := tk
  refine ⟨fun c hc => (mf.1 c (by unfold pcl at hc; omega) (by unfold pcl at hc; omega)).trans (k1 c hc), fun c hc => (mf.2 c (by omega) (by unfold pml at hc; omega) (by unfold pml at hc; omega)).trans (k2 c hc), ?_, fun q hq => by rw [mf.2 71 (by decide) (by decide) (by decide)]; exact k4 q hq⟩
  have e := mf.2 65 (by decide) (by decide) (by decide)
  exact ⟨by rw [e]; exact k3.1, by rw [e]; exact k3.2.1, by rw [e]; exact k3.2.2⟩
theorem TK.fin {σ τ s t : gS} (tk : TK σ τ s t) (fr : FR τ t) (hr : RR Z σ τ) {r : Int32} {A C : Option (Int32 × gS)} (a : A = some (r, s)) (b : C = some (r, t)) : ∃ r σ2 τ2, A = some (r, σ2) ∧ C = some (r, τ2) ∧ RR Z σ2 τ2 ∧ (∀ c, 65 ≤ c → c < 90 → σ2 c = σ c) ∧ ∀ c, c < 65 ∨ 90 ≤ c → τ2 c = τ c := by
  obtain ⟨N, V, T, M, B, hp, hm, -⟩ := hr.1
  obtain ⟨k1, k2, k3, k4⟩ := tk
  refine ⟨r, s, t, a, b, ?_, fun c h1 h2 => k1 c (Or.inr ⟨h1, h2⟩), fun c hc => k2 c (Or.inr hc)⟩
  exact hr.now hp (fun c h1 h2 => k1 c (Or.inl h1)) (fun c h1 h2 => k2 c (Or.inl ⟨h1, h2⟩)) k3 (hp.cp (fun j i h => by rw [k1 (4 + j) (by unfold pcl; unfold hdm dom at h; omega)]) (fun c hc => k1 c (by unfold pcl; omega)) fr) hm (Nat.le_refl T)
end
