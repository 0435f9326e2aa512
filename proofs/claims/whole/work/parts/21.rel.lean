/-! ===== the relation of class (σ) and model (τ) ===== -/
/-- where the model keeps the place i of the part j of a house -/
def mp (j i : Nat) : Nat := match j with
  | 0 => match i with
    | 9 => 1
    | 10 => 5
    | 11 => 9
    | 12 => 3
    | 13 => 4
    | 14 => 6
    | 15 => 7
    | 16 => 8
    | 17 => 2
    | _ => 0
  | 1 => 82 + 4 * i
  | 2 => 82 + 4 * i + 1
  | 3 => 82 + 4 * i + 2
  | 4 => 82 + 4 * i + 3
  | 5 => 10 + i
  | 6 => 18 + i
  | _ => 130 + i
/-- the places of a house that count, with N things -/
def dom (N j i : Nat) : Prop := (j = 0 ∧ 9 ≤ i ∧ i ≤ 18) ∨ (1 ≤ j ∧ j ≤ 4 ∧ i < N) ∨ (j = 5 ∧ i < 8) ∨ (j = 6 ∧ i < 64) ∨ (j = 7 ∧ i < 6)
theorem dom.mono {N M j i : Nat} (h : dom N j i) (hNM : N ≤ M) : dom M j i := by
  rcases h with h | h | h | h | h
  · exact Or.inl h
  · exact Or.inr (Or.inl ⟨h.1, h.2.1, by omega⟩)
  · exact Or.inr (Or.inr (Or.inl h))
  · exact Or.inr (Or.inr (Or.inr (Or.inl h)))
  · exact Or.inr (Or.inr (Or.inr (Or.inr h)))
theorem mp0 {i : Nat} (h : 9 ≤ i ∧ i ≤ 18) : mp 0 i < 10 ∧ ∀ i2, 9 ≤ i2 ∧ i2 ≤ 18 → mp 0 i = mp 0 i2 → i = i2 := by
  have key : ∀ a, a < 10 → ∀ b, b < 10 → mp 0 (a + 9) < 10 ∧ (mp 0 (a + 9) = mp 0 (b + 9) → a = b) := by decide
  obtain ⟨a, rfl⟩ : ∃ a, i = a + 9 := ⟨i - 9, by omega⟩
  refine ⟨(key a (by omega) a (by omega)).1, fun i2 h2 e => ?_⟩
  obtain ⟨b, rfl⟩ : ∃ b, i2 = b + 9 := ⟨i2 - 9, by omega⟩
  have := (key a (by omega) b (by omega)).2 e
  omega
theorem mp_inj {j i j2 i2 : Nat} (h : dom 12 j i) (h2 : dom 12 j2 i2) (e : mp j i = mp j2 i2) : j = j2 ∧ i = i2 := by
  have z : ∀ {j i : Nat}, dom 12 j i → (j = 0 ∧ 9 ≤ i ∧ i ≤ 18 ∧ mp j i < 10) ∨ (j = 1 ∧ i < 12 ∧ mp j i = 82 + 4 * i) ∨ (j = 2 ∧ i < 12 ∧ mp j i = 82 + 4 * i + 1) ∨ (j = 3 ∧ i < 12 ∧ mp j i = 82 + 4 * i + 2) ∨ (j = 4 ∧ i < 12 ∧ mp j i = 82 + 4 * i + 3) ∨ (j = 5 ∧ i < 8 ∧ mp j i = 10 + i) ∨ (j = 6 ∧ i < 64 ∧ mp j i = 18 + i) ∨ (j = 7 ∧ i < 6 ∧ mp j i = 130 + i) := by
    intro j i h
    rcases h with ⟨rfl, h⟩ | ⟨h1, h2, h3⟩ | ⟨rfl, h⟩ | ⟨rfl, h⟩ | ⟨rfl, h⟩
    · exact Or.inl ⟨rfl, h.1, h.2, (mp0 h).1⟩
    · rcases (show j = 1 ∨ j = 2 ∨ j = 3 ∨ j = 4 by omega) with rfl | rfl | rfl | rfl
      · exact Or.inr (Or.inl ⟨rfl, h3, rfl⟩)
      · exact Or.inr (Or.inr (Or.inl ⟨rfl, h3, rfl⟩))
      · exact Or.inr (Or.inr (Or.inr (Or.inl ⟨rfl, h3, rfl⟩)))
      · exact Or.inr (Or.inr (Or.inr (Or.inr (Or.inl ⟨rfl, h3, rfl⟩))))
    · exact Or.inr (Or.inr (Or.inr (Or.inr (Or.inr (Or.inl ⟨rfl, h, rfl⟩)))))
    · exact Or.inr (Or.inr (Or.inr (Or.inr (Or.inr (Or.inr (Or.inl ⟨rfl, h, rfl⟩))))))
    · exact Or.inr (Or.inr (Or.inr (Or.inr (Or.inr (Or.inr (Or.inr ⟨rfl, h, rfl⟩))))))
  rcases z h with ⟨rfl, a1, a2, a3⟩ | ⟨rfl, a1, a2⟩ | ⟨rfl, a1, a2⟩ | ⟨rfl, a1, a2⟩ | ⟨rfl, a1, a2⟩ | ⟨rfl, a1, a2⟩ | ⟨rfl, a1, a2⟩ | ⟨rfl, a1, a2⟩ <;> rcases z h2 with ⟨rfl, b1, b2, b3⟩ | ⟨rfl, b1, b2⟩ | ⟨rfl, b1, b2⟩ | ⟨rfl, b1, b2⟩ | ⟨rfl, b1, b2⟩ | ⟨rfl, b1, b2⟩ | ⟨rfl, b1, b2⟩ | ⟨rfl, b1, b2⟩ <;> first | (exact ⟨rfl, (mp0 ⟨a1, a2⟩).2 _ ⟨b1, b2⟩ e⟩) | omega
theorem mp_lt {j i : Nat} (h : dom 12 j i) : mp j i < 136 := by
  rcases h with ⟨rfl, h⟩ | ⟨h1, h2, h3⟩ | ⟨rfl, h⟩ | ⟨rfl, h⟩ | ⟨rfl, h⟩
  · have := (mp0 h).1; omega
  · rcases (show j = 1 ∨ j = 2 ∨ j = 3 ∨ j = 4 by omega) with rfl | rfl | rfl | rfl <;> (show _ + _ < 136) <;> omega
  · show 10 + i < 136; omega
  · show 18 + i < 136; omega
  · show 130 + i < 136; omega
/-- class's house h and model's row a hold the same -/
def HC (N : Nat) (σ τ : gS) (h a : Nat) : Prop := ∀ j i, dom N j i → σ (h + j) i = τ a (mp j i)
theorem gu_at (σ : gS) (c k : Nat) (v : Int32) (c2 k2 : Nat) : gu σ c k v c2 k2 = if c2 = c ∧ k2 = k then v else σ c2 k2 := by
  unfold gu upd
  by_cases h : c2 = c
  · subst h
    by_cases h2 : k2 = k
    · rw [if_pos rfl, if_pos h2, if_pos ⟨rfl, h2⟩]
    · rw [if_pos rfl, if_neg h2, if_neg (fun q => h2 q.2)]
  · rw [if_neg h, if_neg (fun q => h q.1)]
theorem gu_self (σ : gS) (c k : Nat) (v : Int32) : gu σ c k v c k = v := by rw [gu_at, if_pos ⟨rfl, rfl⟩]
theorem gu_off (σ : gS) {c k c2 k2 : Nat} (v : Int32) (h : c2 ≠ c ∨ k2 ≠ k) : gu σ c k v c2 k2 = σ c2 k2 := by
  rw [gu_at, if_neg]
  rintro ⟨rfl, rfl⟩
  rcases h with h | h <;> exact h rfl
/-- the same place becomes the same on both sides -/
theorem HC.upd {N : Nat} {σ τ : gS} {h a : Nat} (hN : N ≤ 12) (hc : HC N σ τ h a) {j i : Nat} (hd : dom 12 j i) (v : Int32) : HC N (gu σ (h + j) i v) (gu τ a (mp j i) v) h a := by
  intro j2 i2 h2
  by_cases e : j2 = j ∧ i2 = i
  · obtain ⟨rfl, rfl⟩ := e
    rw [gu_self, gu_self]
  · rw [gu_off _ _ (by omega), gu_off _ _ (Or.inr (fun q => e (mp_inj (h2.mono hN) hd q))), hc j2 i2 h2]
theorem HC.fr {N : Nat} {σ τ σ2 τ2 : gS} {h a : Nat} (hc : HC N σ τ h a) (h1 : ∀ j, j ≤ 7 → σ2 (h + j) = σ (h + j)) (h2 : τ2 a = τ a) : HC N σ2 τ2 h a := by
  intro j i hd
  rw [h1 j (by rcases hd with h | h | h | h | h <;> omega), h2]
  exact hc j i hd
/-- a number at a place is one of 0 .. m -/
def le (x : Int32) (m : Nat) : Prop := ∃ k, k ≤ m ∧ x = Int32.ofNat k
theorem le_k {k m : Nat} (h : k ≤ m) : le (Int32.ofNat k) m := ⟨k, h, rfl⟩
-- ---- texts
/-- a step of the class, out of the model's -/
def ce (m : Int32) : Int32 := if 0 ≤ m then m else if m = -1 then -124 else if m = -2 then -38 else if m = -3 then -60 else if m = -4 then -61 else if m = -5 then -62 else if m = -6 then -43 else if m = -7 then -45 else if m = -8 then -42 else if m = -9 then -47 else -33
/-- what n steps of a text do to the depth of the stack: d k ahead of the step k -/
def WF (n nm : Nat) (co : Nat → Int32) : Prop := ∃ d : Nat → Nat, d 0 = 0 ∧ d n = 1 ∧ ∀ k, k < n → ((∃ q, q < 10000 + nm ∧ co k = Int32.ofNat q) ∧ d (k + 1) = d k + 1) ∨ (co k = -10 ∧ 1 ≤ d k ∧ d (k + 1) = d k) ∨ ((∃ q, 1 ≤ q ∧ q ≤ 9 ∧ co k = -Int32.ofNat q) ∧ 2 ≤ d k ∧ d (k + 1) + 1 = d k)
/-- the Text at the cell c is the text t of the model's row a -/
def TT (Z : List gH) (σ τ : gS) (c a t key : Nat) : Prop := key ≤ 2 ∧ σ c 0 = Int32.ofNat key ∧ τ a (136 + 2 * t) = Int32.ofNat (1000 * key + zl Z (c + 1)) ∧ zl Z (c + 1) ≤ 95 ∧ σ c 1 = τ a (137 + 2 * t) ∧ (∀ k, k < zl Z (c + 1) → σ (c + 1) k = ce (τ a (164 + 96 * t + k))) ∧ WF (zl Z (c + 1)) (if key = 0 then 3 else 2) (fun k => τ a (164 + 96 * t + k))
/-- the texts of a house: ks tells their keys -/
def TXS (Z : List gH) (σ τ : gS) (h a T : Nat) : Prop := ∃ ks : Nat → Nat, (∀ t, t < T → ∃ c, 90 ≤ c ∧ zr Z t = some c ∧ TT Z σ τ c a t (ks t)) ∧ ∀ key, key < 3 → (σ (h + 8) key = -1 ∧ ∀ t, t < T → ks t ≠ key) ∨ ∃ t, t < T ∧ σ (h + 8) key = Int32.ofNat t ∧ ks t = key ∧ ∀ u, t < u → u < T → ks u ≠ key
/-- all of a house -/
def HP (Z : List gH) (σ τ : gS) (h a N V T M B : Nat) : Prop :=
  (N ≤ 12 ∧ V ≤ 6 ∧ T ≤ 14 ∧ M ≤ 20000 ∧ B ≤ 30000000) ∧ (σ h 9 = Int32.ofNat N ∧ σ h 10 = Int32.ofNat V ∧ σ h 11 = Int32.ofNat T ∧ σ h 17 = Int32.ofNat M ∧ σ h 14 = Int32.ofNat B ∧ le (σ h 13) 9) ∧ HC N σ τ h a ∧
  (∀ i, i < N → le (σ (h + 1) i) 5 ∧ le (σ (h + 2) i) 7 ∧ le (σ (h + 3) i) 99 ∧ le (σ (h + 4) i) 1) ∧ (∀ i, i < 8 → le (σ (h + 5) i) 99) ∧ (∀ i, i < 64 → le (σ (h + 6) i) 2) ∧ TXS Z σ τ h a T
theorem TT.fr {Z : List gH} {σ τ σ2 τ2 : gS} {c a t key : Nat} (h : TT Z σ τ c a t key) (h1 : σ2 c = σ c) (h2 : σ2 (c + 1) = σ (c + 1)) (h3 : ∀ q, 136 ≤ q → τ2 a q = τ a q) : TT Z σ2 τ2 c a t key := by
  obtain ⟨q1, q2, q3, q4, q5, q6, q7⟩ := h
  refine ⟨q1, by rw [h1]; exact q2, by rw [h3 _ (by omega)]; exact q3, q4, by rw [h1, h3 _ (by omega)]; exact q5, fun k hk => by rw [h2, h3 _ (by omega)]; exact q6 k hk, ?_⟩
  have e : (fun k => τ2 a (164 + 96 * t + k)) = (fun k => τ a (164 + 96 * t + k)) := by funext k; exact h3 _ (by omega)
  rw [e]; exact q7
theorem TXS.fr {Z : List gH} {σ τ σ2 τ2 : gS} {h a T : Nat} (hx : TXS Z σ τ h a T) (h1 : ∀ c, 90 ≤ c → σ2 c = σ c) (h2 : σ2 (h + 8) = σ (h + 8)) (h3 : ∀ q, 136 ≤ q → τ2 a q = τ a q) : TXS Z σ2 τ2 h a T := by
  obtain ⟨ks, q1, q2⟩ := hx
  refine ⟨ks, fun t ht => ?_, by rw [h2]; exact q2⟩
  obtain ⟨c, c1, c2, c3⟩ := q1 t ht
  exact ⟨c, c1, c2, c3.fr (h1 c c1) (h1 _ (by omega)) h3⟩
theorem HP.fr {Z : List gH} {σ τ σ2 τ2 : gS} {h a N V T M B : Nat} (hp : HP Z σ τ h a N V T M B) (h1 : ∀ j, j ≤ 8 → σ2 (h + j) = σ (h + j)) (h3 : ∀ c, 90 ≤ c → σ2 c = σ c) (h2 : τ2 a = τ a) : HP Z σ2 τ2 h a N V T M B := by
  obtain ⟨p1, p2, p3, p4, p5, p6, p7⟩ := hp
  have e0 : σ2 h = σ h := h1 0 (by omega)
  refine ⟨p1, by rw [e0]; exact p2, p3.fr (fun j hj => h1 j (by omega)) h2, ?_, ?_, ?_, p7.fr h3 (h1 8 (by omega)) (fun q _ => by rw [h2])⟩
  · intro i hi; rw [h1 1 (by omega), h1 2 (by omega), h1 3 (by omega), h1 4 (by omega)]; exact p4 i hi
  · intro i hi; rw [h1 5 (by omega)]; exact p5 i hi
  · intro i hi; rw [h1 6 (by omega)]; exact p6 i hi
