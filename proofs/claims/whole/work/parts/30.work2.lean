theorem WF.le {n nm : Nat} {co : Nat → Int32} {d : Nat → Nat} (h0 : d 0 = 0) (hs : ∀ k, k < n → ((∃ q, q < 10000 + nm ∧ co k = Int32.ofNat q) ∧ d (k + 1) = d k + 1) ∨ (co k = -10 ∧ 1 ≤ d k ∧ d (k + 1) = d k) ∨ ((∃ q, 1 ≤ q ∧ q ≤ 9 ∧ co k = -Int32.ofNat q) ∧ 2 ≤ d k ∧ d (k + 1) + 1 = d k)) : ∀ k, k ≤ n → d k ≤ k := by
  intro k
  induction k with
  | zero => intro _; omega
  | succ k ih =>
    intro hk
    have h1 := ih (by omega)
    rcases hs k (by omega) with ⟨-, h⟩ | ⟨-, -, h⟩ | ⟨-, -, h⟩ <;> omega
section
variable {Z : List gH}
set_option maxHeartbeats 1000000 in
theorem work_L {c t n nm : Nat} {f0 f1 f2 : Int32} {co : Nat → Int32} {d : Nat → Nat} (hz : zl Z (c + 1) = n) (hn : n ≤ 95) (ht : t < 14) (hnm : nm ≤ 3) (hd0 : d 0 = 0) (hdn : d n = 1) (hc3 : c + 1 ≠ 3) (hs : ∀ k, k < n → ((∃ q, q < 10000 + nm ∧ co k = Int32.ofNat q) ∧ d (k + 1) = d k + 1) ∨ (co k = -10 ∧ 1 ≤ d k ∧ d (k + 1) = d k) ∨ ((∃ q, 1 ≤ q ∧ q ≤ 9 ∧ co k = -Int32.ofNat q) ∧ 2 ≤ d k ∧ d (k + 1) + 1 = d k)) :
    ∀ (m k : Nat) (σ τ : gS), k ≤ n → n - k < m → (∀ j, j < d k → σ 3 j = τ 79 j) → (∀ j, j < n → σ (c + 1) j = ce (co j)) → (∀ j, j < n → τ 66 (164 + 96 * t + j) = co j) → (τ 80 0 = f0 ∧ τ 80 1 = f1 ∧ (nm = 3 → τ 80 2 = f2)) → ∃ v σ2 τ2, F_X2_work_L27 Z f0 f1 f2 m (c + 1) (Int32.ofNat (d k)) (Int32.ofNat k) σ = some (v, σ2) ∧ F_X10_worksOut_L22 Z (Int32.ofNat t) m (Int32.ofNat (d k)) (Int32.ofNat n) (Int32.ofNat k) τ = some (v, τ2) ∧ (∀ x, x ≠ 3 → σ2 x = σ x) ∧ ∀ x, x ≠ 79 → τ2 x = τ x := by
  intro m
  induction m with
  | zero => intro k σ τ h1 h2; omega
  | succ m ih =>
    intro k σ τ hk hm hst hcs hct hf
    have hdk := WF.le hd0 hs k hk
    rw [F_X2_work_L27, F_X10_worksOut_L22, hz]
    by_cases hkn : n ≤ k
    · have ek : k = n := by omega
      subst ek
      rw [if_pos ((lek (by omega) (by omega)).mpr hkn), if_pos ((lek (by omega) (by omega)).mpr hkn)]
      exact ⟨_, σ, τ, rfl, by rw [hst 0 (by omega)], fun _ _ => rfl, fun _ _ => rfl⟩
    · have ex : (164 + (96 * Int32.ofNat t)) + Int32.ofNat k = Int32.ofNat (164 + 96 * t + k) := by
        show (Int32.ofNat 164 + Int32.ofNat 96 * Int32.ofNat t) + Int32.ofNat k = _
        rw [mulk, addk, addk]
      have ek1 : Int32.ofNat k + 1 = Int32.ofNat (k + 1) := addk k 1
      have ed1 : Int32.ofNat (d k) + 1 = Int32.ofNat (d k + 1) := addk (d k) 1
      rw [if_neg (fun q => hkn ((lek (by omega) (by omega)).mp q)), if_neg (fun q => hkn ((lek (by omega) (by omega)).mp q)), mInk (k := k) (n := n) (by omega) (by omega), nnk (k := k) (by omega), ex, mInk (k := 164 + 96 * t + k) (by omega) (by decide), nnk (k := 164 + 96 * t + k) (by omega)]
      simp only [mLet_eq]
      rw [hcs k (by omega), hct k (by omega), ek1]
      -- both sides push the same number
      have push : ∀ v, d (k + 1) = d k + 1 → ∃ r σ2 τ2, F_X2_work_L27 Z f0 f1 f2 m (c + 1) (Int32.ofNat (d k + 1)) (Int32.ofNat (k + 1)) (gu σ 3 (d k) v) = some (r, σ2) ∧ F_X10_worksOut_L22 Z (Int32.ofNat t) m (Int32.ofNat (d k + 1)) (Int32.ofNat n) (Int32.ofNat (k + 1)) (gu τ 79 (d k) v) = some (r, τ2) ∧ (∀ x, x ≠ 3 → σ2 x = σ x) ∧ ∀ x, x ≠ 79 → τ2 x = τ x := by
        intro v hd
        obtain ⟨r, σ2, τ2, a1, a2, a3, a4⟩ := ih (k + 1) (gu σ 3 (d k) v) (gu τ 79 (d k) v) (by omega) (by omega) (fun j hj => by
          by_cases e : j = d k
          · rw [e, gu_self, gu_self]
          · rw [gu_off _ _ (Or.inr e), gu_off _ _ (Or.inr e), hst j (by omega)]) (fun j hj => by rw [gu_off _ _ (Or.inl hc3)]; exact hcs j hj) (fun j hj => by rw [gu_off _ _ (Or.inl (by decide))]; exact hct j hj) ⟨by rw [gu_off _ _ (Or.inl (by decide))]; exact hf.1, by rw [gu_off _ _ (Or.inl (by decide))]; exact hf.2.1, fun q => by rw [gu_off _ _ (Or.inl (by decide))]; exact hf.2.2 q⟩
        rw [hd] at a1 a2
        exact ⟨r, σ2, τ2, a1, a2, fun x hx => by rw [a3 x hx, gu_ne _ _ _ hx], fun x hx => by rw [a4 x hx, gu_ne _ _ _ hx]⟩
      -- both sides write the same number below the top
      have put : ∀ v e, e < d k → (d (k + 1) = e + 1) → ∃ r σ2 τ2, F_X2_work_L27 Z f0 f1 f2 m (c + 1) (Int32.ofNat (e + 1)) (Int32.ofNat (k + 1)) (gu σ 3 e v) = some (r, σ2) ∧ F_X10_worksOut_L22 Z (Int32.ofNat t) m (Int32.ofNat (e + 1)) (Int32.ofNat n) (Int32.ofNat (k + 1)) (gu τ 79 e v) = some (r, τ2) ∧ (∀ x, x ≠ 3 → σ2 x = σ x) ∧ ∀ x, x ≠ 79 → τ2 x = τ x := by
        intro v e he hd
        obtain ⟨r, σ2, τ2, a1, a2, a3, a4⟩ := ih (k + 1) (gu σ 3 e v) (gu τ 79 e v) (by omega) (by omega) (fun j hj => by
          by_cases e2 : j = e
          · rw [e2, gu_self, gu_self]
          · rw [gu_off _ _ (Or.inr e2), gu_off _ _ (Or.inr e2), hst j (by omega)]) (fun j hj => by rw [gu_off _ _ (Or.inl hc3)]; exact hcs j hj) (fun j hj => by rw [gu_off _ _ (Or.inl (by decide))]; exact hct j hj) ⟨by rw [gu_off _ _ (Or.inl (by decide))]; exact hf.1, by rw [gu_off _ _ (Or.inl (by decide))]; exact hf.2.1, fun q => by rw [gu_off _ _ (Or.inl (by decide))]; exact hf.2.2 q⟩
        rw [hd] at a1 a2
        exact ⟨r, σ2, τ2, a1, a2, fun x hx => by rw [a3 x hx, gu_ne _ _ _ hx], fun x hx => by rw [a4 x hx, gu_ne _ _ _ hx]⟩
      rcases hs k (by omega) with ⟨⟨q, hq, eq⟩, hd⟩ | ⟨eq, h1, hd⟩ | ⟨⟨q, hq1, hq2, eq⟩, h2, hd⟩
      · rw [eq, ce_pos (by omega)]
        have p0 : ¬ Int32.ofNat q < 0 := lt0k (by omega)
        have p96 : ¬ 96 ≤ Int32.ofNat (d k) := fun z => by have := (lek (a := 96) (b := d k) (by decide) (by omega)).mp z; omega
        by_cases h10 : q < 10000
        · have c1 : Int32.ofNat q < 10000 := (ltk (b := 10000) (by omega) (by decide)).mpr h10
          have c2 : ¬ 10000 ≤ Int32.ofNat q := fun z => by have := (lek (a := 10000) (b := q) (by decide) (by omega)).mp z; omega
          rw [if_pos c1, if_neg p0, if_neg c2]
          unfold F_X2_work_J99 F_X2_work_J208
          rw [if_neg p0, if_neg p96, mInk (k := d k) (n := 96) (by omega) (by decide), mInk (k := d k) (n := 96) (by omega) (by decide), nnk (k := d k) (by omega)]
          simp only [mLet_eq]
          rw [ed1, ek1]
          exact push _ hd
        · have c1 : ¬ Int32.ofNat q < 10000 := fun z => h10 ((ltk (b := 10000) (by omega) (by decide)).mp z)
          have c2 : 10000 ≤ Int32.ofNat q := (lek (a := 10000) (b := q) (by decide) (by omega)).mpr (by omega)
          have e1 : Int32.ofNat q - 10000 = Int32.ofNat (q - 10000) := subk (b := 10000) (by omega)
          rw [if_neg c1, if_neg p96, if_neg p0, if_pos c2, e1, mInk (k := q - 10000) (by omega) (by decide), nnk (k := q - 10000) (by omega)]
          unfold F_X2_work_J208
          simp only [mLet_eq, mInk (k := d k) (n := 96) (show d k < 96 by omega) (show 96 < 2 ^ 31 by decide), nnk (k := d k) (show d k < 2 ^ 31 by omega)]
          rw [ed1, ek1]
          rcases (show q = 10000 ∨ q = 10001 ∨ (q = 10002 ∧ nm = 3) by omega) with rfl | rfl | ⟨rfl, hn3⟩
          · rw [if_pos (show Int32.ofNat (10000 - 10000) = 0 from rfl), show 10000 - 10000 = 0 from rfl, hf.1]
            exact push _ hd
          · rw [if_neg (show ¬ Int32.ofNat (10001 - 10000) = 0 by decide), if_pos (show Int32.ofNat (10001 - 10000) = 1 from rfl), show 10001 - 10000 = 1 from rfl, hf.2.1]
            exact push _ hd
          · rw [if_neg (show ¬ Int32.ofNat (10002 - 10000) = 0 by decide), if_neg (show ¬ Int32.ofNat (10002 - 10000) = 1 by decide), show 10002 - 10000 = 2 from rfl, hf.2.2 hn3]
            exact push _ hd
      · rw [eq, show ce (-10) = -33 by decide]
        have em : Int32.ofNat (d k) - 1 = Int32.ofNat (d k - 1) := subk (b := 1) (by omega)
        have p1 : ¬ Int32.ofNat (d k) < 1 := fun z => by have := (ltk (a := d k) (b := 1) (by omega) (by decide)).mp z; omega
        rw [if_pos (by decide), if_pos (show (-10 : Int32) < 0 by decide), if_pos rfl]
        unfold F_X2_work_J99 F_X2_work_J126 F_X2_work_J208
        rw [if_pos (show (-33 : Int32) < 0 by decide), if_pos rfl, if_neg p1, em]
        simp only [mLet_eq, mInk (k := d k - 1) (n := 96) (show d k - 1 < 96 by omega) (show 96 < 2 ^ 31 by decide), nnk (k := d k - 1) (show d k - 1 < 2 ^ 31 by omega)]
        rw [hst (d k - 1) (by omega), ek1]
        have e1 : d k - 1 + 1 = d k := by omega
        by_cases hv : τ 79 (d k - 1) = 0
        · rw [if_pos hv, if_pos hv]
          have := put 1 (d k - 1) (by omega) (by omega)
          rw [e1] at this
          exact this
        · rw [if_neg hv, if_neg hv]
          have := put 0 (d k - 1) (by omega) (by omega)
          rw [e1] at this
          exact this
      · rw [eq]
        obtain ⟨c1, c2, c3, c4, c5⟩ := ce_neg hq1 hq2
        have em : Int32.ofNat (d k) + (-1) = Int32.ofNat (d k - 1) := addm1 (by omega)
        have em2 : Int32.ofNat (d k - 1) - 1 = Int32.ofNat (d k - 2) := by
          have := subk (a := d k - 1) (b := 1) (by omega)
          rw [show d k - 1 - 1 = d k - 2 by omega] at this
          exact this
        have p2 : ¬ Int32.ofNat (d k) < 2 := fun z => by have := (ltk (a := d k) (b := 2) (by omega) (by decide)).mp z; omega
        rw [if_pos c1, if_pos c4, if_neg c5]
        unfold F_X2_work_J99 F_X2_work_J126 F_X2_work_J168 F_X2_work_J208
        rw [if_pos c2, if_neg c3, if_neg p2, em, em2]
        simp only [mLet_eq, mInk (k := d k - 1) (n := 96) (show d k - 1 < 96 by omega) (show 96 < 2 ^ 31 by decide), nnk (k := d k - 1) (show d k - 1 < 2 ^ 31 by omega), mInk (k := d k - 2) (n := 96) (show d k - 2 < 96 by omega) (show 96 < 2 ^ 31 by decide), nnk (k := d k - 2) (show d k - 2 < 2 ^ 31 by omega)]
        rw [hst (d k - 2) (by omega), hst (d k - 1) (by omega)]
        obtain ⟨v, v1, v2⟩ := two_eq (Z := Z) hq1 hq2 (τ 79 (d k - 2)) (τ 79 (d k - 1)) σ τ
        rw [v1, v2, mCall_some, mCall_some, ek1]
        have e1 : d k - 2 + 1 = d k - 1 := by omega
        have := put v (d k - 2) (by omega) (by omega)
        rw [e1] at this
        exact this
end
