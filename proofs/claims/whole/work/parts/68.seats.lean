section
variable {Z : List gH}
theorem wi_m1 {x : Int32} {V : Nat} (hV : V ≤ 6) : (x = -1 ∧ wi x (-1) (Int32.ofNat V - 1) = 1) ∨ (¬ x = -1 ∧ ∃ k, k < V ∧ x = Int32.ofNat k ∧ wi x (-1) (Int32.ofNat V - 1) = 1 ∧ wi x 0 (Int32.ofNat V - 1) = 1) ∨ (¬ x = -1 ∧ wi x (-1) (Int32.ofNat V - 1) = 0 ∧ wi x 0 (Int32.ofNat V - 1) = 0) := by
  have tv : (Int32.ofNat V - 1).toInt = (V : Int) - 1 := by
    have := subInt (L := V) (m := 1) (by omega) (by decide)
    exact this
  have t1 : (-1 : Int32).toInt = -1 := rfl
  have t0 : (0 : Int32).toInt = 0 := rfl
  by_cases e : x = -1
  · subst e
    refine Or.inl ⟨rfl, if_neg (fun h => ?_)⟩
    rcases h with h | h
    · rw [Int32.lt_iff_toInt_lt] at h; omega
    · rw [Int32.lt_iff_toInt_lt, tv, t1] at h; omega
  · rcases rngN x V (by omega) with ⟨k, hk, rfl⟩ | ho
    · refine Or.inr (Or.inl ⟨e, k, hk, rfl, if_neg (fun h => ?_), wi_inN hk (by omega)⟩)
      rcases h with h | h
      · rw [Int32.lt_iff_toInt_lt, t1, Int32.toInt_ofNat_of_lt (by omega)] at h; omega
      · rw [Int32.lt_iff_toInt_lt, tv, Int32.toInt_ofNat_of_lt (by omega)] at h; omega
    · refine Or.inr (Or.inr ⟨e, ?_, wi_out ho⟩)
      rcases ho with ho | ho
      · refine wi_out (Or.inl ?_)
        rw [Int32.lt_iff_toInt_lt] at ho ⊢
        rw [t0] at ho
        rw [t1]
        have : x.toInt ≠ -1 := fun q => e (Int32.toInt_inj.mp q)
        omega
      · exact wi_out (Or.inr ho)
theorem sim_seats (x : Int32) : Sim Z (F_X9_seats Z x) (F_X10_seats Z x) := by
  intro σ τ hr
  obtain ⟨N, V, T, M, B, hp, hm, -⟩ := hr.1
  have hV := hp.1.2.1
  have e10 : σ 4 10 = Int32.ofNat V := hp.2.1.2.1
  have t5 : τ 66 5 = Int32.ofNat V := (hp.2.2.1 0 10 (by unfold dom; omega)).symm.trans e10
  obtain ⟨s2, a1, a2, a3⟩ := seatAll_eq (Z := Z) hV σ e10
  have g66 : gu τ 65 6 (-1) 66 = τ 66 := gu_ne _ _ _ (by decide)
  obtain ⟨t2, b1, b2, b3⟩ := dfs (Z := Z) (A := qA σ) hV τ t5 (fun i r hi hr => by
    have z1 : τ 66 (130 + i) = σ 11 i := (hp.2.2.1 7 i (by unfold dom; omega)).symm
    have z2 : τ 66 (10 + r) = σ 9 r := (hp.2.2.1 5 r (by unfold dom; omega)).symm
    rw [z1, z2]; rfl) V 12 0 (fun _ => true) 0 0 0 (gu τ 65 6 (-1)) (by omega) (by omega) (by omega) (fun r hr => by rw [mk_zero r]; simp) g66 (gu_self _ _ _ _) (by omega) (by omega)
  have b1 : F_givesR Z 12 0 0 0 (gu τ 65 6 (-1)) = some (0, t2) := b1
  rw [Nat.sub_zero] at b3
  rcases b3 with ⟨c1, -⟩ | ⟨-, c2, -, c4⟩
  · omega
  rw [Nat.zero_add, bv_succ] at c2
  have e0 : (fun k => t2 70 (0 + k)) = (fun k => t2 70 k) := by funext k; rw [Nat.zero_add]
  rw [e0] at c4
  have fin : ∀ (r : Int32) {C D : Option (Int32 × gS)}, C = some (r, s2) → D = some (r, t2) → ∃ r σ2 τ2, C = some (r, σ2) ∧ D = some (r, τ2) ∧ RR Z σ2 τ2 ∧ (∀ c, 65 ≤ c → c < 90 → σ2 c = σ c) ∧ ∀ c, c < 65 ∨ 90 ≤ c → τ2 c = τ c := fun r C D h1 h2 => by
    have f : ∀ c, c ≠ 65 → c ≠ 69 → c ≠ 70 → t2 c = τ c := fun c p q w => by rw [b2.1 c p q w, gu_ne _ _ _ p]
    have f65 : ∀ k, k ≠ 6 → t2 65 k = τ 65 k := fun k hk => by rw [b2.2.1 k hk, gu_off _ _ (Or.inr hk)]
    exact ⟨r, s2, t2, h1, h2, hr.query (fun c hc => a2 c (by unfold pcl at hc; omega) (by unfold pcl at hc; omega)) (fun c hc => f c (by unfold pml at hc; omega) (by unfold pml at hc; omega) (by unfold pml at hc; omega)) ⟨f65 3 (by decide), f65 10 (by decide), f65 36 (by decide)⟩, fun c p q => a2 c (by omega) (by omega), fun c p => f c (by omega) (by omega) (by omega)⟩
  unfold F_X9_seats F_X10_seats F_X9_seats_J16
  rw [x9_isVisitor, x10_in, mCall_some, mCall_some, e10, t5, a1, mCall_some, mLet_eq, b1, mCall_some, c2]
  rcases wi_m1 (x := x) hV with ⟨rfl, w1⟩ | ⟨n1, k, hk, rfl, w1, w2⟩ | ⟨n1, w1, w2⟩
  · rw [w1, if10, if_pos rfl, if_pos rfl, if_neg neg1]
    exact fin _ rfl rfl
  · have i6 : ∀ {α : Type} {a : Option α}, mIn 6 (Int32.ofNat k) a = a := mInk (k := k) (by omega) (by decide)
    have p0 : 0 ≤ Int32.ofNat k := (lek (a := 0) (by decide) (by omega)).mpr (Nat.zero_le k)
    have u := QS.uniq _ _ _ _ a3 c4 k (by rw [qls_len]; exact hk)
    have u : s2 33 k = t2 70 k := u
    rw [w1, w2, if10, if10, if_neg n1, if_neg n1, if_pos p0, i6, i6, nnk (k := k) (by omega), u]
    exact fin _ rfl rfl
  · rw [w1, w2, if00, if00, if_neg n1]; exact same hr rfl rfl
end
