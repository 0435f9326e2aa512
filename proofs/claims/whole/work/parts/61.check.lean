section
variable {Z : List gH}
/-- the class and the model, checking, since σ and τ: the model's now lies in its row 68 -/
def CK (σ τ s t : gS) : Prop := (∀ c, pcl c ∨ (65 ≤ c ∧ c < 90) → s c = σ c) ∧ (∀ c, (pml c ∧ c ≠ 66) ∨ c < 65 ∨ 90 ≤ c → t c = τ c) ∧ k65 τ t ∧ ∀ q, q < 1508 → t 68 q = τ 66 q
theorem CK.mf {σ τ s t s2 t2 : gS} (tk : CK σ τ s t) (mf : MF 22 s s2 t t2) : CK σ τ s2 t2 := by
  obtain ⟨k1, k2, k3, k4⟩ := tk
  refine ⟨fun c hc => (mf.1 c (by unfold pcl at hc; omega) (by unfold pcl at hc; omega)).trans (k1 c hc), fun c hc => (mf.2 c (by omega) (by unfold pml at hc; omega) (by unfold pml at hc; omega)).trans (k2 c hc), ?_, fun q hq => by rw [mf.2 68 (by decide) (by decide) (by decide)]; exact k4 q hq⟩
  have e := mf.2 65 (by decide) (by decide) (by decide)
  exact ⟨by rw [e]; exact k3.1, by rw [e]; exact k3.2.1, by rw [e]; exact k3.2.2⟩
theorem CK.puts (hZ : Lay Z) {σ τ s t : gS} (tk : CK σ τ s t) : ∃ t2, F_X10_copyAll Z 68 66 t = some (0, t2) ∧ CK σ τ s t2 ∧ FR τ t2 := by
  obtain ⟨t2, a1, a2, a3⟩ := copyAll_eq (Z := Z) (a := 68) (b := 66) (by decide) (zl_at (hZ.at (i := 68) rfl)) (zl_at (hZ.at (i := 66) rfl)) t
  obtain ⟨k1, k2, k3, k4⟩ := tk
  refine ⟨t2, a1, ⟨k1, fun c hc => (a2 c (by omega)).trans (k2 c hc), ?_, fun q hq => by rw [a2 68 (by decide)]; exact k4 q hq⟩, fun q hq => (a3 q hq).trans (k4 q hq)⟩
  have e := a2 65 (by decide)
  exact ⟨by rw [e]; exact k3.1, by rw [e]; exact k3.2.1, by rw [e]; exact k3.2.2⟩
theorem CK.mix {σ τ s s2 t t2 : gS} (h1 : CK σ τ s t) (h2 : CK σ τ s2 t2) : CK σ τ s t2 := ⟨h1.1, h2.2.1, h2.2.2.1, h2.2.2.2⟩
theorem CK.fin {σ τ s t : gS} (tk : CK σ τ s t) (fr : FR τ t) (hr : RR Z σ τ) {σ0 τ0 : gS} (b1 : ∀ c, 65 ≤ c → c < 90 → σ c = σ0 c) (b2 : ∀ c, c < 65 ∨ 90 ≤ c → τ c = τ0 c) {r : Int32} {A C : Option (Int32 × gS)} (a : A = some (r, s)) (b : C = some (r, t)) : ∃ r σ2 τ2, A = some (r, σ2) ∧ C = some (r, τ2) ∧ RR Z σ2 τ2 ∧ (∀ c, 65 ≤ c → c < 90 → σ2 c = σ0 c) ∧ ∀ c, c < 65 ∨ 90 ≤ c → τ2 c = τ0 c := by
  obtain ⟨N, V, T, M, B, hp, hm, -⟩ := hr.1
  obtain ⟨k1, k2, k3, k4⟩ := tk
  refine ⟨r, s, t, a, b, ?_, fun c h1 h2 => (k1 c (Or.inr ⟨h1, h2⟩)).trans (b1 c h1 h2), fun c hc => (k2 c (Or.inr hc)).trans (b2 c hc)⟩
  exact hr.now hp (fun c h1 h2 => k1 c (Or.inl h1)) (fun c h1 h2 => k2 c (Or.inl ⟨h1, h2⟩)) k3 (hp.cp (fun j i h => by rw [k1 (4 + j) (by unfold pcl; unfold hdm dom at h; omega)]) (fun c hc => k1 c (by unfold pcl; omega)) fr) hm (Nat.le_refl T)
theorem j181 (hZ : Lay Z) {σ τ s t : gS} {n w p : Nat} (ck : CK σ τ s t) (hn : n < 2 ^ 31) (hw : w < 2 ^ 31) (hp : p < 2 ^ 31) : ∃ t2, F_X10_check_J181 Z (Int32.ofNat n) (Int32.ofNat w) (Int32.ofNat p) t = some (if p = n ∧ p = w then 0 else Int32.ofNat (1 + p), t2) ∧ CK σ τ s t2 ∧ FR τ t2 := by
  obtain ⟨t2, a1, a2, a3⟩ := ck.puts hZ
  have e1 : (1 : Int32) + Int32.ofNat p = Int32.ofNat (1 + p) := addk 1 p
  refine ⟨t2, ?_, a2, a3⟩
  unfold F_X10_check_J181
  rw [a1, mCall_some, e1]
  by_cases c1 : p = n
  · subst c1
    rw [if_pos rfl]
    by_cases c2 : p = w
    · subst c2; rw [if_pos rfl, if_pos ⟨rfl, rfl⟩]
    · rw [if_neg (fun q => c2 ((eqk hp hw).mp q)), if_neg (fun q => c2 q.2)]
  · rw [if_neg (fun q => c1 ((eqk hp hn).mp q)), if_neg (fun q => c1 q.1)]
theorem chk_stop (hZ : Lay Z) {σ τ s t : gS} {n w p i f : Nat} (ck : CK σ τ s t) (hn : n ≤ 60) (hw : w ≤ 30) (hi : i < w) (hp : p = 2 * i ∨ p = 2 * i + 1) : ∃ t2, F_X10_check_L80 Z (f + 1) (Int32.ofNat n) (Int32.ofNat (2 * w)) (Int32.ofNat p) (Int32.ofNat (i + 1)) t = some (Int32.ofNat (1 + p), t2) ∧ CK σ τ s t2 ∧ FR τ t2 := by
  obtain ⟨t2, a1, a2, a3⟩ := j181 hZ (n := n) (w := 2 * w) (p := p) ck (by omega) (by omega) (by omega)
  have e2 : (2 : Int32) * Int32.ofNat (i + 1) = Int32.ofNat (2 * (i + 1)) := mulk 2 (i + 1)
  rw [if_neg (by omega)] at a1
  refine ⟨t2, ?_, a2, a3⟩
  have nq : ¬ Int32.ofNat p = Int32.ofNat (2 * (i + 1)) := fun q => by have := (eqk (by omega) (by omega)).mp q; omega
  rw [F_X10_check_L80, e2, a1, if_neg nq, ite_self]
theorem check_L (hZ : Lay Z) {σ τ : gS} {N V T n w : Nat} (hn : n ≤ 60) (hw : w ≤ 30) (ek : ∀ k, k < n → σ 64 k = τ 89 k) : ∀ (f i M B : Nat) (s t : gS), CK σ τ s t → HP Z s t 22 66 N V T M B → i ≤ w → 2 * i ≤ n → w - i + 1 < f → M + (w - i) ≤ 20000 → B + 1188 * (w - i) ≤ 30000000 → ∃ r s2 t2, F_X9_check_L66 Z f (Int32.ofNat n) (Int32.ofNat (2 * w)) (Int32.ofNat (2 * i)) s = some (r, s2) ∧ F_X10_check_L80 Z f (Int32.ofNat n) (Int32.ofNat (2 * w)) (Int32.ofNat (2 * i)) (Int32.ofNat i) t = some (r, t2) ∧ CK σ τ s2 t2 ∧ FR τ t2 := by
  intro f
  induction f with
  | zero => intros; omega
  | succ f ih =>
    intro i M B s t ck hp h1 h2 h3 h4 h5
    have e2 : (2 : Int32) * Int32.ofNat i = Int32.ofNat (2 * i) := mulk 2 i
    have a1' : (1 : Int32) + Int32.ofNat (2 * i) = Int32.ofNat (1 + 2 * i) := addk 1 _
    have a2' : (2 : Int32) + Int32.ofNat (2 * i) = Int32.ofNat (1 + (2 * i + 1)) := (addk 2 _).trans (by congr 1; omega)
    rw [F_X9_check_L66, F_X10_check_L80, e2]
    by_cases hd : w ≤ i
    · obtain rfl : i = w := by omega
      have c : Int32.ofNat (2 * i) ≤ Int32.ofNat (2 * i) := (lek (by omega) (by omega)).mpr (Nat.le_refl _)
      obtain ⟨t2, b1, b2, b3⟩ := j181 hZ (n := n) (w := 2 * i) (p := 2 * i) ck (by omega) (by omega) (by omega)
      rw [if_pos c, if_pos c, b1, a1']
      by_cases q : n ≤ 2 * i
      · rw [if_pos ((lek (by omega) (by omega)).mpr q), if_pos ⟨by omega, rfl⟩]
        exact ⟨_, s, t2, rfl, rfl, b2, b3⟩
      · rw [if_neg (fun x => q ((lek (by omega) (by omega)).mp x)), if_neg (by omega)]
        exact ⟨_, s, t2, rfl, rfl, b2, b3⟩
    have c : ¬ Int32.ofNat (2 * w) ≤ Int32.ofNat (2 * i) := fun x => by have := (lek (by omega) (by omega)).mp x; omega
    obtain ⟨s1, t1, B1, b1, b2, a1, a2, p1, f1⟩ := minute_eq hp (by omega) (by omega) (by omega) (by omega)
    have ck1 := ck.mf f1
    obtain ⟨f, rfl⟩ : ∃ g, f = g + 1 := ⟨f - 1, by omega⟩
    have ei : Int32.ofNat i + 1 = Int32.ofNat (i + 1) := addk i 1
    have ev : Int32.ofNat (2 * i) + 1 = Int32.ofNat (2 * i + 1) := addk _ 1
    have ev2 : Int32.ofNat (2 * i) + 2 = Int32.ofNat (2 * (i + 1)) := addk _ 2
    have ev3 : Int32.ofNat (2 * i + 1) + 1 = Int32.ofNat (2 * (i + 1)) := addk _ 1
    have ne : ¬ Int32.ofNat (2 * i) = Int32.ofNat (2 * i + 1) := fun x => by have := (eqk (by omega) (by omega)).mp x; omega
    rw [if_neg c, if_neg c, if_pos rfl, a1, a2, mCall_some, mCall_some, a1']
    unfold F_X10_check_J131
    simp only [mLet_eq, Int32.add_zero, e2, ev, ei, ev2, ev3, if_neg ne]
    obtain ⟨u1, u2, u3, u4⟩ := chk_stop hZ (f := f) (n := n) (w := w) (p := 2 * i) (i := i) ck1 hn hw (by omega) (Or.inl rfl)
    obtain ⟨v1, v2, v3, v4⟩ := chk_stop hZ (f := f) (n := n) (w := w) (p := 2 * i + 1) (i := i) ck1 hn hw (by omega) (Or.inr rfl)
    by_cases q1 : n ≤ 2 * i
    · have c1 : Int32.ofNat n ≤ Int32.ofNat (2 * i) := (lek (by omega) (by omega)).mpr q1
      rw [if_pos c1, if_pos c1]
      exact ⟨_, s1, u1, rfl, u2, u3, u4⟩
    have c1 : ¬ Int32.ofNat n ≤ Int32.ofNat (2 * i) := fun x => q1 ((lek (by omega) (by omega)).mp x)
    have z6 : t1 66 6 = s1 22 14 := (p1.2.2.1 0 14 (by unfold dom; omega)).symm
    have z64 : ∀ k, k < n → t1 89 k = s1 64 k := fun k hk => by rw [ck1.1 64 (by unfold pcl; omega), ck1.2.1 89 (by unfold pml; omega)]; exact (ek k hk).symm
    rw [if_neg c1, if_neg c1, mInk (k := 2 * i) (by omega) (by decide), mInk (k := 2 * i) (by omega) (by decide), nnk (k := 2 * i) (by omega), z6, z64 (2 * i) (by omega)]
    by_cases q2 : s1 64 (2 * i) = s1 22 14
    rotate_left
    · rw [if_neg q2, if_neg q2]
      exact ⟨_, s1, u1, rfl, u2, u3, u4⟩
    rw [if_pos q2, if_pos q2, if_pos trivial, a2']
    by_cases q3 : n ≤ 2 * i + 1
    · have c3 : Int32.ofNat n ≤ Int32.ofNat (2 * i + 1) := (lek (by omega) (by omega)).mpr q3
      rw [if_pos c3, if_pos c3]
      exact ⟨_, s1, v1, rfl, v2, v3, v4⟩
    have c3 : ¬ Int32.ofNat n ≤ Int32.ofNat (2 * i + 1) := fun x => q3 ((lek (by omega) (by omega)).mp x)
    obtain ⟨r, l1, l2⟩ := allHeat_eq p1
    rw [if_neg c3, if_neg c3, mInk (k := 2 * i + 1) (by omega) (by decide), mInk (k := 2 * i + 1) (by omega) (by decide), nnk (k := 2 * i + 1) (by omega), l1, l2, mCall_some, mCall_some, z64 (2 * i + 1) (by omega)]
    by_cases q4 : s1 64 (2 * i + 1) = r
    · rw [if_pos q4, if_pos q4]
      exact ih (i + 1) (M + 1) B1 s1 t1 ck1 p1 (by omega) (by omega) (by omega) (by omega) (by omega)
    · rw [if_neg q4, if_neg q4]
      exact ⟨_, s1, v1, rfl, v2, v3, v4⟩
theorem sim_check (hZ : Lay Z) (x : Int32) : Sim Z (F_X9_check Z x) (F_X10_check Z x) := by
  intro σ τ hr
  obtain ⟨-, a, b, c, ⟨n, w1, w2, w3, w4⟩, e⟩ := id hr
  have m5 : mFuel = 5000 := rfl
  have f1 : ∀ c, c ≠ 0 → gu σ 0 11 0 c = σ c := fun c h => gu_ne _ _ _ h
  have f0 : ∀ k, k ≠ 11 → gu σ 0 11 0 0 k = σ 0 k := fun k h => gu_off _ _ (Or.inr h)
  have g1 : ∀ c, c ≠ 65 → gu τ 65 36 0 c = τ c := fun c h => gu_ne _ _ _ h
  have g0 : ∀ k, k ≠ 36 → gu τ 65 36 0 65 k = τ 65 k := fun k h => gu_off _ _ (Or.inr h)
  have hr1 : RR Z (gu σ 0 11 0) (gu τ 65 36 0) := hr.other (fun c hc => f1 c (by omega)) (f0 12 (by decide)) (g1 66 (by decide)) (g1 67 (by decide)) (g0 3 (by decide)) (a.fr (fun c h1 h2 => f1 c (by omega)) (fun c h1 h2 => g1 c (by omega))) (b.fr (fun c h1 h2 => f1 c (by omega)) (fun c h1 h2 => g1 c (by omega))) (c.fr (f1 34 (by decide)) (f1 35 (by decide)) (g0 10 (by decide)) (g1 73 (by decide))) ⟨0, by omega, gu_self _ _ _ _, gu_self _ _ _ _, fun k hk => by omega⟩ (e.fr (g1 74 (by decide)) (g1 75 (by decide)))
  have ek : ∀ k, k < n → gu σ 0 11 0 64 k = gu τ 65 36 0 89 k := fun k hk => by rw [f1 64 (by decide), g1 89 (by decide)]; exact w4 k hk
  have fb1 : ∀ c, 65 ≤ c → c < 90 → gu σ 0 11 0 c = σ c := fun c h1 h2 => f1 c (by omega)
  have fb2 : ∀ c, c < 65 ∨ 90 ≤ c → gu τ 65 36 0 c = τ c := fun c h1 => g1 c (by omega)
  unfold F_X9_check F_X10_check
  rw [w2, w3]
  simp only [mLet_eq, x9_within, x10_in, mCall_some]
  generalize gu σ 0 11 0 = σ1 at *
  generalize gu τ 65 36 0 = τ1 at *
  by_cases hw : wi x 1 30 = 0
  · rw [if_pos hw, if_pos hw]; exact ⟨_, σ1, τ1, rfl, rfl, hr1, fb1, fb2⟩
  rw [if_neg hw, if_neg hw]
  obtain ⟨k, hk, rfl⟩ : ∃ k, k ≤ 30 ∧ x = Int32.ofNat k := by
    rcases rng2 x 1 30 (by decide) (by decide) with ⟨k, -, hk, rfl⟩ | ho
    · exact ⟨k, hk, rfl⟩
    · exact absurd (wi_out ho) hw
  obtain ⟨N, V, T, M, B, hp, hm, hi⟩ := hr1.1
  rcases hi with ⟨i1, i2⟩ | ⟨i1, i2, N2, V2, T2, M2, B2, hp2, hm2, ht⟩
  · rw [i1, i2, if00, if00]; exact ⟨_, σ1, τ1, rfl, rfl, hr1, fb1, fb2⟩
  obtain ⟨s, a1, a2, a3⟩ := become_eq (Z := Z) (l0 := 22) (l1 := 13) σ1 (by omega)
  obtain ⟨t1, b1, b2, b3⟩ := copyAll_eq (Z := Z) (a := 66) (b := 68) (by decide) (zl_at (hZ.at (i := 66) rfl)) (zl_at (hZ.at (i := 68) rfl)) τ1
  obtain ⟨t2, c1, c2, c3⟩ := copyAll_eq (Z := Z) (a := 67) (b := 66) (by decide) (zl_at (hZ.at (i := 67) rfl)) (zl_at (hZ.at (i := 66) rfl)) t1
  have hp3 : HP Z s t2 22 66 N2 V2 T2 M2 B2 := hp2.cp a2 (fun c hc => a3 c (by omega)) (fun q hq => by rw [c3 q hq, b2 67 (by decide)])
  have ck : CK σ1 τ1 s t2 := by
    have e := (c2 65 (by decide)).trans (b2 65 (by decide))
    exact ⟨fun c hc => a3 c (by unfold pcl at hc; omega), fun c hc => by rw [c2 c (by omega), b2 c (by unfold pml at hc; omega)], ⟨by rw [e], by rw [e], by rw [e]⟩, fun q hq => by rw [c2 68 (by decide)]; exact b3 q hq⟩
  have s17 : s 13 17 = Int32.ofNat M2 := by rw [a3 13 (by omega)]; exact hp2.2.1.2.2.2.1
  have t17 : t2 66 2 = Int32.ofNat M2 := (hp3.2.2.1 0 17 (by unfold dom; omega)).symm.trans hp3.2.1.2.2.2.1
  have es : (9999 : Int32) - Int32.ofNat M2 = Int32.ofNat (9999 - M2) := subk (a := 9999) hm2.1
  rw [i1, i2, if10, if10, a1, b1, mCall_some, mCall_some, c1, mCall_some, s17, t17, es, minK (by omega) (by omega), within_min (by omega) (by omega), mCall_some, show (2 : Int32) * Int32.ofNat (min k (9999 - M2)) = Int32.ofNat (2 * min k (9999 - M2)) from mulk 2 _]
  generalize hq : min k (9999 - M2) = q
  obtain ⟨r, s2, t3, d1, d2, ck2, fr2⟩ := check_L hZ (n := n) (w := q) (by omega) (by omega) ek mFuel 0 M2 B2 s t2 ck hp3 (by omega) (by omega) (by omega) (by omega) (by omega)
  exact ck2.fin fr2 hr1 fb1 fb2 d1 d2
end
