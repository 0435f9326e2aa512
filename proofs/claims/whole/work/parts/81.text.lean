/-! ===== text(): a text made on both sides ===== -/
section
variable {Z : List gH}
theorem TT.lay {Z2 : List gH} {σ τ σ2 τ2 : gS} {c a t key : Nat} (h : TT Z σ τ c a t key) (hz : zl Z2 (c + 1) = zl Z (c + 1)) (h1 : σ2 c = σ c) (h2 : σ2 (c + 1) = σ (c + 1)) (h3 : τ2 a (136 + 2 * t) = τ a (136 + 2 * t)) (h4 : τ2 a (137 + 2 * t) = τ a (137 + 2 * t)) (h5 : ∀ k, k < 96 → τ2 a (164 + 96 * t + k) = τ a (164 + 96 * t + k)) : TT Z2 σ2 τ2 c a t key := by
  obtain ⟨q1, q2, q3, q4, q5, q6, q7⟩ := h
  refine ⟨q1, by rw [h1]; exact q2, by rw [h3, hz]; exact q3, by rw [hz]; exact q4, by rw [h1, h4]; exact q5, fun k hk => ?_, ?_⟩
  · rw [hz] at hk
    rw [h2, h5 k (by omega)]; exact q6 k hk
  · rw [hz]
    exact q7.cg (fun k hk => h5 k (by omega))
theorem HP.lay {Z2 : List gH} {σ τ σ2 τ2 : gS} {h a N V T M B : Nat} (hp : HP Z σ τ h a N V T M B) (h1 : ∀ j, j ≤ 8 → σ2 (h + j) = σ (h + j)) (h2 : τ2 a = τ a) (h3 : ∀ t, t < T → ∀ c, zr Z t = some c → zr Z2 t = some c ∧ zl Z2 (c + 1) = zl Z (c + 1) ∧ σ2 c = σ c ∧ σ2 (c + 1) = σ (c + 1)) : HP Z2 σ2 τ2 h a N V T M B := by
  obtain ⟨p1, p2, p3, p4, p5, p6, ⟨ks, k1, k2⟩⟩ := hp
  have e0 : σ2 h = σ h := h1 0 (by omega)
  refine ⟨p1, by rw [e0]; exact p2, p3.fr (fun j hj => h1 j (by omega)) h2, ?_, ?_, ?_, ks, fun t ht => ?_, by rw [h1 8 (by omega)]; exact k2⟩
  · intro i hi; rw [h1 1 (by omega), h1 2 (by omega), h1 3 (by omega), h1 4 (by omega)]; exact p4 i hi
  · intro i hi; rw [h1 5 (by omega)]; exact p5 i hi
  · intro i hi; rw [h1 6 (by omega)]; exact p6 i hi
  · obtain ⟨c, c1, c2, c3⟩ := k1 t ht
    obtain ⟨z1, z2, z3, z4⟩ := h3 t ht c c2
    exact ⟨c, c1, z1, c3.lay z2 z3 z4 (by rw [h2]) (by rw [h2]) (fun k _ => by rw [h2])⟩
theorem ix96 (t k : Nat) : (164 + (96 * Int32.ofNat t)) + Int32.ofNat k = Int32.ofNat (164 + 96 * t + k) := by
  show (Int32.ofNat 164 + Int32.ofNat 96 * Int32.ofNat t) + Int32.ofNat k = _
  rw [mulk, addk, addk]
/-- the model keeps a text's steps -/
theorem keep_L {cs : List Int32} {T : Nat} (hT : T < 14) (hl : cs.length ≤ 95) (u : gS) (e20 : u 65 20 = Int32.ofNat cs.length) (r76 : REL cs (u 76)) (e9 : u 66 9 = Int32.ofNat T) : ∀ (f i : Nat) (t : gS), (∀ c, c ≠ 66 → t c = u c) → (∀ k, k < i → t 66 (164 + 96 * T + k) = cs.getD k 0) → (∀ j, j < 164 + 96 * T ∨ 164 + 96 * T + i ≤ j → t 66 j = u 66 j) → i ≤ cs.length → cs.length - i < f → ∃ t2, F_X10_text_L119 Z f (Int32.ofNat T) (Int32.ofNat i) t = some (Int32.ofNat T, t2) ∧ (∀ c, c ≠ 66 → t2 c = u c) ∧ (∀ k, k < cs.length → t2 66 (164 + 96 * T + k) = cs.getD k 0) ∧ t2 66 9 = Int32.ofNat (T + 1) ∧ ∀ j, j ≠ 9 → (j < 164 + 96 * T ∨ 164 + 96 * T + cs.length ≤ j) → t2 66 j = u 66 j := by
  intro f
  induction f with
  | zero => intro i t h1 h2 h3 h4 h5; omega
  | succ f ih =>
    intro i t h1 h2 h3 h4 h5
    have ei : Int32.ofNat i + 1 = Int32.ofNat (i + 1) := addk i 1
    have eT : Int32.ofNat T + 1 = Int32.ofNat (T + 1) := addk T 1
    rw [F_X10_text_L119, h1 65 (by decide), e20]
    by_cases hd : cs.length ≤ i
    · rw [if_pos ((lek (by omega) (by omega)).mpr hd), mLet_eq, h3 9 (by omega), e9, eT]
      refine ⟨_, rfl, fun c hc => by rw [gu_ne _ _ _ hc]; exact h1 c hc, fun k hk => ?_, gu_self _ _ _ _, fun j hj hj2 => ?_⟩
      · rw [gu_off _ _ (Or.inr (by omega))]; exact h2 k (by omega)
      · rw [gu_off _ _ (Or.inr hj)]; exact h3 j (by omega)
    · rw [if_neg (fun q => hd ((lek (by omega) (by omega)).mp q)), mInk (k := i) (by omega) (by decide), ix96, mInk (k := 164 + 96 * T + i) (by omega) (by decide), nnk (k := i) (by omega), nnk (k := 164 + 96 * T + i) (by omega), mLet_eq, ei, h1 76 (by decide), r76 i (by omega)]
      refine ih (i + 1) _ (fun c hc => by rw [gu_ne _ _ _ hc]; exact h1 c hc) (fun k hk => ?_) (fun j hj => ?_) (by omega) (by omega)
      · by_cases e : k = i
        · subst e; rw [gu_self]
        · rw [gu_off _ _ (Or.inr (by omega))]; exact h2 k (by omega)
      · rw [gu_off _ _ (Or.inr (by omega))]; exact h3 j (by omega)
theorem zl_p {Z : List gH} {m t c x : Nat} (hx : x < Z.length) (hx2 : x ≠ 2) : zl (ZP (ZT Z m) t c) x = zl Z x := by
  have e : (ZP (ZT Z m) t c)[x]? = Z[x]? := by
    unfold ZP
    rw [List.getElem?_set_ne (Ne.symm hx2)]
    unfold ZT
    rw [List.getElem?_append_left (by simp; omega), List.getElem?_append_left hx]
  unfold zl
  rw [e]
/-- nothing came of it: the tape is gone, no more -/
theorem text_same {σ σ2 : gS} (hr : RR Z σ σ) (h1 : ∀ c, c ≠ 34 → c ≠ 36 → c ≠ 37 → c ≠ 65 → c ≠ 76 → c ≠ 77 → c ≠ 78 → σ2 c = σ c) (h34 : σ2 34 1 = 0) (h65 : ∀ k, k < 10 ∨ 23 < k → σ2 65 k = σ 65 k) (h10 : σ2 65 10 = 0) : RR Z σ2 σ2 := by
  obtain ⟨-, a, b, c, d, e⟩ := id hr
  exact hr.other (fun c hc => h1 c (by omega) (by omega) (by omega) (by omega) (by omega) (by omega) (by omega)) (by rw [h1 0 (by decide) (by decide) (by decide) (by decide) (by decide) (by decide) (by decide)]) (h1 66 (by decide) (by decide) (by decide) (by decide) (by decide) (by decide) (by decide)) (h1 67 (by decide) (by decide) (by decide) (by decide) (by decide) (by decide) (by decide)) (h65 3 (by omega)) (a.fr (fun c p q => h1 c (by omega) (by omega) (by omega) (by omega) (by omega) (by omega) (by omega)) (fun c p q => h1 c (by omega) (by omega) (by omega) (by omega) (by omega) (by omega) (by omega))) (b.fr (fun c p q => h1 c (by omega) (by omega) (by omega) (by omega) (by omega) (by omega) (by omega)) (fun c p q => h1 c (by omega) (by omega) (by omega) (by omega) (by omega) (by omega) (by omega))) ⟨0, by omega, h34, h10, fun k hk => by omega⟩ (d.fr (by rw [h1 0 (by decide) (by decide) (by decide) (by decide) (by decide) (by decide) (by decide)]) (h1 64 (by decide) (by decide) (by decide) (by decide) (by decide) (by decide) (by decide)) (h65 36 (by omega)) (h1 89 (by decide) (by decide) (by decide) (by decide) (by decide) (by decide) (by decide))) (e.fr (h1 74 (by decide) (by decide) (by decide) (by decide) (by decide) (by decide) (by decide)) (h1 75 (by decide) (by decide) (by decide) (by decide) (by decide) (by decide) (by decide)))
theorem J33_0 {t : gS} {q : Nat} (e : t 65 12 = Int32.ofNat q) : F_X10_text_J33 Z 0 t = some (-100 - Int32.ofNat q, gu t 65 10 0) := by
  unfold F_X10_text_J33
  rw [mLet_eq, if00, gu_off _ _ (Or.inr (by decide)), e]
/-- the new text, in the house that is now -/
theorem text_new {σ σ2 : gS} {N V T M B key m : Nat} {cs : List Int32} {op : Int32} (hZ : Lay Z) (hr : RR Z σ σ) (hp : HP Z σ σ 4 66 N V T M B) (hm : M ≤ 9999 ∧ B ≤ 1188 * M) (him : IMR Z σ σ T) (hT : T < 14) (hk : key ≤ 2) (hcs : cs.length = m) (hml : m ≤ 95) (ex : EX (nmn key) cs)
    (h1 : ∀ c, c < Z.length → c ≠ 4 → c ≠ 12 → c ≠ 34 → c ≠ 36 → c ≠ 37 → c ≠ 65 → c ≠ 66 → c ≠ 76 → c ≠ 77 → c ≠ 78 → σ2 c = σ c) (h4 : ∀ k, k ≠ 11 → σ2 4 k = σ 4 k) (h411 : σ2 4 11 = Int32.ofNat (T + 1)) (h12 : ∀ k, k ≠ key → σ2 12 k = σ 12 k) (h12k : σ2 12 key = Int32.ofNat T) (h34 : σ2 34 1 = 0) (h65 : ∀ k, k < 10 ∨ 23 < k → σ2 65 k = σ 65 k) (h10 : σ2 65 10 = 0)
    (g9 : σ2 66 9 = Int32.ofNat (T + 1)) (gk : σ2 66 (136 + 2 * T) = Int32.ofNat (1000 * key + m)) (go : σ2 66 (137 + 2 * T) = op) (gs : ∀ k, k < m → σ2 66 (164 + 96 * T + k) = cs.getD k 0) (gx : ∀ j, j ≠ 9 → j ≠ 136 + 2 * T → j ≠ 137 + 2 * T → (j < 164 + 96 * T ∨ 164 + 96 * T + m ≤ j) → σ2 66 j = σ 66 j)
    (c0 : σ2 Z.length 0 = Int32.ofNat key) (c1 : σ2 Z.length 1 = op) (cst : ∀ k, k < m → σ2 (Z.length + 1) k = ce (cs.getD k 0)) : RR (ZP (ZT Z m) T Z.length) σ2 σ2 := by
  have hlen : 89 < Z.length := lt_of_at (hZ.at (i := 89) rfl)
  obtain ⟨l1, l2, l3⟩ := lay_made hZ m
  obtain ⟨l4, l5⟩ := lay_put l1 (t := T) l2
  rw [l3] at l5
  obtain ⟨-, a, b, -, d, e⟩ := id hr
  have f : ∀ c, c < 90 → c ≠ 4 → c ≠ 12 → c ≠ 34 → c ≠ 36 → c ≠ 37 → c ≠ 65 → c ≠ 66 → c ≠ 76 → c ≠ 77 → c ≠ 78 → σ2 c = σ c := fun c hc => h1 c (by omega)
  have zold : ∀ t, t ≠ T → ∀ c, zr Z t = some c → zr (ZP (ZT Z m) T Z.length) t = some c := fun t ht c hc => by
    rw [l5]; unfold va_up; rw [if_neg ht]; exact hc
  have znew : zr (ZP (ZT Z m) T Z.length) T = some Z.length := by rw [l5]; unfold va_up; rw [if_pos rfl]
  have tcell : ∀ t c, zr Z t = some c → c < Z.length ∧ c + 1 < Z.length := fun t c hc => by
    have := hZ.2.2 t c hc
    exact ⟨lt_of_at this.1, lt_of_at this.2⟩
  have told : ∀ t c, 90 ≤ c → zr Z t = some c → zl (ZP (ZT Z m) T Z.length) (c + 1) = zl Z (c + 1) ∧ σ2 c = σ c ∧ σ2 (c + 1) = σ (c + 1) := fun t c h90 hc => by
    obtain ⟨q1, q2⟩ := tcell t c hc
    exact ⟨zl_p q2 (by omega), h1 c q1 (by omega) (by omega) (by omega) (by omega) (by omega) (by omega) (by omega) (by omega) (by omega) (by omega), h1 _ q2 (by omega) (by omega) (by omega) (by omega) (by omega) (by omega) (by omega) (by omega) (by omega) (by omega)⟩
  have zlm : zl (ZP (ZT Z m) T Z.length) (Z.length + 1) = m := by
    have e : (ZP (ZT Z m) T Z.length)[Z.length + 1]? = some (.inr (0, m, none)) := by
      unfold ZP
      rw [List.getElem?_set_ne (by omega)]
      have e1 : (Z ++ [.inl (7, tsh Z.length)] : List gH).length = Z.length + 1 := by simp
      unfold ZT
      rw [← e1]
      exact app_last
    exact zl_at e
  obtain ⟨p1, p2, p3, p4, p5, p6, ⟨ks, k1, k2⟩⟩ := id hp
  have hpn : HP (ZP (ZT Z m) T Z.length) σ2 σ2 4 66 N V (T + 1) M B := by
    refine ⟨⟨p1.1, p1.2.1, by omega, p1.2.2.2⟩, ?_, ?_, ?_, ?_, ?_, fun t => if t = T then key else ks t, fun t ht => ?_, fun kk hkk => ?_⟩
    · rw [h4 9 (by decide), h4 10 (by decide), h411, h4 17 (by decide), h4 14 (by decide), h4 13 (by decide)]
      exact ⟨p2.1, p2.2.1, rfl, p2.2.2.2⟩
    · intro j i hd
      have d12 := hd.mono p1.1
      have hlt := mp_lt d12
      by_cases e11 : j = 0 ∧ i = 11
      · obtain ⟨rfl, rfl⟩ := e11
        show σ2 4 11 = σ2 66 9
        rw [h411, g9]
      · have ne9 : mp j i ≠ 9 := fun q => e11 (mp_inj d12 (show dom 12 0 11 by unfold dom; omega) q)
        rw [gx _ ne9 (by omega) (by omega) (by omega), ← p3 j i hd]
        by_cases j0 : j = 0
        · subst j0
          show σ2 4 i = σ 4 i
          exact h4 i (by omega)
        · rw [f (4 + j) (by unfold dom at hd; omega) (by omega) (by unfold dom at hd; omega) (by unfold dom at hd; omega) (by unfold dom at hd; omega) (by unfold dom at hd; omega) (by unfold dom at hd; omega) (by unfold dom at hd; omega) (by unfold dom at hd; omega) (by unfold dom at hd; omega) (by unfold dom at hd; omega)]
    · intro i hi
      rw [f (4 + 1) (by decide) (by decide) (by decide) (by decide) (by decide) (by decide) (by decide) (by decide) (by decide) (by decide) (by decide), f (4 + 2) (by decide) (by decide) (by decide) (by decide) (by decide) (by decide) (by decide) (by decide) (by decide) (by decide) (by decide), f (4 + 3) (by decide) (by decide) (by decide) (by decide) (by decide) (by decide) (by decide) (by decide) (by decide) (by decide) (by decide), f (4 + 4) (by decide) (by decide) (by decide) (by decide) (by decide) (by decide) (by decide) (by decide) (by decide) (by decide) (by decide)]
      exact p4 i hi
    · intro i hi
      rw [f (4 + 5) (by decide) (by decide) (by decide) (by decide) (by decide) (by decide) (by decide) (by decide) (by decide) (by decide) (by decide)]
      exact p5 i hi
    · intro i hi
      rw [f (4 + 6) (by decide) (by decide) (by decide) (by decide) (by decide) (by decide) (by decide) (by decide) (by decide) (by decide) (by decide)]
      exact p6 i hi
    · by_cases et : t = T
      · subst et
        refine ⟨Z.length, by omega, znew, ?_⟩
        have ki : (if t = t then key else ks t) = key := if_pos rfl
        show TT _ σ2 σ2 Z.length 66 t (if t = t then key else ks t)
        rw [ki]
        refine ⟨hk, c0, by rw [zlm]; exact gk, by rw [zlm]; exact hml, by rw [c1, go], fun k hkk => ?_, ?_⟩
        · rw [zlm] at hkk
          rw [cst k hkk, gs k hkk]
        · rw [zlm, ← hcs]
          exact ex.wf (fun k hkk => gs k (by omega))
      · obtain ⟨c, q1, q2, q3⟩ := k1 t (by omega)
        obtain ⟨z1, z2, z3⟩ := told t c q1 q2
        have ki : (if t = T then key else ks t) = ks t := if_neg et
        refine ⟨c, q1, zold t et c q2, ?_⟩
        show TT _ σ2 σ2 c 66 t (if t = T then key else ks t)
        rw [ki]
        exact q3.lay z1 z2 z3 (gx _ (by omega) (by omega) (by omega) (by omega)) (gx _ (by omega) (by omega) (by omega) (by omega)) (fun k hkk => gx _ (by omega) (by omega) (by omega) (by omega))
    · show (σ2 12 kk = -1 ∧ _) ∨ _
      by_cases ek : kk = key
      · subst ek
        right
        exact ⟨T, by omega, h12k, if_pos rfl, fun u q1 q2 => by omega⟩
      · rcases k2 kk hkk with ⟨q1, q2⟩ | ⟨t, q1, q2, q3, q4⟩
        · left
          refine ⟨by rw [h12 kk ek]; exact q1, fun t ht => ?_⟩
          show (if t = T then key else ks t) ≠ kk
          by_cases et : t = T
          · rw [if_pos et]; exact fun q => ek q.symm
          · rw [if_neg et]; exact q2 t (by omega)
        · right
          refine ⟨t, by omega, by rw [show σ2 (4 + 8) kk = σ 12 kk from h12 kk ek]; exact q2, by show (if t = T then key else ks t) = kk; rw [if_neg (by omega)]; exact q3, fun u hu1 hu2 => ?_⟩
          show (if u = T then key else ks u) ≠ kk
          by_cases et : u = T
          · rw [if_pos et]; exact fun q => ek q.symm
          · rw [if_neg et]; exact q4 u hu1 (by omega)
  have him2 : IMR (ZP (ZT Z m) T Z.length) σ2 σ2 (T + 1) := by
    have e0 := f 0 (by decide) (by decide) (by decide) (by decide) (by decide) (by decide) (by decide) (by decide) (by decide) (by decide) (by decide)
    rcases him with ⟨i1, i2⟩ | ⟨i1, i2, N2, V2, T2, M2, B2, hp2, hm2, ht⟩
    · exact Or.inl ⟨by rw [e0]; exact i1, by rw [h65 3 (by omega)]; exact i2⟩
    · refine Or.inr ⟨by rw [e0]; exact i1, by rw [h65 3 (by omega)]; exact i2, N2, V2, T2, M2, B2, hp2.lay (fun j hj => f (13 + j) (by omega) (by omega) (by omega) (by omega) (by omega) (by omega) (by omega) (by omega) (by omega) (by omega) (by omega)) (f 67 (by decide) (by decide) (by decide) (by decide) (by decide) (by decide) (by decide) (by decide) (by decide) (by decide) (by decide)) (fun t ht2 c hc => ?_), hm2, by omega⟩
      obtain ⟨ks2, kk1, -⟩ := hp2.2.2.2.2.2.2
      obtain ⟨c', q1, q2, -⟩ := kk1 t ht2
      have ec : c' = c := Option.some.inj (q2.symm.trans hc)
      subst ec
      obtain ⟨z1, z2, z3⟩ := told t c' q1 q2
      exact ⟨zold t (by omega) c' q2, z1, z2, z3⟩
  refine ⟨⟨N, V, T + 1, M, B, hpn, hm, him2⟩, a.fr (fun c q1 q2 => f c (by omega) (by omega) (by omega) (by omega) (by omega) (by omega) (by omega) (by omega) (by omega) (by omega) (by omega)) (fun c q1 q2 => f c (by omega) (by omega) (by omega) (by omega) (by omega) (by omega) (by omega) (by omega) (by omega) (by omega) (by omega)), b.fr (fun c q1 q2 => f c (by omega) (by omega) (by omega) (by omega) (by omega) (by omega) (by omega) (by omega) (by omega) (by omega) (by omega)) (fun c q1 q2 => f c (by omega) (by omega) (by omega) (by omega) (by omega) (by omega) (by omega) (by omega) (by omega) (by omega) (by omega)), ⟨0, by omega, h34, h10, fun k hk => by omega⟩, d.fr (by rw [f 0 (by decide) (by decide) (by decide) (by decide) (by decide) (by decide) (by decide) (by decide) (by decide) (by decide) (by decide)]) (f 64 (by decide) (by decide) (by decide) (by decide) (by decide) (by decide) (by decide) (by decide) (by decide) (by decide) (by decide)) (h65 36 (by omega)) (f 89 (by decide) (by decide) (by decide) (by decide) (by decide) (by decide) (by decide) (by decide) (by decide) (by decide) (by decide)), e.fr (f 74 (by decide) (by decide) (by decide) (by decide) (by decide) (by decide) (by decide) (by decide) (by decide) (by decide) (by decide)) (f 75 (by decide) (by decide) (by decide) (by decide) (by decide) (by decide) (by decide) (by decide) (by decide) (by decide) (by decide))⟩
end
