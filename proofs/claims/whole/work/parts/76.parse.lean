section
variable {Z : List gH}
theorem TOK.cf {s t s2 : gS} {n : Nat} {b : Nat → Nat} {st nx : Nat} (h : TOK s t n b st nx) (cf : CF s s2) : TOK s2 t n b st nx := by
  obtain ⟨⟨a1, a2, a3, a4⟩, t6, t7, u11, u12, nxn, tkn⟩ := h
  have e5 := cf.2 5 (by decide) (by decide)
  refine ⟨⟨a1, by rw [cf.1 34 (by decide) (by decide)]; exact a2, a3, by rw [cf.1 35 (by decide) (by decide)]; exact a4⟩, by rw [cf.2 6 (by decide) (by decide)]; exact t6, by rw [cf.2 7 (by decide) (by decide)]; exact t7, u11, u12, nxn, ?_⟩
  unfold TKN at tkn ⊢
  rw [e5]; exact tkn
theorem PS.add {σ τ s t : gS} {n : Nat} {b : Nat → Nat} {key st nx : Nat} {cs out stk : List Int32} (h : PS σ τ s t n b key st nx cs out stk) (x : Int32) (hl : cs.length + 4 ≤ st) : ∃ s2, F_X3_addStep Z (ce x) s = some (0, s2) ∧ PS σ τ s2 t n b key st nx (cs ++ [x]) out stk ∧ s2 36 5 = s 36 5 := by
  have hs := h.st96
  obtain ⟨tk, c1, ms, e3, k1, k2, e8, b1, b2, fr, fm⟩ := h
  obtain ⟨s1, a1, a2, a3, a4⟩ := c1.add (Z := Z) x (by omega)
  exact ⟨s1, a1, ⟨tk.cf a3, a2, ms, by rw [a4]; exact e3, by rw [a3.2 4 (by decide) (by decide)]; exact k1, k2, by rw [a3.2 8 (by decide) (by decide)]; exact e8, b1, by simp; omega, fun c p q => (a3.1 c p q).trans (fr c p q), fm⟩, a3.2 5 (by decide) (by decide)⟩
/-- both say no, at the same place -/
def FAIL (σ τ : gS) (R M : Option (Int32 × gS)) : Prop := ∃ s' t' q, q ≤ 96 ∧ R = some (0, s') ∧ SPD σ s' q ∧ M = some (0, t') ∧ t' 65 12 = Int32.ofNat q ∧ FRM τ t'
/-- what may not stand next, behind a level -/
def NSL (s t : gS) (level pa : Nat) : Prop := ∀ c, SGN s t c → lvc c ≤ 4 → lvc c < level ∨ (lvc c = 2 ∧ level ≤ 2 ∧ ¬ t 78 pa = 0)
def LOK (Z : List gH) (σ τ : gS) (n : Nat) (b : Nat → Nat) (key level pa no : Nat) (R M : Option (Int32 × gS)) (t : gS) (st : Nat) (cs B : List Int32) : Prop := ∃ s' t' f' st' nx' w pend out, R = some (0, s') ∧ M = F_X10_takesE_L28 Z f' (Int32.ofNat pa) (Int32.ofNat no) 0 t' ∧ 97 - st' < f' ∧ st < st' ∧ PS σ τ s' t' n b key st' nx' (cs ++ w) out (pend ++ B) ∧ out ++ pend = cs ++ w ∧ EX (nmn key) w ∧ (∀ x, x ∈ pend → x ≠ -11 ∧ level + 1 ≤ rk x ∧ x ≠ -10) ∧ NSL s' t' level pa ∧ (t' 78 pa = 0 ∨ t' 78 pa = 1) ∧ (3 ≤ level → t' 78 pa = t 78 pa) ∧ ∀ j, j < pa → t' 78 j = t 78 j
def POK (Z : List gH) (σ τ : gS) (n : Nat) (b : Nat → Nat) (key pa k : Nat) (R M : Option (Int32 × gS)) (t : gS) (st : Nat) (cs B : List Int32) : Prop := ∃ s' t' f' st' nx' w, R = some (0, s') ∧ M = F_X10_takesE_L28 Z f' (Int32.ofNat pa) (Int32.ofNat (cb B)) 0 t' ∧ 97 - st' < f' ∧ st < st' ∧ PS σ τ s' t' n b key st' nx' (cs ++ w) ((cs ++ w) ++ List.replicate k (-10)) B ∧ EX (nmn key) w ∧ ∀ j, j ≤ pa → t' 78 j = t 78 j
/-- what a level owes -/
def LV (Z : List gH) (σ τ : gS) (n : Nat) (b : Nat → Nat) (key level pa no : Nat) (rL : gS → Option (Int32 × gS)) : Prop := ∀ (s t : gS) (f st nx : Nat) (cs B : List Int32), PS σ τ s t n b key st nx cs cs B → TOP (level + 1) B → cb B = no → 97 - st < f → (t 78 pa = 0 ∨ t 78 pa = 1) → (level ≤ 2 → t 78 pa = 0) → FAIL σ τ (rL s) (F_X10_takesE_L28 Z f (Int32.ofNat pa) (Int32.ofNat no) 1 t) ∨ LOK Z σ τ n b key level pa no (rL s) (F_X10_takesE_L28 Z f (Int32.ofNat pa) (Int32.ofNat no) 1 t) t st cs B
theorem cb_pend {pend B : List Int32} (h : ∀ x, x ∈ pend → x ≠ -10) : cb (pend ++ B) = cb B := by
  induction pend with
  | nil => rfl
  | cons x l ih =>
    have e : cb (x :: l ++ B) = (if x = -10 then 1 else 0) + cb (l ++ B) := rfl
    rw [e, if_neg (h x (List.mem_cons_self ..)), ih (fun y hy => h y (List.mem_cons_of_mem _ hy))]
    omega
theorem loop_L {σ τ : gS} {n : Nat} {b : Nat → Nat} {key level pa no : Nat} {rL : Int32 → Int32 → Int32 → gS → Option (Int32 × gS)} {rP : Int32 → Int32 → gS → Option (Int32 × gS)} (hl : level < 5) (hpa : pa ≤ 8) (hL : LV Z σ τ n b key (level + 1) pa no (rL (Int32.ofNat (level + 1)) (Int32.ofNat pa) (Int32.ofNat no))) {B cs0 : List Int32} (hB : TOP (level + 1) B) (hno : cb B = no) (t0 : gS) (st0 : Nat) : ∀ (m i : Nat) (s t : gS) (f st nx : Nat) (w pend out : List Int32), PS σ τ s t n b key st nx (cs0 ++ w) out (pend ++ B) → out ++ pend = cs0 ++ w → EX (nmn key) w → (∀ x, x ∈ pend → x ≠ -11 ∧ level + 1 ≤ rk x ∧ x ≠ -10) → NSL s t (level + 1) pa → (t 78 pa = 0 ∨ t 78 pa = 1) → (3 ≤ level → t 78 pa = t0 78 pa) → (level = 2 → i = 0 → t 78 pa = 0) → (level = 2 → 1 ≤ i → ¬ t 78 pa = 0) → (∀ j, j < pa → t 78 j = t0 78 j) → st0 < st → 97 - st < f → i + 3 ≤ st → 98 - st < m → FAIL σ τ (F_X3_readLevel_L37 Z rL rP (Int32.ofNat level) (Int32.ofNat pa) (Int32.ofNat no) m (if level = 2 then 1 else 96) (Int32.ofNat i) s) (F_X10_takesE_L28 Z f (Int32.ofNat pa) (Int32.ofNat no) 0 t) ∨ LOK Z σ τ n b key level pa no (F_X3_readLevel_L37 Z rL rP (Int32.ofNat level) (Int32.ofNat pa) (Int32.ofNat no) m (if level = 2 then 1 else 96) (Int32.ofNat i) s) (F_X10_takesE_L28 Z f (Int32.ofNat pa) (Int32.ofNat no) 0 t) t0 st0 cs0 B := by
  intro m
  induction m with
  | zero => intros; omega
  | succ m ih =>
    intro i s t f st nx w pend out ps e ex hx ns fl f3 f20 f21 fj h0 hf hi hm
    have hs := ps.st96
    have el : Int32.ofNat level + 1 = Int32.ofNat (level + 1) := addk level 1
    have ei : Int32.ofNat i + 1 = Int32.ofNat (i + 1) := addk i 1
    -- the level ends here
    have done : NSL s t level pa → F_X3_readLevel_L37 Z rL rP (Int32.ofNat level) (Int32.ofNat pa) (Int32.ofNat no) (m + 1) (if level = 2 then 1 else 96) (Int32.ofNat i) s = some (0, s) → LOK Z σ τ n b key level pa no (F_X3_readLevel_L37 Z rL rP (Int32.ofNat level) (Int32.ofNat pa) (Int32.ofNat no) (m + 1) (if level = 2 then 1 else 96) (Int32.ofNat i) s) (F_X10_takesE_L28 Z f (Int32.ofNat pa) (Int32.ofNat no) 0 t) t0 st0 cs0 B := fun h1 h2 => ⟨s, t, f, st, nx, w, pend, out, h2, rfl, hf, h0, ps, e, ex, hx, h1, fl, f3, fj⟩
    by_cases stop : level = 2 ∧ 1 ≤ i
    · refine Or.inr (done (fun c sg hc => ?_) ?_)
      · rcases ns c sg hc with q | ⟨q1, q2, -⟩
        · by_cases q2 : lvc c = 2
          · exact Or.inr ⟨q2, by omega, f21 stop.1 stop.2⟩
          · exact Or.inl (by omega)
        · omega
      · have c1 : (1 : Int32) ≤ Int32.ofNat i := (lek (a := 1) (by decide) (by omega)).mpr stop.2
        rw [F_X3_readLevel_L37, if_pos stop.1, if_pos c1]
    have n4 : ¬ (if level = 2 then (1 : Int32) else 96) ≤ Int32.ofNat i := by
      by_cases q : level = 2
      · rw [if_pos q]
        exact fun h => stop ⟨q, (lek (a := 1) (by decide) (by omega)).mp h⟩
      · rw [if_neg q]
        exact fun h => by have := (lek (a := 96) (by decide) (by omega)).mp h; omega
    -- is there a sign of the level?
    by_cases hsg : ∃ c, SGN s t c ∧ lvc c = level
    rotate_left
    · have no_sign : F_X3_isSignOf Z (Int32.ofNat level) s = some (0, s) := by
        rcases ps.1.cases with ⟨c, sg⟩ | ⟨-, q⟩
        · rw [sign_at sg.1 (by omega) sg.2.1, if_neg (fun q => hsg ⟨c, sg, q⟩)]
        · exact sign_no (by omega) (by rcases q with q | q | q | q <;> simp [q])
      refine Or.inr (done (fun c sg hc => ?_) ?_)
      · rcases ns c sg hc with q | ⟨q1, q2, q3⟩
        · left
          have : lvc c ≠ level := fun h => hsg ⟨c, sg, h⟩
          omega
        · exact Or.inr ⟨q1, by omega, q3⟩
      · rw [F_X3_readLevel_L37, if_neg n4, no_sign, mCall_some, if00]
    obtain ⟨c, sg, hc⟩ := hsg
    obtain ⟨f, rfl⟩ : ∃ g, f = g + 1 := ⟨f - 1, by omega⟩
    have l20 : level = 2 → t 78 pa = 0 := fun h => f20 h (by
      rcases Nat.lt_or_ge 0 i with l | l
      · exact absurd ⟨h, l⟩ stop
      · omega)
    rcases sg_all c (by have := sg.1; omega) with ⟨-, r1, r2, r3, r4, r5, r6, r7, -⟩ | ⟨r1, -⟩
    rotate_left
    · omega
    obtain ⟨s2, t2, st2, nx2, a1, a2, a3, a4, a5, a6⟩ := bin_step (Z := Z) (f := f) (no := Int32.ofNat no) ps e sg hc (by omega) (fun x h => ⟨(hx x h).1, (hx x h).2.1⟩) hB hpa fl l20
    have sgn : F_X3_isSignOf Z (Int32.ofNat level) s = some (1, s) := by rw [sign_at sg.1 (by omega) sg.2.1, if_pos hc]
    have fl2 : t2 78 pa = 0 ∨ t2 78 pa = 1 := by
      rw [a5]
      split
      · exact Or.inr rfl
      · split
        · exact Or.inl rfl
        · exact fl
    have cb2 : cb (sgc c :: B) = no := by
      show (if sgc c = -10 then 1 else 0) + cb B = no
      rw [if_neg r4]; omega
    have step := hL s2 t2 f st2 nx2 (cs0 ++ w) (sgc c :: B) a4 (Or.inr ⟨sgc c, B, rfl, Or.inr (by omega)⟩) cb2 (by omega) fl2 (fun h => by rw [a5, if_neg (by omega), if_pos (by omega)])
    have unf : ∀ s7, rL (Int32.ofNat (level + 1)) (Int32.ofNat pa) (Int32.ofNat no) s2 = some (0, s7) → F_X3_readLevel_L37 Z rL rP (Int32.ofNat level) (Int32.ofNat pa) (Int32.ofNat no) (m + 1) (if level = 2 then 1 else 96) (Int32.ofNat i) s = mCall (F_X3_addStep Z (ce (sgc c)) s7) (fun r8 s9 => F_X3_readLevel_L37 Z rL rP (Int32.ofNat level) (Int32.ofNat pa) (Int32.ofNat no) m (if level = 2 then 1 else 96) (Int32.ofNat (i + 1)) s9) := fun s7 h7 => by
      rw [F_X3_readLevel_L37, if_neg n4, sgn, mCall_some, if10, mLet_eq, sg.2.1, a1, mCall_some, el, h7, mCall_some, r5, ei]
    rw [a2]
    rcases step with ⟨s', t', q, q1, q2, q3, q4, q5, q6⟩ | ⟨s', t', f', st', nx', w', pend', out', q1, q2, q3, q4, q5, q6, q7, q8, q9, q10, q11, q12⟩
    · left
      obtain ⟨s9, d1, d2⟩ := q3.add (Z := Z) (ce (sgc c))
      refine ⟨s9, t', q, q1, ?_, d2, q4, q5, q6⟩
      rw [unf s' q2, d1, mCall_some]
      obtain ⟨m, rfl⟩ : ∃ g, m = g + 1 := ⟨m - 1, by omega⟩
      rw [F_X3_readLevel_L37, sign_no (by omega) (Or.inr (Or.inr (Or.inr (Or.inr d2.1)))), mCall_some, if00, ite_self]
    · have hs' := q5.st96
      have bb := q5.2.2.2.2.2.2.2.1
      have lenw : out'.length + pend'.length = (cs0 ++ w ++ w').length := by rw [← List.length_append, q6]
      obtain ⟨s9, d1, d2, d3⟩ := q5.add (Z := Z) (sgc c) (by simp at bb lenw ⊢; omega)
      rw [unf s' q1, d1, mCall_some, q2]
      have ea : cs0 ++ w ++ w' ++ [sgc c] = cs0 ++ (w ++ (w' ++ [sgc c])) := by simp
      have ep : pend' ++ sgc c :: B = (pend' ++ [sgc c]) ++ B := by simp
      rw [ea, ep] at d2
      refine ih (i + 1) s9 t' f' st' nx' (w ++ (w' ++ [sgc c])) (pend' ++ [sgc c]) out' d2 ?_ (EX.bin ex q7 r6 r7) ?_ ?_ q10 ?_ ?_ ?_ ?_ (by omega) q3 (by omega) (by omega)
      · rw [← List.append_assoc, q6, ea]
      · intro x hx'
        rcases List.mem_append.mp hx' with h | h
        · have := q8 x h; exact ⟨this.1, by omega, this.2.2⟩
        · rw [List.mem_singleton.mp h]; exact ⟨r3, by omega, r4⟩
      · intro c' sg' hc'
        exact q9 c' ⟨sg'.1, by rw [← d3]; exact sg'.2.1, sg'.2.2⟩ hc'
      · intro h3
        rw [q11 (by omega), a5, if_neg (by omega), if_neg (by omega)]; exact f3 h3
      · intro _ h; omega
      · intro h2 _
        rw [q11 (by omega), a5, if_pos h2]; decide
      · intro j hj
        rw [q12 j hj, a6 j (by omega)]; exact fj j hj
end
