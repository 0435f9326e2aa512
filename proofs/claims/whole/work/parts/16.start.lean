/-! ===== the start ===== -/
theorem ar_prim {s : State} {args : Array Value} {ty : FieldType} (h : (Cond.arrayClass ty).before args s = true) (hp : ∀ C, ty ≠ .object C) : ∃ cA, ArrOfT s cA ty ∧ va_RA s cA ty := by
  obtain ⟨c, k, comp, h1, h2, h3⟩ := Cond.arrayClass_spec h
  refine ⟨c, fun n z => ⟨(fun k h => by cases h), k, h2, comp, h3⟩, ?_⟩
  cases ty with
  | object C => exact absurd rfl (hp C)
  | _ => exact h1
theorem ar_obj {s : State} {args : Array Value} {C : String} (h : (Cond.arrayOver (.object C)).before args s = true) : ∃ cA, ArrOfT s cA (.object C) ∧ va_RA s cA (.object C) := by
  obtain ⟨comp, c, k, h1, h2, h3, h4, h5⟩ := Cond.arrayOver_spec h
  exact ⟨c, fun n z => ⟨(fun k h => by cases h), k, h3, comp, h4⟩, k, comp, h3, h4, h1, h5⟩
theorem st_nw {s : State} {args : Array Value} (hts : ∀ w ∈ lw_tbl, w.before args s = true) : gNw s := by
  intro w hw
  have h1 := hts w (List.mem_filter.mp hw).1
  have h2 := (List.mem_filter.mp hw).2
  cases w <;> first | (simp [gNst] at h2; done) | exact va_Nw.of rfl h1 | (rename_i ty; cases ty <;> first | exact va_AO.of h1 | (simp [gNst] at h2; done))
set_option maxRecDepth 20000 in
set_option maxHeartbeats 4000000 in
theorem st_K {s : State} {args : Array Value} (hts : ∀ w ∈ lw_tbl, w.before args s = true) : ∃ (D : va_G) (cy : Nat → ClassId), va_K D vwCl (gTy cy) s := by
  have ht2 : ∀ w ∈ TB, w.before args s = true := fun w hw => hts w (List.mem_filter.mp hw).1
  obtain ⟨c0, iS0, hK0⟩ := u_known (C := RX0) (T := TX0) (N := 19) (n := 19) ht2 itX0 (ht2 _ inX0.1)
  obtain ⟨c1, iS1, hK1⟩ := u_known (C := RX2) (T := TX2) (N := 2) (n := 2) ht2 itX2 (ht2 _ inX2.1)
  obtain ⟨c2, iS2, hK2⟩ := u_known (C := RX3) (T := TX3) (N := 9) (n := 9) ht2 itX3 (ht2 _ inX3.1)
  obtain ⟨c3, iS3, hK3⟩ := u_known (C := RX4) (T := TX4) (N := 2) (n := 2) ht2 itX4 (ht2 _ inX4.1)
  obtain ⟨c4, iS4, hK4⟩ := u_known (C := RX5) (T := TX5) (N := 3) (n := 3) ht2 itX5 (ht2 _ inX5.1)
  obtain ⟨c5, iS5, hK5⟩ := u_known (C := RX6) (T := TX6) (N := 5) (n := 5) ht2 itX6 (ht2 _ inX6.1)
  obtain ⟨c6, iS6, hK6⟩ := u_known (C := RX7) (T := TX7) (N := 2) (n := 2) ht2 itX7 (ht2 _ inX7.1)
  obtain ⟨c7, iS7, hK7⟩ := u_known (C := RX8) (T := TX8) (N := 3) (n := 3) ht2 itX8 (ht2 _ inX8.1)
  obtain ⟨c8, iS8, hK8⟩ := u_known (C := RX9) (T := TX9) (N := 13) (n := 13) ht2 itX9 (ht2 _ inX9.1)
  obtain ⟨c9, iS9, hK9⟩ := u_known (C := RX10) (T := TX10) (N := 37) (n := 37) ht2 itX10 (ht2 _ inX10.1)
  obtain ⟨a0, hA0⟩ := ar_prim (ht2 _ kx_acint) (fun C => by intro h; cases h)
  obtain ⟨a1, hA1⟩ := ar_prim (ht2 _ kx_acchar) (fun C => by intro h; cases h)
  obtain ⟨a2, hA2⟩ := ar_prim (ht2 _ kx_acboolean) (fun C => by intro h; cases h)
  obtain ⟨a3, hA3⟩ := ar_obj (C := "CopiedFire$Sheet") (hts _ (List.mem_filter.mp kx_overSheet).1)
  obtain ⟨a4, hA4⟩ := ar_obj (C := "CopiedFire$Slot") (hts _ (List.mem_filter.mp kx_overSlot).1)
  obtain ⟨a5, hA5⟩ := ar_obj (C := "CopiedFire$Text") (hts _ (List.mem_filter.mp kx_overText).1)
  refine ⟨(fun k => if k = 0 then c0 else if k = 1 then c1 else if k = 2 then c2 else if k = 3 then c3 else if k = 4 then c4 else if k = 5 then c5 else if k = 6 then c6 else if k = 7 then c7 else if k = 8 then c8 else c9, fun k => if k = 0 then iS0 else if k = 1 then iS1 else if k = 2 then iS2 else if k = 3 then iS3 else if k = 4 then iS4 else if k = 5 then iS5 else if k = 6 then iS6 else if k = 7 then iS7 else if k = 8 then iS8 else iS9), fun k => if k = 0 then a0 else if k = 1 then a1 else if k = 2 then a2 else if k = 3 then a3 else if k = 4 then a4 else a5, ?_, ?_⟩
  · intro k q hq
    match k, hq with
    | 0, hq => cases hq; exact hK0
    | 1, hq => cases hq; exact hK1
    | 2, hq => cases hq; exact hK2
    | 3, hq => cases hq; exact hK3
    | 4, hq => cases hq; exact hK4
    | 5, hq => cases hq; exact hK5
    | 6, hq => cases hq; exact hK6
    | 7, hq => cases hq; exact hK7
    | 8, hq => cases hq; exact hK8
    | 9, hq => cases hq; exact hK9
    | k + 10, hq => simp [vwCl] at hq
  · intro k q hq
    match k, hq with
    | 0, hq => cases hq; exact hA0
    | 1, hq => cases hq; exact hA1
    | 2, hq => cases hq; exact hA2
    | 3, hq => cases hq; exact hA3
    | 4, hq => cases hq; exact hA4
    | 5, hq => cases hq; exact hA5
    | k + 6, hq => simp [gTy] at hq
set_option maxRecDepth 20000 in
set_option maxHeartbeats 4000000 in
theorem st_Y {s : State} {args : Array Value} {A : Nat → Prop} (hts : ∀ w ∈ lw_tbl, w.before args s = true) (hgv : (Jvm.Cond.and given_1 narrow_1).before args s = true) (hA : ∀ a : Nat, a < s.heap.size → ¬ A a) : ∃ ad, gY A ad s := by
  have hs := flat_of_before _ hgv
  obtain ⟨t, ht, hT⟩ := va_Tof (tm := .static "CopiedFire" "KIND_ABOVE" "[I") (ty := .int) (N := 6) (f := fun j => .int (kab j)) (A := A) (by decide) (hs (Cond.arrayOf (.static "CopiedFire" "KIND_ABOVE" "[I") .int) (by decide +kernel)) (va_eqt (hs (Cond.eq (.length (.static "CopiedFire" "KIND_ABOVE" "[I")) (.int 6)) (by decide +kernel))) (fun j hj => by
    rcases (show j = 0 ∨ j = 1 ∨ j = 2 ∨ j = 3 ∨ j = 4 ∨ j = 5 by omega) with rfl | rfl | rfl | rfl | rfl | rfl
    all_goals exact va_eqt (hs _ (by decide +kernel))) hA
  have hZ := va_Zref (A := A) (hts _ (tk2 (List.mem_of_getElem? (i := 118) (by decide +kernel)))) (hts _ (tk1 (List.mem_of_getElem? (i := 1) (by decide +kernel)))) ht hA
  have hC := va_Zof (A := A) (hts _ (tk3 (List.mem_of_getElem? (i := 167) (by decide +kernel)))) (hts _ (tk1 (List.mem_of_getElem? (i := 15) (by decide +kernel)))) (va_eqi (hs (Cond.eq (.static "java/lang/String" "COMPACT_STRINGS" "Z") (.int 1)) (by decide +kernel))) hA
  have hq := va_Zqof (A := A) (hts _ (tk3 (List.mem_of_getElem? (i := 183) (by decide +kernel)))) (hts _ (tk1 (List.mem_of_getElem? (i := 17) (by decide +kernel)))) (hs (Cond.isRef (.static "jdk/internal/util/Preconditions" "SIOOBE_FORMATTER" "Ljava/util/function/BiFunction;")) (by decide +kernel)) hA
  obtain ⟨adK, adV, hS, hE⟩ := vk_Sof (N := 6) (tm := fun i => .string "CopiedFire$Reader" (sIx.getD i 0)) (len := sLen) (byt := sByt) (A := A) (args := args) (s := s)
    (fun i hi => by rcases (show i = 0 ∨ i = 1 ∨ i = 2 ∨ i = 3 ∨ i = 4 ∨ i = 5 by omega) with rfl | rfl | rfl | rfl | rfl | rfl <;> decide)
    (fun i hi => by rcases (show i = 0 ∨ i = 1 ∨ i = 2 ∨ i = 3 ∨ i = 4 ∨ i = 5 by omega) with rfl | rfl | rfl | rfl | rfl | rfl <;> exact hs _ (by decide +kernel))
    (fun i hi => by rcases (show i = 0 ∨ i = 1 ∨ i = 2 ∨ i = 3 ∨ i = 4 ∨ i = 5 by omega) with rfl | rfl | rfl | rfl | rfl | rfl <;> exact hs _ (by decide +kernel))
    (fun i hi => by rcases (show i = 0 ∨ i = 1 ∨ i = 2 ∨ i = 3 ∨ i = 4 ∨ i = 5 by omega) with rfl | rfl | rfl | rfl | rfl | rfl <;> exact hs _ (by decide +kernel))
    (fun i hi => by rcases (show i = 0 ∨ i = 1 ∨ i = 2 ∨ i = 3 ∨ i = 4 ∨ i = 5 by omega) with rfl | rfl | rfl | rfl | rfl | rfl <;> exact hs _ (by decide +kernel))
    (fun i hi j hj => by
      rcases (show i = 0 ∨ i = 1 ∨ i = 2 ∨ i = 3 ∨ i = 4 ∨ i = 5 by omega) with rfl | rfl | rfl | rfl | rfl | rfl
      · have hj : j < 4 := hj
        rcases (show j = 0 ∨ j = 1 ∨ j = 2 ∨ j = 3 by omega) with rfl | rfl | rfl | rfl <;> exact hs _ (by decide +kernel)
      · have hj : j < 3 := hj
        rcases (show j = 0 ∨ j = 1 ∨ j = 2 by omega) with rfl | rfl | rfl <;> exact hs _ (by decide +kernel)
      · have hj : j < 4 := hj
        rcases (show j = 0 ∨ j = 1 ∨ j = 2 ∨ j = 3 by omega) with rfl | rfl | rfl | rfl <;> exact hs _ (by decide +kernel)
      · have hj : j < 3 := hj
        rcases (show j = 0 ∨ j = 1 ∨ j = 2 by omega) with rfl | rfl | rfl <;> exact hs _ (by decide +kernel)
      · have hj : j < 2 := hj
        rcases (show j = 0 ∨ j = 1 by omega) with rfl | rfl <;> exact hs _ (by decide +kernel)
      · have hj : j < 2 := hj
        rcases (show j = 0 ∨ j = 1 by omega) with rfl | rfl <;> exact hs _ (by decide +kernel))
    (fun i j hi hj hij => by
      rcases (show i = 0 ∨ i = 1 ∨ i = 2 ∨ i = 3 ∨ i = 4 ∨ i = 5 by omega) with rfl | rfl | rfl | rfl | rfl | rfl <;> rcases (show j = 0 ∨ j = 1 ∨ j = 2 ∨ j = 3 ∨ j = 4 ∨ j = 5 by omega) with rfl | rfl | rfl | rfl | rfl | rfl <;> first | (exact absurd rfl hij) | (exact Or.inl (hs _ (by decide +kernel))) | (exact Or.inr (hs _ (by decide +kernel)))) hA
  refine ⟨fun k => if k = 300000 then t else if k < 200000 then adK (k - 100000) else adV (k - 200000), st_nw hts, hZ, hT, hC, hq, ?_, ?_⟩
  · have e1 : ∀ i, i < 6 → (if 100000 + i = 300000 then t else if 100000 + i < 200000 then adK (100000 + i - 100000) else adV (100000 + i - 200000)) = adK i := fun i hi => by rw [if_neg (by omega), if_pos (by omega), Nat.add_sub_cancel_left]
    have e2 : ∀ i, i < 6 → (if 200000 + i = 300000 then t else if 200000 + i < 200000 then adK (200000 + i - 100000) else adV (200000 + i - 200000)) = adV i := fun i hi => by rw [if_neg (by omega), if_neg (by omega), Nat.add_sub_cancel_left]
    refine ⟨fun i hi => ?_, fun i j hi hj h => ?_⟩
    · dsimp only; rw [e1 i hi, e2 i hi]; exact hS.1 i hi
    · dsimp only at h; rw [e1 i hi, e1 j hj] at h; exact hS.2 i j hi hj h
  · intro i hi
    have e1 : (if 100000 + i = 300000 then t else if 100000 + i < 200000 then adK (100000 + i - 100000) else adV (100000 + i - 200000)) = adK i := by rw [if_neg (by omega), if_pos (by omega), Nat.add_sub_cancel_left]
    dsimp only
    rw [e1]
    refine vk_R.of (A := args) ?_ (hE i hi)
    rcases (show i = 0 ∨ i = 1 ∨ i = 2 ∨ i = 3 ∨ i = 4 ∨ i = 5 by omega) with rfl | rfl | rfl | rfl | rfl | rfl
    · exact (hts _ (tk3 (List.mem_of_getElem? (i := 153) (by decide +kernel))))
    · exact (hts _ (tk3 (List.mem_of_getElem? (i := 206) (by decide +kernel))))
    · exact (hts _ (tk3 (List.mem_of_getElem? (i := 207) (by decide +kernel))))
    · exact (hts _ (tk3 (List.mem_of_getElem? (i := 224) (by decide +kernel))))
    · exact (hts _ (tk3 (List.mem_of_getElem? (i := 225) (by decide +kernel))))
    · exact (hts _ (tk3 (List.mem_of_getElem? (i := 226) (by decide +kernel))))
theorem whole_of {Inv : Nat → gS → List gH → Prop} (hInv : ∀ n σ Z, Inv n σ Z → Lay Z ∧ gcl Z Z.length ∧ Z.length + 2 < 100000) (hstep : ∀ n o a b c d e σ Z, Inv (n + 1) σ Z → ∃ r σ2 Z2, F_step o a b c d e Z σ = some (r, r, σ2, Z2) ∧ Inv n σ2 Z2) (h0 : ∀ σ, Inv 512 (S_start σ) Zs182)
    {p : Program} {e : Env} {s : State} {m : MethodId} {below : List Frame} {meth : Method} {c : Code} (l : Launch) {b L : Nat} {xs : Nat → Int32} (hL : L ≤ 3072) (C0 : lw_At p s m meth c b L xs) : W p l e room_1 s m #[Value.ref b] below meth c s.heap [] 0 0 (lw_Z below #[Value.ref b] s) (entryFrame m ([Value.ref b] : List Value).toArray 4) := by
  obtain ⟨hx, hb, hr, hml, hown, hts, hX, hbl, hlocks, hgv⟩ := id C0
  obtain ⟨D, cy, hK⟩ := st_K hts
  obtain ⟨ad, hY⟩ := st_Y (A := fun q : Nat => s.heap.size ≤ q) hts hgv (fun a ha q => absurd ha (Nat.not_lt.mpr q))
  have hP : va_P D vwCl (gW cy Zs0 ad (fun _ _ => 0)) s.heap := fun k q h => by simp [Zs0, gW] at h
  have hD : va_D (fun q : Nat => s.heap.size ≤ q) (gW cy Zs0 ad (fun _ _ => 0)) := ⟨fun i j p q h => by simp [Zs0, gW] at h, fun k q h => by simp [Zs0, gW] at h⟩
  have hl := lv_entry ([.ref b]) (n := 4) (Nat.le_of_ble_eq_true rfl)
  rw [lg_entry_eq]
  have hTT : ∀ (j pc : Nat) (i : Instr) (n : Nat), T_L[j]? = some (pc, i, n) → decode c.code pc = .ok (i, n) := by
    rw [hb]; exact gTb_ok T_L_ok
  exact law_start (b := b) (L := L) (xs := xs) hL hInv hstep h0 (g := gJ p l e room_1 s m #[Value.ref b] below meth c (lw_Z below #[Value.ref b] s) (fun q : Nat => s.heap.size ≤ q) 4 D cy Zs0 ad 0 0) (σ := fun _ _ => 0) ⟨p, l, e, s, m, #[Value.ref b], below, meth, c, fun q : Nat => s.heap.size ≤ q, D, cy, _, hx, hTT, hr, hml, hown, fun w hw => hts w (List.mem_filter.mp hw).1, hlocks, hK, fun q h => h, hY, ⟨rfl, rfl, hX, hbl, fun q h => h, hb⟩, Nat.zero_le _, Nat.zero_le _, rfl⟩ _ _ _ hP hD va_S.rf hl
