def T_X0_addThing : List (Nat × Instr × Nat) := [(0, .aload_n 0, 1), (1, .getfield 15, 3), (4, .aload_n 0, 1), (5, .getfield 62, 3), (8, .iload_n 1, 1), (9, .iastore, 1), (10, .aload_n 0, 1), (11, .getfield 19, 3), (14, .aload_n 0, 1), (15, .getfield 62, 3), (18, .iload_n 2, 1), (19, .iastore, 1), (20, .aload_n 0, 1), (21, .getfield 22, 3), (24, .aload_n 0, 1), (25, .getfield 62, 3), (28, .iload_n 3, 1), (29, .iastore, 1), (30, .aload_n 0, 1), (31, .getfield 25, 3), (34, .aload_n 0, 1), (35, .getfield 62, 3), (38, .iload 4, 2), (40, .iastore, 1), (41, .aload_n 0, 1), (42, .dup, 1), (43, .getfield 62, 3), (46, .iconst 1, 1), (47, .iadd, 1), (48, .putfield 62, 3), (51, .aload_n 0, 1), (52, .getfield 62, 3), (55, .iconst 1, 1), (56, .isub, 1), (57, .ireturn, 1)]
theorem T_X0_addThing_ok : gTb cX0_addThing T_X0_addThing = true := by decide +kernel
def F_X0_addThing (Z : List gH) (l0 : Nat) (l1 : Int32) (l2 : Int32) (l3 : Int32) (l4 : Int32) (σ : gS) : Option (Int32 × gS) := mIn 12 (σ l0 9) (mLet (gu σ (l0 + 1) (nn (σ l0 9)) l1) (fun s1 => mIn 12 (s1 l0 9) (mLet (gu s1 (l0 + 2) (nn (s1 l0 9)) l2) (fun s2 => mIn 12 (s2 l0 9) (mLet (gu s2 (l0 + 3) (nn (s2 l0 9)) l3) (fun s3 => mIn 12 (s3 l0 9) (mLet (gu s3 (l0 + 4) (nn (s3 l0 9)) l4) (fun s4 => mLet (gu s4 l0 9 ((s4 l0 9) + 1)) (fun s5 => some (((s5 l0 9) - 1), s5))))))))))
set_option maxRecDepth 20000 in
set_option maxHeartbeats 4000000 in
theorem M_X0_addThing {Z : List gH} (hZ : Lay Z) (l0 : Nat) (hl0 : HB l0) (l1 : Int32) (l2 : Int32) (l3 : Int32) (l4 : Int32) : gMet yX0_addThing cX0_addThing 5 (some .int) 1 Z (fun ad => [.ref (ad l0), .int l1, .int l2, .int l3, .int l4]) (F_X0_addThing Z l0 l1 l2 l3 l4) := by
  refine gMet_intro T_X0_addThing T_X0_addThing_ok rfl (fun _ => Nat.le_of_ble_eq_true rfl) (fun g ad σ z C h => ?_)
  show g 0 [(0, .ref (ad l0)), (1, .int l1), (2, .int l2), (3, .int l3), (4, .int l4)] [] σ
  rw [F_X0_addThing] at h
  refine g_aload_n C 0 0 rfl rfl ?_
  refine g_getr (b := (l0 + 1)) C 1 rfl flX0_15 (hb_obj hZ hl0) rfl ?_
  refine g_aload_n C 2 0 rfl rfl ?_
  refine g_geti C 3 rfl flX0_62 (hb_obj hZ hl0) rfl ?_
  refine g_iload_n C 4 1 rfl rfl ?_
  refine g_iast C 5 rfl (hb_kinds hZ hl0) h (fun s1 h => ?_)
  refine g_aload_n C 6 0 rfl rfl ?_
  refine g_getr (b := (l0 + 2)) C 7 rfl flX0_19 (hb_obj hZ hl0) rfl ?_
  refine g_aload_n C 8 0 rfl rfl ?_
  refine g_geti C 9 rfl flX0_62 (hb_obj hZ hl0) rfl ?_
  refine g_iload_n C 10 2 rfl rfl ?_
  refine g_iast C 11 rfl (hb_rooms hZ hl0) h (fun s2 h => ?_)
  refine g_aload_n C 12 0 rfl rfl ?_
  refine g_getr (b := (l0 + 3)) C 13 rfl flX0_22 (hb_obj hZ hl0) rfl ?_
  refine g_aload_n C 14 0 rfl rfl ?_
  refine g_geti C 15 rfl flX0_62 (hb_obj hZ hl0) rfl ?_
  refine g_iload_n C 16 3 rfl rfl ?_
  refine g_iast C 17 rfl (hb_fuels hZ hl0) h (fun s3 h => ?_)
  refine g_aload_n C 18 0 rfl rfl ?_
  refine g_getr (b := (l0 + 4)) C 19 rfl flX0_25 (hb_obj hZ hl0) rfl ?_
  refine g_aload_n C 20 0 rfl rfl ?_
  refine g_geti C 21 rfl flX0_62 (hb_obj hZ hl0) rfl ?_
  refine g_iload C 22 4 rfl rfl ?_
  refine g_iast C 23 rfl (hb_lits hZ hl0) h (fun s4 h => ?_)
  refine g_aload_n C 24 0 rfl rfl ?_
  refine g_dup C 25 rfl rfl ?_
  refine g_geti C 26 rfl flX0_62 (hb_obj hZ hl0) rfl ?_
  refine g_iconst (v := 1) C 27 rfl rfl ?_
  refine g_iadd C 28 rfl ?_
  refine g_put C 29 rfl fpX0_62 (hb_obj hZ hl0) rfl rfl rfl h (fun s5 h => ?_)
  refine g_aload_n C 30 0 rfl rfl ?_
  refine g_geti C 31 rfl flX0_62 (hb_obj hZ hl0) rfl ?_
  refine g_iconst (v := 1) C 32 rfl rfl ?_
  refine g_isub C 33 rfl ?_
  exact g_ireturn C 34 rfl h
def T_X0_burnsOf : List (Nat × Instr × Nat) := [(0, .aload_n 0, 1), (1, .getfield 37, 3), (4, .iconst 0, 1), (5, .iaload, 1), (6, .istore_n 2, 1), (7, .iconst 5, 1), (8, .istore_n 3, 1), (9, .iload_n 2, 1), (10, .ifCond .lt 38, 3), (13, .aload_n 0, 1), (14, .getfield 9, 3), (17, .iload_n 2, 1), (18, .aload_n 0, 1), (19, .getfield 22, 3), (22, .iload_n 1, 1), (23, .iaload, 1), (24, .aload_n 0, 1), (25, .getfield 28, 3), (28, .aload_n 0, 1), (29, .getfield 19, 3), (32, .iload_n 1, 1), (33, .iaload, 1), (34, .iaload, 1), (35, .aload_n 0, 1), (36, .getfield 80, 3), (39, .invokevirtual 95, 3), (42, .bipush 99, 2), (44, .invokestatic 100, 3), (47, .istore_n 3, 1), (48, .aload_n 0, 1), (49, .getfield 15, 3), (52, .iload_n 1, 1), (53, .iaload, 1), (54, .iload_n 3, 1), (55, .invokestatic 103, 3), (58, .ireturn, 1)]
theorem T_X0_burnsOf_ok : gTb cX0_burnsOf T_X0_burnsOf = true := by decide +kernel
def F_X0_burnsOf (Z : List gH) (l0 : Nat) (l1 : Int32) (σ : gS) : Option (Int32 × gS) := mLet ((σ (l0 + 8) 0)) (fun v1 => if v1 < 0 then mIn 12 l1 (mCall (F_X1_burns Z (σ (l0 + 1) (nn l1)) 5 σ) (fun r2 s3 => some (r2, s3))) else mIn 12 l1 (mIn 12 l1 (mIn 8 (σ (l0 + 2) (nn l1)) (mCall (F_X2_work Z v1 (σ (l0 + 3) (nn l1)) (σ (l0 + 5) (nn (σ (l0 + 2) (nn l1)))) (σ l0 17) σ) (fun r4 s5 => mCall (F_X9_held Z r4 99 s5) (fun r6 s7 => mIn 12 l1 (mCall (F_X1_burns Z (s7 (l0 + 1) (nn l1)) r6 s7) (fun r8 s9 => some (r8, s9)))))))))
set_option maxRecDepth 20000 in
set_option maxHeartbeats 4000000 in
theorem M_X0_burnsOf {Z : List gH} (hZ : Lay Z) (l0 : Nat) (hl0 : HB l0) (l1 : Int32) : gMet yX0_burnsOf cX0_burnsOf 4 (some .int) 4 Z (fun ad => [.ref (ad l0), .int l1]) (F_X0_burnsOf Z l0 l1) := by
  refine gMet_intro T_X0_burnsOf T_X0_burnsOf_ok rfl (fun _ => Nat.le_of_ble_eq_true rfl) (fun g ad σ z C h => ?_)
  show g 0 [(0, .ref (ad l0)), (1, .int l1)] [] σ
  rw [F_X0_burnsOf] at h
  refine g_aload_n C 0 0 rfl rfl ?_
  refine g_getr (b := (l0 + 8)) C 1 rfl flX0_37 (hb_obj hZ hl0) rfl ?_
  refine g_iconst (v := 0) C 2 rfl rfl ?_
  refine g_ialdK C 3 0 rfl (hb_counting hZ hl0) rfl (vp_k rfl) ?_
  refine g_let h (fun v1 h => ?_)
  refine g_istore_n C 4 [(2, .int v1), (0, .ref (ad l0)), (1, .int l1)] rfl (by decide) rfl ?_
  refine g_iconst (v := 5) C 5 rfl rfl ?_
  refine g_istore_n C 6 [(3, .int 5), (2, .int v1), (0, .ref (ad l0)), (1, .int l1)] rfl (by decide) rfl ?_
  refine g_iload_n C 7 1 rfl rfl ?_
  refine g_if_lt C 8 48 rfl rfl h (fun h => ?_) (fun h => ?_)
  · refine g_aload_n C 29 2 rfl rfl ?_
    refine g_getr (b := (l0 + 1)) C 30 rfl flX0_15 (hb_obj hZ hl0) rfl ?_
    refine g_iload_n C 31 3 rfl rfl ?_
    refine g_iald C 32 rfl (hb_kinds hZ hl0) h (fun h => ?_)
    refine g_iload_n C 33 0 rfl rfl ?_
    refine g_callSi C 34 [.int (σ (l0 + 1) (nn l1)), .int 5] [] rfl (M_X1_burns hZ (σ (l0 + 1) (nn l1)) 5) cnX0_103 cwX1_burns csX1_burns rfl rfl rfl (Nat.le_of_ble_eq_true rfl) ⟨Nat.le_of_ble_eq_true rfl, Nat.le_of_ble_eq_true rfl⟩ h (fun r2 s3 h => ?_)
    exact g_ireturn C 35 rfl h
  · refine g_aload_n C 9 2 rfl rfl ?_
    refine g_getr (b := 1) C 10 rfl flX0_9 (hb_obj hZ hl0) rfl ?_
    refine g_iload_n C 11 1 rfl rfl ?_
    refine g_aload_n C 12 2 rfl rfl ?_
    refine g_getr (b := (l0 + 3)) C 13 rfl flX0_22 (hb_obj hZ hl0) rfl ?_
    refine g_iload_n C 14 3 rfl rfl ?_
    refine g_iald C 15 rfl (hb_fuels hZ hl0) h (fun h => ?_)
    refine g_aload_n C 16 2 rfl rfl ?_
    refine g_getr (b := (l0 + 5)) C 17 rfl flX0_28 (hb_obj hZ hl0) rfl ?_
    refine g_aload_n C 18 2 rfl rfl ?_
    refine g_getr (b := (l0 + 2)) C 19 rfl flX0_19 (hb_obj hZ hl0) rfl ?_
    refine g_iload_n C 20 3 rfl rfl ?_
    refine g_iald C 21 rfl (hb_rooms hZ hl0) h (fun h => ?_)
    refine g_iald C 22 rfl (hb_heats hZ hl0) h (fun h => ?_)
    refine g_aload_n C 23 2 rfl rfl ?_
    refine g_geti C 24 rfl flX0_80 (hb_obj hZ hl0) rfl ?_
    refine g_callVi C 25 [.int v1, .int (σ (l0 + 3) (nn l1)), .int (σ (l0 + 5) (nn (σ (l0 + 2) (nn l1)))), .int (σ l0 17)] [] rfl (M_X2_work hZ v1 (σ (l0 + 3) (nn l1)) (σ (l0 + 5) (nn (σ (l0 + 2) (nn l1)))) (σ l0 17)) cnX0_95 cwX2_work ciX2_work (hZ.at (i := 1) rfl) rfl rfl rfl rfl (Nat.le_of_ble_eq_true rfl) ⟨Nat.le_of_ble_eq_true rfl, Nat.le_of_ble_eq_true rfl⟩ h (fun r4 s5 h => ?_)
    refine g_bipush (v := 99) C 26 rfl rfl ?_
    refine g_callSi C 27 [.int r4, .int 99] [] rfl (M_X9_held hZ r4 99) cnX0_100 cwX9_held csX9_held rfl rfl rfl (Nat.le_of_ble_eq_true rfl) ⟨Nat.le_of_ble_eq_true rfl, Nat.le_of_ble_eq_true rfl⟩ h (fun r6 s7 h => ?_)
    refine g_istore_n C 28 [(3, .int r6), (2, .int v1), (0, .ref (ad l0)), (1, .int l1)] rfl (by decide) rfl ?_
    refine g_aload_n C 29 2 rfl rfl ?_
    refine g_getr (b := (l0 + 1)) C 30 rfl flX0_15 (hb_obj hZ hl0) rfl ?_
    refine g_iload_n C 31 3 rfl rfl ?_
    refine g_iald C 32 rfl (hb_kinds hZ hl0) h (fun h => ?_)
    refine g_iload_n C 33 0 rfl rfl ?_
    refine g_callSi C 34 [.int (s7 (l0 + 1) (nn l1)), .int r6] [] rfl (M_X1_burns hZ (s7 (l0 + 1) (nn l1)) r6) cnX0_103 cwX1_burns csX1_burns rfl rfl rfl (Nat.le_of_ble_eq_true rfl) ⟨Nat.le_of_ble_eq_true rfl, Nat.le_of_ble_eq_true rfl⟩ h (fun r8 s9 h => ?_)
    exact g_ireturn C 35 rfl h
def T_X0_draw : List (Nat × Instr × Nat) := [(0, .aload_n 0, 1), (1, .aload_n 0, 1), (2, .getfield 53, 3), (5, .ldc 145, 2), (7, .imul, 1), (8, .sipush 12345, 3), (11, .iadd, 1), (12, .putfield 53, 3), (15, .aload_n 0, 1), (16, .getfield 53, 3), (19, .bipush 8, 2), (21, .iushr, 1), (22, .ireturn, 1)]
theorem T_X0_draw_ok : gTb cX0_draw T_X0_draw = true := by decide +kernel
def F_X0_draw (Z : List gH) (l0 : Nat) (σ : gS) : Option (Int32 × gS) := mLet (gu σ l0 18 (((σ l0 18) * 1103515245) + 12345)) (fun s1 => some ((mUsr (s1 l0 18) 8), s1))
set_option maxRecDepth 20000 in
set_option maxHeartbeats 4000000 in
theorem M_X0_draw {Z : List gH} (hZ : Lay Z) (l0 : Nat) (hl0 : HB l0) : gMet yX0_draw cX0_draw 1 (some .int) 1 Z (fun ad => [.ref (ad l0)]) (F_X0_draw Z l0) := by
  refine gMet_intro T_X0_draw T_X0_draw_ok rfl (fun _ => Nat.le_of_ble_eq_true rfl) (fun g ad σ z C h => ?_)
  show g 0 [(0, .ref (ad l0))] [] σ
  rw [F_X0_draw] at h
  refine g_aload_n C 0 0 rfl rfl ?_
  refine g_aload_n C 1 0 rfl rfl ?_
  refine g_geti C 2 rfl flX0_53 (hb_obj hZ hl0) rfl ?_
  refine g_ldc C 3 rfl kcX0_145 ?_
  refine g_imul C 4 rfl ?_
  refine g_sipush (v := 12345) C 5 rfl rfl ?_
  refine g_iadd C 6 rfl ?_
  refine g_put C 7 rfl fpX0_53 (hb_obj hZ hl0) rfl rfl rfl h (fun s1 h => ?_)
  refine g_aload_n C 8 0 rfl rfl ?_
  refine g_geti C 9 rfl flX0_53 (hb_obj hZ hl0) rfl ?_
  refine g_bipush (v := 8) C 10 rfl rfl ?_
  refine g_iushr C 11 rfl ?_
  exact g_ireturn C 12 rfl h
def T_X0_drawThing : List (Nat × Instr × Nat) := [(0, .aload_n 0, 1), (1, .invokevirtual 83, 3), (4, .bipush 6, 2), (6, .irem, 1), (7, .istore_n 1, 1), (8, .aload_n 0, 1), (9, .invokevirtual 83, 3), (12, .bipush 8, 2), (14, .irem, 1), (15, .istore_n 2, 1), (16, .aload_n 0, 1), (17, .invokevirtual 83, 3), (20, .bipush 60, 2), (22, .irem, 1), (23, .istore_n 3, 1), (24, .aload_n 0, 1), (25, .invokevirtual 83, 3), (28, .iconst 4, 1), (29, .irem, 1), (30, .ifCond .ne 7, 3), (33, .iconst 1, 1), (34, .goto 4, 3), (37, .iconst 0, 1), (38, .istore 4, 2), (40, .aload_n 0, 1), (41, .iload_n 1, 1), (42, .iload_n 2, 1), (43, .iload_n 3, 1), (44, .iload 4, 2), (46, .invokevirtual 87, 3), (49, .pop, 1), (50, .return_, 1)]
theorem T_X0_drawThing_ok : gTb cX0_drawThing T_X0_drawThing = true := by decide +kernel
def F_X0_drawThing (Z : List gH) (l0 : Nat) (σ : gS) : Option (Int32 × gS) := mCall (F_X0_draw Z l0 σ) (fun r1 s2 => mLet ((mRem r1 6)) (fun v3 => mCall (F_X0_draw Z l0 s2) (fun r4 s5 => mLet ((mRem r4 8)) (fun v6 => mCall (F_X0_draw Z l0 s5) (fun r7 s8 => mLet ((mRem r7 60)) (fun v9 => mCall (F_X0_draw Z l0 s8) (fun r10 s11 => if (mRem r10 4) = 0 then mCall (F_X0_addThing Z l0 v3 v6 v9 1 s11) (fun r14 s15 => some (0, s15)) else mCall (F_X0_addThing Z l0 v3 v6 v9 0 s11) (fun r12 s13 => some (0, s13)))))))))
set_option maxRecDepth 20000 in
set_option maxHeartbeats 4000000 in
theorem M_X0_drawThing {Z : List gH} (hZ : Lay Z) (l0 : Nat) (hl0 : HB l0) : gMet yX0_drawThing cX0_drawThing 5 none 2 Z (fun ad => [.ref (ad l0)]) (F_X0_drawThing Z l0) := by
  refine gMet_intro T_X0_drawThing T_X0_drawThing_ok rfl (fun _ => Nat.le_of_ble_eq_true rfl) (fun g ad σ z C h => ?_)
  show g 0 [(0, .ref (ad l0))] [] σ
  rw [F_X0_drawThing] at h
  refine g_aload_n C 0 0 rfl rfl ?_
  refine g_callVi C 1 [] [] rfl (M_X0_draw hZ l0 hl0) cnX0_83 cwX0_draw ciX0_draw (hb_obj hZ hl0) rfl rfl rfl rfl (Nat.le_of_ble_eq_true rfl) ⟨Nat.le_of_ble_eq_true rfl, Nat.le_of_ble_eq_true rfl⟩ h (fun r1 s2 h => ?_)
  refine g_bipush (v := 6) C 2 rfl rfl ?_
  refine g_iremK C 3 rfl (by decide) ?_
  refine g_let h (fun v3 h => ?_)
  refine g_istore_n C 4 [(1, .int v3), (0, .ref (ad l0))] rfl (by decide) rfl ?_
  refine g_aload_n C 5 1 rfl rfl ?_
  refine g_callVi C 6 [] [] rfl (M_X0_draw hZ l0 hl0) cnX0_83 cwX0_draw ciX0_draw (hb_obj hZ hl0) rfl rfl rfl rfl (Nat.le_of_ble_eq_true rfl) ⟨Nat.le_of_ble_eq_true rfl, Nat.le_of_ble_eq_true rfl⟩ h (fun r4 s5 h => ?_)
  refine g_bipush (v := 8) C 7 rfl rfl ?_
  refine g_iremK C 8 rfl (by decide) ?_
  refine g_let h (fun v6 h => ?_)
  refine g_istore_n C 9 [(2, .int v6), (1, .int v3), (0, .ref (ad l0))] rfl (by decide) rfl ?_
  refine g_aload_n C 10 2 rfl rfl ?_
  refine g_callVi C 11 [] [] rfl (M_X0_draw hZ l0 hl0) cnX0_83 cwX0_draw ciX0_draw (hb_obj hZ hl0) rfl rfl rfl rfl (Nat.le_of_ble_eq_true rfl) ⟨Nat.le_of_ble_eq_true rfl, Nat.le_of_ble_eq_true rfl⟩ h (fun r7 s8 h => ?_)
  refine g_bipush (v := 60) C 12 rfl rfl ?_
  refine g_iremK C 13 rfl (by decide) ?_
  refine g_let h (fun v9 h => ?_)
  refine g_istore_n C 14 [(3, .int v9), (2, .int v6), (1, .int v3), (0, .ref (ad l0))] rfl (by decide) rfl ?_
  refine g_aload_n C 15 3 rfl rfl ?_
  refine g_callVi C 16 [] [] rfl (M_X0_draw hZ l0 hl0) cnX0_83 cwX0_draw ciX0_draw (hb_obj hZ hl0) rfl rfl rfl rfl (Nat.le_of_ble_eq_true rfl) ⟨Nat.le_of_ble_eq_true rfl, Nat.le_of_ble_eq_true rfl⟩ h (fun r10 s11 h => ?_)
  refine g_iconst (v := 4) C 17 rfl rfl ?_
  refine g_iremK C 18 rfl (by decide) ?_
  refine g_if_ne C 19 37 rfl rfl h (fun h => ?_) (fun h => ?_)
  · refine g_iconst (v := 0) C 22 rfl rfl ?_
    refine g_istore C 23 [(4, .int 0), (3, .int v9), (2, .int v6), (1, .int v3), (0, .ref (ad l0))] rfl (by decide) rfl ?_
    refine g_aload_n C 24 4 rfl rfl ?_
    refine g_iload_n C 25 3 rfl rfl ?_
    refine g_iload_n C 26 2 rfl rfl ?_
    refine g_iload_n C 27 1 rfl rfl ?_
    refine g_iload C 28 0 rfl rfl ?_
    refine g_callVi C 29 [.int v3, .int v6, .int v9, .int 0] [] rfl (M_X0_addThing hZ l0 hl0 v3 v6 v9 0) cnX0_87 cwX0_addThing ciX0_addThing (hb_obj hZ hl0) rfl rfl rfl rfl (Nat.le_of_ble_eq_true rfl) ⟨Nat.le_of_ble_eq_true rfl, Nat.le_of_ble_eq_true rfl⟩ h (fun r12 s13 h => ?_)
    refine g_pop C 30 rfl rfl ?_
    exact g_return C 31 rfl h
  · refine g_iconst (v := 1) C 20 rfl rfl ?_
    refine g_goto C 21 38 rfl rfl ?_
    refine g_istore C 23 [(4, .int 1), (3, .int v9), (2, .int v6), (1, .int v3), (0, .ref (ad l0))] rfl (by decide) rfl ?_
    refine g_aload_n C 24 4 rfl rfl ?_
    refine g_iload_n C 25 3 rfl rfl ?_
    refine g_iload_n C 26 2 rfl rfl ?_
    refine g_iload_n C 27 1 rfl rfl ?_
    refine g_iload C 28 0 rfl rfl ?_
    refine g_callVi C 29 [.int v3, .int v6, .int v9, .int 1] [] rfl (M_X0_addThing hZ l0 hl0 v3 v6 v9 1) cnX0_87 cwX0_addThing ciX0_addThing (hb_obj hZ hl0) rfl rfl rfl rfl (Nat.le_of_ble_eq_true rfl) ⟨Nat.le_of_ble_eq_true rfl, Nat.le_of_ble_eq_true rfl⟩ h (fun r14 s15 h => ?_)
    refine g_pop C 30 rfl rfl ?_
    exact g_return C 31 rfl h
def T_X0_doorBetween : List (Nat × Instr × Nat) := [(0, .aload_n 0, 1), (1, .getfield 31, 3), (4, .iload_n 1, 1), (5, .bipush 8, 2), (7, .imul, 1), (8, .iload_n 2, 1), (9, .iadd, 1), (10, .iaload, 1), (11, .ireturn, 1)]
theorem T_X0_doorBetween_ok : gTb cX0_doorBetween T_X0_doorBetween = true := by decide +kernel
def F_X0_doorBetween (Z : List gH) (l0 : Nat) (l1 : Int32) (l2 : Int32) (σ : gS) : Option (Int32 × gS) := mIn 64 ((l1 * 8) + l2) (some ((σ (l0 + 6) (nn ((l1 * 8) + l2))), σ))
set_option maxRecDepth 20000 in
set_option maxHeartbeats 4000000 in
theorem M_X0_doorBetween {Z : List gH} (hZ : Lay Z) (l0 : Nat) (hl0 : HB l0) (l1 : Int32) (l2 : Int32) : gMet yX0_doorBetween cX0_doorBetween 3 (some .int) 1 Z (fun ad => [.ref (ad l0), .int l1, .int l2]) (F_X0_doorBetween Z l0 l1 l2) := by
  refine gMet_intro T_X0_doorBetween T_X0_doorBetween_ok rfl (fun _ => Nat.le_of_ble_eq_true rfl) (fun g ad σ z C h => ?_)
  show g 0 [(0, .ref (ad l0)), (1, .int l1), (2, .int l2)] [] σ
  rw [F_X0_doorBetween] at h
  refine g_aload_n C 0 0 rfl rfl ?_
  refine g_getr (b := (l0 + 6)) C 1 rfl flX0_31 (hb_obj hZ hl0) rfl ?_
  refine g_iload_n C 2 1 rfl rfl ?_
  refine g_bipush (v := 8) C 3 rfl rfl ?_
  refine g_imul C 4 rfl ?_
  refine g_iload_n C 5 2 rfl rfl ?_
  refine g_iadd C 6 rfl ?_
  refine g_iald C 7 rfl (hb_doors hZ hl0) h (fun h => ?_)
  exact g_ireturn C 8 rfl h
def T_X0_putDoor : List (Nat × Instr × Nat) := [(0, .aload_n 0, 1), (1, .getfield 31, 3), (4, .iload_n 1, 1), (5, .bipush 8, 2), (7, .imul, 1), (8, .iload_n 2, 1), (9, .iadd, 1), (10, .iload_n 3, 1), (11, .iastore, 1), (12, .aload_n 0, 1), (13, .getfield 31, 3), (16, .iload_n 2, 1), (17, .bipush 8, 2), (19, .imul, 1), (20, .iload_n 1, 1), (21, .iadd, 1), (22, .iload_n 3, 1), (23, .iastore, 1), (24, .return_, 1)]
theorem T_X0_putDoor_ok : gTb cX0_putDoor T_X0_putDoor = true := by decide +kernel
def F_X0_putDoor (Z : List gH) (l0 : Nat) (l1 : Int32) (l2 : Int32) (l3 : Int32) (σ : gS) : Option (Int32 × gS) := mIn 64 ((l1 * 8) + l2) (mLet (gu σ (l0 + 6) (nn ((l1 * 8) + l2)) l3) (fun s1 => mIn 64 ((l2 * 8) + l1) (mLet (gu s1 (l0 + 6) (nn ((l2 * 8) + l1)) l3) (fun s2 => some (0, s2)))))
set_option maxRecDepth 20000 in
set_option maxHeartbeats 4000000 in
theorem M_X0_putDoor {Z : List gH} (hZ : Lay Z) (l0 : Nat) (hl0 : HB l0) (l1 : Int32) (l2 : Int32) (l3 : Int32) : gMet yX0_putDoor cX0_putDoor 4 none 1 Z (fun ad => [.ref (ad l0), .int l1, .int l2, .int l3]) (F_X0_putDoor Z l0 l1 l2 l3) := by
  refine gMet_intro T_X0_putDoor T_X0_putDoor_ok rfl (fun _ => Nat.le_of_ble_eq_true rfl) (fun g ad σ z C h => ?_)
  show g 0 [(0, .ref (ad l0)), (1, .int l1), (2, .int l2), (3, .int l3)] [] σ
  rw [F_X0_putDoor] at h
  refine g_aload_n C 0 0 rfl rfl ?_
  refine g_getr (b := (l0 + 6)) C 1 rfl flX0_31 (hb_obj hZ hl0) rfl ?_
  refine g_iload_n C 2 1 rfl rfl ?_
  refine g_bipush (v := 8) C 3 rfl rfl ?_
  refine g_imul C 4 rfl ?_
  refine g_iload_n C 5 2 rfl rfl ?_
  refine g_iadd C 6 rfl ?_
  refine g_iload_n C 7 3 rfl rfl ?_
  refine g_iast C 8 rfl (hb_doors hZ hl0) h (fun s1 h => ?_)
  refine g_aload_n C 9 0 rfl rfl ?_
  refine g_getr (b := (l0 + 6)) C 10 rfl flX0_31 (hb_obj hZ hl0) rfl ?_
  refine g_iload_n C 11 2 rfl rfl ?_
  refine g_bipush (v := 8) C 12 rfl rfl ?_
  refine g_imul C 13 rfl ?_
  refine g_iload_n C 14 1 rfl rfl ?_
  refine g_iadd C 15 rfl ?_
  refine g_iload_n C 16 3 rfl rfl ?_
  refine g_iast C 17 rfl (hb_doors hZ hl0) h (fun s2 h => ?_)
  exact g_return C 18 rfl h
def T_X4_mostSeated : List (Nat × Instr × Nat) := [(0, .iload_n 2, 1), (1, .iload_n 1, 1), (2, .isub, 1), (3, .istore 4, 2), (5, .iload 4, 2), (7, .istore 5, 2), (9, .iconst 1, 1), (10, .istore 6, 2), (12, .iload 6, 2), (14, .iconst 1, 1), (15, .iload 4, 2), (17, .ishl, 1), (18, .if_icmp .ge 43, 3), (21, .iload 4, 2), (23, .iload 6, 2), (25, .invokestatic 43, 3), (28, .isub, 1), (29, .istore 7, 2), (31, .iload 5, 2), (33, .iload 7, 2), (35, .aload_n 0, 1), (36, .getfield 9, 3), (39, .iload 6, 2), (41, .iload_n 1, 1), (42, .ishl, 1), (43, .iaload, 1), (44, .iload_n 3, 1), (45, .iand, 1), (46, .invokestatic 43, 3), (49, .iadd, 1), (50, .invokestatic 49, 3), (53, .istore 5, 2), (55, .iinc 6 1, 3), (58, .goto (-46), 3), (61, .iload 5, 2), (63, .ireturn, 1)]
theorem T_X4_mostSeated_ok : gTb cX4_mostSeated T_X4_mostSeated = true := by decide +kernel
def F_X4_mostSeated_L12 (Z : List gH) (l1 : Int32) (l3 : Int32) : Nat → Int32 → Int32 → Int32 → gS → Option (Int32 × gS)
  | 0, _, _, _, _ => none
  | n + 1, l4, l5, l6, σ => if (1 <<< (l4 &&& 31)) ≤ l6 then some (l5, σ) else mCall (F_JI_bitCount Z l6 σ) (fun r1 s2 => mLet ((l4 - r1)) (fun v3 => mIn 64 (l6 <<< (l1 &&& 31)) (mCall (F_JI_bitCount Z ((s2 32 (nn (l6 <<< (l1 &&& 31)))) &&& l3) s2) (fun r4 s5 => mLet ((mMin l5 (v3 + r4))) (fun v6 => F_X4_mostSeated_L12 Z l1 l3 n l4 v6 (l6 + 1) s5)))))
def F_X4_mostSeated (Z : List gH) (l1 : Int32) (l2 : Int32) (l3 : Int32) (σ : gS) : Option (Int32 × gS) := mLet ((l2 - l1)) (fun v1 => F_X4_mostSeated_L12 Z l1 l3 mFuel v1 v1 1 σ)
set_option maxRecDepth 20000 in
set_option maxHeartbeats 4000000 in
theorem C_F_X4_mostSeated_L12 {g : Nat → List (Nat × Value) → List Value → gS → Prop} {Z : List gH} {ad : Nat → Nat} {z : Int32 × gS}  (C : gOk g T_X4_mostSeated RX4 8 (some .int) 2 Z ad z) (hZ : Lay Z) (l1 : Int32) (l3 : Int32) : ∀ (n : Nat) (l4 : Int32) (l5 : Int32) (l6 : Int32) (σ : gS), F_X4_mostSeated_L12 Z l1 l3 n l4 l5 l6 σ = some z → g 12 [(0, .ref (ad 31)), (1, .int l1), (3, .int l3), (4, .int l4), (5, .int l5), (6, .int l6)] [] σ := by
  intro n
  induction n with
  | zero => intro l4 l5 l6 σ h; cases h
  | succ n ih =>
    intro l4 l5 l6 σ h
    rw [F_X4_mostSeated_L12] at h
    refine g_iload C 8 5 rfl rfl ?_
    refine g_iconst (v := 1) C 9 rfl rfl ?_
    refine g_iload C 10 3 rfl rfl ?_
    refine g_ishl C 11 rfl ?_
    refine g_icmp_ge C 12 61 rfl rfl h (fun h => ?_) (fun h => ?_)
    · refine g_iload C 34 4 rfl rfl ?_
      exact g_ireturn C 35 rfl h
    · refine g_iload C 13 3 rfl rfl ?_
      refine g_iload C 14 5 rfl rfl ?_
      refine g_callSi C 15 [.int l6] [.int l4] rfl (M_JI_bitCount hZ l6) cnX4_43 cwJI_bitCount csJI_bitCount rfl rfl rfl (Nat.le_of_ble_eq_true rfl) ⟨Nat.le_of_ble_eq_true rfl, Nat.le_of_ble_eq_true rfl⟩ h (fun r1 s2 h => ?_)
      refine g_isub C 16 rfl ?_
      refine g_let h (fun v3 h => ?_)
      refine g_istore C 17 [(7, .int v3), (0, .ref (ad 31)), (1, .int l1), (3, .int l3), (4, .int l4), (5, .int l5), (6, .int l6)] rfl (by decide) rfl ?_
      refine g_iload C 18 5 rfl rfl ?_
      refine g_iload C 19 0 rfl rfl ?_
      refine g_aload_n C 20 1 rfl rfl ?_
      refine g_getr (b := 32) C 21 rfl flX4_9 (hZ.at (i := 31) rfl) rfl ?_
      refine g_iload C 22 6 rfl rfl ?_
      refine g_iload_n C 23 2 rfl rfl ?_
      refine g_ishl C 24 rfl ?_
      refine g_iald C 25 rfl (hZ.at (i := 32) rfl) h (fun h => ?_)
      refine g_iload_n C 26 3 rfl rfl ?_
      refine g_iand C 27 rfl ?_
      refine g_callSi C 28 [.int ((s2 32 (nn (l6 <<< (l1 &&& 31)))) &&& l3)] [.int v3, .int l5] rfl (M_JI_bitCount hZ ((s2 32 (nn (l6 <<< (l1 &&& 31)))) &&& l3)) cnX4_43 cwJI_bitCount csJI_bitCount rfl rfl rfl (Nat.le_of_ble_eq_true rfl) ⟨Nat.le_of_ble_eq_true rfl, Nat.le_of_ble_eq_true rfl⟩ h (fun r4 s5 h => ?_)
      refine g_iadd C 29 rfl ?_
      refine g_mmin C 30 rfl cnX4_49 wm_min ⟨Nat.le_of_ble_eq_true rfl, Nat.le_of_ble_eq_true rfl⟩ ?_
      refine g_let h (fun v6 h => ?_)
      refine g_istore C 31 [(5, .int v6), (7, .int v3), (0, .ref (ad 31)), (1, .int l1), (3, .int l3), (4, .int l4), (6, .int l6)] rfl (by decide) rfl ?_
      refine g_iinc C 32 6 (l6 + 1) [(6, .int (l6 + 1)), (5, .int v6), (7, .int v3), (0, .ref (ad 31)), (1, .int l1), (3, .int l3), (4, .int l4)] rfl rfl (by decide) rfl rfl ?_
      refine g_goto C 33 12 rfl rfl ?_
      refine g_sub C [3, 4, 5, 6, 1, 0] [(0, .ref (ad 31)), (1, .int l1), (3, .int l3), (4, .int l4), (5, .int v6), (6, .int (l6 + 1))] rfl ?_
      exact ih _ _ _ _ h
set_option maxRecDepth 20000 in
set_option maxHeartbeats 4000000 in
theorem M_X4_mostSeated {Z : List gH} (hZ : Lay Z) (l1 : Int32) (l2 : Int32) (l3 : Int32) : gMet yX4_mostSeated cX4_mostSeated 8 (some .int) 2 Z (fun ad => [.ref (ad 31), .int l1, .int l2, .int l3]) (F_X4_mostSeated Z l1 l2 l3) := by
  refine gMet_intro T_X4_mostSeated T_X4_mostSeated_ok rfl (fun _ => Nat.le_of_ble_eq_true rfl) (fun g ad σ z C h => ?_)
  show g 0 [(0, .ref (ad 31)), (1, .int l1), (2, .int l2), (3, .int l3)] [] σ
  rw [F_X4_mostSeated] at h
  refine g_iload_n C 0 2 rfl rfl ?_
  refine g_iload_n C 1 1 rfl rfl ?_
  refine g_isub C 2 rfl ?_
  refine g_let h (fun v1 h => ?_)
  refine g_istore C 3 [(4, .int v1), (0, .ref (ad 31)), (1, .int l1), (2, .int l2), (3, .int l3)] rfl (by decide) rfl ?_
  refine g_iload C 4 0 rfl rfl ?_
  refine g_istore C 5 [(5, .int v1), (4, .int v1), (0, .ref (ad 31)), (1, .int l1), (2, .int l2), (3, .int l3)] rfl (by decide) rfl ?_
  refine g_iconst (v := 1) C 6 rfl rfl ?_
  refine g_istore C 7 [(6, .int 1), (5, .int v1), (4, .int v1), (0, .ref (ad 31)), (1, .int l1), (2, .int l2), (3, .int l3)] rfl (by decide) rfl ?_
  refine g_sub C [3, 4, 6, 2, 1, 0] [(0, .ref (ad 31)), (1, .int l1), (3, .int l3), (4, .int v1), (5, .int v1), (6, .int 1)] rfl ?_
  exact C_F_X4_mostSeated_L12 C hZ _ _ _ _ _ _ _ h
def T_X4_gatherLikes : List (Nat × Instr × Nat) := [(0, .iconst 0, 1), (1, .istore_n 2, 1), (2, .iconst 0, 1), (3, .istore_n 3, 1), (4, .iload_n 3, 1), (5, .bipush 8, 2), (7, .if_icmp .ge 26, 3), (10, .aload_n 1, 1), (11, .getfield 37, 3), (14, .iload_n 3, 1), (15, .iaload, 1), (16, .bipush 30, 2), (18, .if_icmp .ge 9, 3), (21, .iload_n 2, 1), (22, .iconst 1, 1), (23, .iload_n 3, 1), (24, .ishl, 1), (25, .ior, 1), (26, .istore_n 2, 1), (27, .iinc 3 1, 3), (30, .goto (-26), 3), (33, .aload_n 0, 1), (34, .getfield 9, 3), (37, .iconst 0, 1), (38, .iconst 0, 1), (39, .iastore, 1), (40, .iconst 0, 1), (41, .istore_n 3, 1), (42, .iload_n 3, 1), (43, .aload_n 1, 1), (44, .getfield 22, 3), (47, .if_icmp .ge 56, 3), (50, .iconst 1, 1), (51, .iload_n 3, 1), (52, .ishl, 1), (53, .istore 4, 2), (55, .iconst 0, 1), (56, .istore 5, 2), (58, .iload 5, 2), (60, .iload 4, 2), (62, .if_icmp .ge 35, 3), (65, .aload_n 0, 1), (66, .getfield 9, 3), (69, .iload 4, 2), (71, .iload 5, 2), (73, .ior, 1), (74, .aload_n 0, 1), (75, .getfield 9, 3), (78, .iload 5, 2), (80, .iaload, 1), (81, .aload_n 1, 1), (82, .getfield 40, 3), (85, .iload_n 3, 1), (86, .iaload, 1), (87, .iload_n 2, 1), (88, .iand, 1), (89, .ior, 1), (90, .iastore, 1), (91, .iinc 5 1, 3), (94, .goto (-36), 3), (97, .iinc 3 1, 3), (100, .goto (-58), 3), (103, .return_, 1)]
theorem T_X4_gatherLikes_ok : gTb cX4_gatherLikes T_X4_gatherLikes = true := by decide +kernel
def F_X4_gatherLikes_L58 (Z : List gH) (k42 : Int32 → Int32 → gS → Option (Int32 × gS)) (l1 : Nat) : Nat → Int32 → Int32 → Int32 → Int32 → gS → Option (Int32 × gS)
  | 0, _, _, _, _, _ => none
  | n + 1, l2, l3, l4, l5, σ => if l4 ≤ l5 then k42 l2 (l3 + 1) σ else mIn 64 l5 (mIn 6 l3 (mIn 64 (l4 ||| l5) (mLet (gu σ 32 (nn (l4 ||| l5)) ((σ 32 (nn l5)) ||| ((σ (l1 + 7) (nn l3)) &&& l2))) (fun s1 => F_X4_gatherLikes_L58 Z k42 l1 n l2 l3 l4 (l5 + 1) s1))))
def F_X4_gatherLikes_L42 (Z : List gH) (l1 : Nat) : Nat → Int32 → Int32 → gS → Option (Int32 × gS)
  | 0, _, _, _ => none
  | n + 1, l2, l3, σ => if (σ l1 10) ≤ l3 then some (0, σ) else mLet ((1 <<< (l3 &&& 31))) (fun v1 => F_X4_gatherLikes_L58 Z (F_X4_gatherLikes_L42 Z l1 n) l1 mFuel l2 l3 v1 0 σ)
def F_X4_gatherLikes_L4 (Z : List gH) (l1 : Nat) : Nat → Int32 → Int32 → gS → Option (Int32 × gS)
  | 0, _, _, _ => none
  | n + 1, l2, l3, σ => if 8 ≤ l3 then mLet (gu σ 32 0 0) (fun s1 => F_X4_gatherLikes_L42 Z l1 mFuel l2 0 s1) else mIn 8 l3 (if 30 ≤ (σ (l1 + 5) (nn l3)) then F_X4_gatherLikes_L4 Z l1 n l2 (l3 + 1) σ else mLet ((l2 ||| (1 <<< (l3 &&& 31)))) (fun v2 => F_X4_gatherLikes_L4 Z l1 n v2 (l3 + 1) σ))
def F_X4_gatherLikes (Z : List gH) (l1 : Nat) (σ : gS) : Option (Int32 × gS) := F_X4_gatherLikes_L4 Z l1 mFuel 0 0 σ
set_option maxRecDepth 20000 in
set_option maxHeartbeats 4000000 in
theorem C_F_X4_gatherLikes_L58 {g : Nat → List (Nat × Value) → List Value → gS → Prop} {Z : List gH} {ad : Nat → Nat} {z : Int32 × gS}  (C : gOk g T_X4_gatherLikes RX4 6 none 1 Z ad z) (hZ : Lay Z) {k42 : Int32 → Int32 → gS → Option (Int32 × gS)} (l1 : Nat) (hl1 : HB l1) (hk42 : ∀ (l2 : Int32) (l3 : Int32) (σ : gS), k42 l2 l3 σ = some z → g 42 [(0, .ref (ad 31)), (1, .ref (ad l1)), (2, .int l2), (3, .int l3)] [] σ) : ∀ (n : Nat) (l2 : Int32) (l3 : Int32) (l4 : Int32) (l5 : Int32) (σ : gS), F_X4_gatherLikes_L58 Z k42 l1 n l2 l3 l4 l5 σ = some z → g 58 [(0, .ref (ad 31)), (1, .ref (ad l1)), (2, .int l2), (3, .int l3), (4, .int l4), (5, .int l5)] [] σ := by
  intro n
  induction n with
  | zero => intro l2 l3 l4 l5 σ h; cases h
  | succ n ih =>
    intro l2 l3 l4 l5 σ h
    rw [F_X4_gatherLikes_L58] at h
    refine g_iload C 38 5 rfl rfl ?_
    refine g_iload C 39 4 rfl rfl ?_
    refine g_icmp_ge C 40 97 rfl rfl h (fun h => ?_) (fun h => ?_)
    · refine g_iinc C 60 3 (l3 + 1) [(3, .int (l3 + 1)), (0, .ref (ad 31)), (1, .ref (ad l1)), (2, .int l2), (4, .int l4), (5, .int l5)] rfl rfl (by decide) rfl rfl ?_
      refine g_goto C 61 42 rfl rfl ?_
      refine g_sub C [1, 2, 3, 0] [(0, .ref (ad 31)), (1, .ref (ad l1)), (2, .int l2), (3, .int (l3 + 1))] rfl ?_
      exact hk42 _ _ _ h
    · refine g_aload_n C 41 0 rfl rfl ?_
      refine g_getr (b := 32) C 42 rfl flX4_9 (hZ.at (i := 31) rfl) rfl ?_
      refine g_iload C 43 4 rfl rfl ?_
      refine g_iload C 44 5 rfl rfl ?_
      refine g_ior C 45 rfl ?_
      refine g_aload_n C 46 0 rfl rfl ?_
      refine g_getr (b := 32) C 47 rfl flX4_9 (hZ.at (i := 31) rfl) rfl ?_
      refine g_iload C 48 5 rfl rfl ?_
      refine g_iald C 49 rfl (hZ.at (i := 32) rfl) h (fun h => ?_)
      refine g_aload_n C 50 1 rfl rfl ?_
      refine g_getr (b := (l1 + 7)) C 51 rfl flX4_40 (hb_obj hZ hl1) rfl ?_
      refine g_iload_n C 52 3 rfl rfl ?_
      refine g_iald C 53 rfl (hb_liked hZ hl1) h (fun h => ?_)
      refine g_iload_n C 54 2 rfl rfl ?_
      refine g_iand C 55 rfl ?_
      refine g_ior C 56 rfl ?_
      refine g_iast C 57 rfl (hZ.at (i := 32) rfl) h (fun s1 h => ?_)
      refine g_iinc C 58 5 (l5 + 1) [(5, .int (l5 + 1)), (0, .ref (ad 31)), (1, .ref (ad l1)), (2, .int l2), (3, .int l3), (4, .int l4)] rfl rfl (by decide) rfl rfl ?_
      refine g_goto C 59 58 rfl rfl ?_
      refine g_sub C [1, 2, 3, 4, 5, 0] [(0, .ref (ad 31)), (1, .ref (ad l1)), (2, .int l2), (3, .int l3), (4, .int l4), (5, .int (l5 + 1))] rfl ?_
      exact ih _ _ _ _ _ h
set_option maxRecDepth 20000 in
set_option maxHeartbeats 4000000 in
theorem C_F_X4_gatherLikes_L42 {g : Nat → List (Nat × Value) → List Value → gS → Prop} {Z : List gH} {ad : Nat → Nat} {z : Int32 × gS}  (C : gOk g T_X4_gatherLikes RX4 6 none 1 Z ad z) (hZ : Lay Z) (l1 : Nat) (hl1 : HB l1) : ∀ (n : Nat) (l2 : Int32) (l3 : Int32) (σ : gS), F_X4_gatherLikes_L42 Z l1 n l2 l3 σ = some z → g 42 [(0, .ref (ad 31)), (1, .ref (ad l1)), (2, .int l2), (3, .int l3)] [] σ := by
  intro n
  induction n with
  | zero => intro l2 l3 σ h; cases h
  | succ n ih =>
    intro l2 l3 σ h
    rw [F_X4_gatherLikes_L42] at h
    refine g_iload_n C 28 3 rfl rfl ?_
    refine g_aload_n C 29 1 rfl rfl ?_
    refine g_geti C 30 rfl flX4_22 (hb_obj hZ hl1) rfl ?_
    refine g_icmp_ge C 31 103 rfl rfl h (fun h => ?_) (fun h => ?_)
    · exact g_return C 62 rfl h
    · refine g_iconst (v := 1) C 32 rfl rfl ?_
      refine g_iload_n C 33 3 rfl rfl ?_
      refine g_ishl C 34 rfl ?_
      refine g_let h (fun v1 h => ?_)
      refine g_istore C 35 [(4, .int v1), (0, .ref (ad 31)), (1, .ref (ad l1)), (2, .int l2), (3, .int l3)] rfl (by decide) rfl ?_
      refine g_iconst (v := 0) C 36 rfl rfl ?_
      refine g_istore C 37 [(5, .int 0), (4, .int v1), (0, .ref (ad 31)), (1, .ref (ad l1)), (2, .int l2), (3, .int l3)] rfl (by decide) rfl ?_
      refine g_sub C [2, 3, 4, 5, 1, 0] [(0, .ref (ad 31)), (1, .ref (ad l1)), (2, .int l2), (3, .int l3), (4, .int v1), (5, .int 0)] rfl ?_
      exact C_F_X4_gatherLikes_L58 C hZ _ hl1 ih _ _ _ _ _ _ h
set_option maxRecDepth 20000 in
set_option maxHeartbeats 4000000 in
theorem C_F_X4_gatherLikes_L4 {g : Nat → List (Nat × Value) → List Value → gS → Prop} {Z : List gH} {ad : Nat → Nat} {z : Int32 × gS}  (C : gOk g T_X4_gatherLikes RX4 6 none 1 Z ad z) (hZ : Lay Z) (l1 : Nat) (hl1 : HB l1) : ∀ (n : Nat) (l2 : Int32) (l3 : Int32) (σ : gS), F_X4_gatherLikes_L4 Z l1 n l2 l3 σ = some z → g 4 [(0, .ref (ad 31)), (1, .ref (ad l1)), (2, .int l2), (3, .int l3)] [] σ := by
  intro n
  induction n with
  | zero => intro l2 l3 σ h; cases h
  | succ n ih =>
    intro l2 l3 σ h
    rw [F_X4_gatherLikes_L4] at h
    refine g_iload_n C 4 3 rfl rfl ?_
    refine g_bipush (v := 8) C 5 rfl rfl ?_
    refine g_icmp_ge C 6 33 rfl rfl h (fun h => ?_) (fun h => ?_)
    · refine g_aload_n C 21 0 rfl rfl ?_
      refine g_getr (b := 32) C 22 rfl flX4_9 (hZ.at (i := 31) rfl) rfl ?_
      refine g_iconst (v := 0) C 23 rfl rfl ?_
      refine g_iconst (v := 0) C 24 rfl rfl ?_
      refine g_iastK C 25 0 rfl (hZ.at (i := 32) rfl) rfl (vp_k rfl) h (fun s1 h => ?_)
      refine g_iconst (v := 0) C 26 rfl rfl ?_
      refine g_istore_n C 27 [(3, .int 0), (0, .ref (ad 31)), (1, .ref (ad l1)), (2, .int l2)] rfl (by decide) rfl ?_
      refine g_sub C [1, 2, 3, 0] [(0, .ref (ad 31)), (1, .ref (ad l1)), (2, .int l2), (3, .int 0)] rfl ?_
      exact C_F_X4_gatherLikes_L42 C hZ _ hl1 _ _ _ _ h
    · refine g_aload_n C 7 1 rfl rfl ?_
      refine g_getr (b := (l1 + 5)) C 8 rfl flX4_37 (hb_obj hZ hl1) rfl ?_
      refine g_iload_n C 9 3 rfl rfl ?_
      refine g_iald C 10 rfl (hb_heats hZ hl1) h (fun h => ?_)
      refine g_bipush (v := 30) C 11 rfl rfl ?_
      refine g_icmp_ge C 12 27 rfl rfl h (fun h => ?_) (fun h => ?_)
      · refine g_iinc C 19 3 (l3 + 1) [(3, .int (l3 + 1)), (0, .ref (ad 31)), (1, .ref (ad l1)), (2, .int l2)] rfl rfl (by decide) rfl rfl ?_
        refine g_goto C 20 4 rfl rfl ?_
        refine g_sub C [1, 2, 3, 0] [(0, .ref (ad 31)), (1, .ref (ad l1)), (2, .int l2), (3, .int (l3 + 1))] rfl ?_
        exact ih _ _ _ h
      · refine g_iload_n C 13 2 rfl rfl ?_
        refine g_iconst (v := 1) C 14 rfl rfl ?_
        refine g_iload_n C 15 3 rfl rfl ?_
        refine g_ishl C 16 rfl ?_
        refine g_ior C 17 rfl ?_
        refine g_let h (fun v2 h => ?_)
        refine g_istore_n C 18 [(2, .int v2), (0, .ref (ad 31)), (1, .ref (ad l1)), (3, .int l3)] rfl (by decide) rfl ?_
        refine g_iinc C 19 3 (l3 + 1) [(3, .int (l3 + 1)), (2, .int v2), (0, .ref (ad 31)), (1, .ref (ad l1))] rfl rfl (by decide) rfl rfl ?_
        refine g_goto C 20 4 rfl rfl ?_
        refine g_sub C [2, 3, 1, 0] [(0, .ref (ad 31)), (1, .ref (ad l1)), (2, .int v2), (3, .int (l3 + 1))] rfl ?_
        exact ih _ _ _ h
set_option maxRecDepth 20000 in
set_option maxHeartbeats 4000000 in
theorem M_X4_gatherLikes {Z : List gH} (hZ : Lay Z) (l1 : Nat) (hl1 : HB l1) : gMet yX4_gatherLikes cX4_gatherLikes 6 none 1 Z (fun ad => [.ref (ad 31), .ref (ad l1)]) (F_X4_gatherLikes Z l1) := by
  refine gMet_intro T_X4_gatherLikes T_X4_gatherLikes_ok rfl (fun _ => Nat.le_of_ble_eq_true rfl) (fun g ad σ z C h => ?_)
  show g 0 [(0, .ref (ad 31)), (1, .ref (ad l1))] [] σ
  rw [F_X4_gatherLikes] at h
  refine g_iconst (v := 0) C 0 rfl rfl ?_
  refine g_istore_n C 1 [(2, .int 0), (0, .ref (ad 31)), (1, .ref (ad l1))] rfl (by decide) rfl ?_
  refine g_iconst (v := 0) C 2 rfl rfl ?_
  refine g_istore_n C 3 [(3, .int 0), (2, .int 0), (0, .ref (ad 31)), (1, .ref (ad l1))] rfl (by decide) rfl ?_
  refine g_sub C [2, 3, 1, 0] [(0, .ref (ad 31)), (1, .ref (ad l1)), (2, .int 0), (3, .int 0)] rfl ?_
  exact C_F_X4_gatherLikes_L4 C hZ _ hl1 _ _ _ _ h
def T_X4_leastRoom : List (Nat × Instr × Nat) := [(0, .iconst 0, 1), (1, .istore 5, 2), (3, .iload 5, 2), (5, .bipush 8, 2), (7, .if_icmp .ge 55, 3), (10, .iconst 1, 1), (11, .iload 5, 2), (13, .ishl, 1), (14, .istore 6, 2), (16, .aload_n 0, 1), (17, .getfield 9, 3), (20, .iconst 1, 1), (21, .iload_n 1, 1), (22, .ishl, 1), (23, .iaload, 1), (24, .iload_n 3, 1), (25, .iand, 1), (26, .iload 6, 2), (28, .iand, 1), (29, .ifCond .eq 27, 3), (32, .iconst 1, 1), (33, .aload_n 0, 1), (34, .iload_n 1, 1), (35, .iconst 1, 1), (36, .iadd, 1), (37, .iload_n 2, 1), (38, .iload_n 3, 1), (39, .iload 6, 2), (41, .iconst (-1), 1), (42, .ixor, 1), (43, .iand, 1), (44, .invokevirtual 28, 3), (47, .iadd, 1), (48, .iload 4, 2), (50, .if_icmp .ne 6, 3), (53, .iload 5, 2), (55, .ireturn, 1), (56, .iinc 5 1, 3), (59, .goto (-56), 3), (62, .ldc 36, 2), (64, .ireturn, 1)]
theorem T_X4_leastRoom_ok : gTb cX4_leastRoom T_X4_leastRoom = true := by decide +kernel
def F_X4_leastRoom_L3 (Z : List gH) (l1 : Int32) (l2 : Int32) (l3 : Int32) (l4 : Int32) : Nat → Int32 → gS → Option (Int32 × gS)
  | 0, _, _ => none
  | n + 1, l5, σ => if 8 ≤ l5 then some ((-1000000005), σ) else mLet ((1 <<< (l5 &&& 31))) (fun v1 => mIn 64 (1 <<< (l1 &&& 31)) (if (((σ 32 (nn (1 <<< (l1 &&& 31)))) &&& l3) &&& v1) = 0 then F_X4_leastRoom_L3 Z l1 l2 l3 l4 n (l5 + 1) σ else mCall (F_X4_mostSeated Z (l1 + 1) l2 (l3 &&& (v1 ^^^ (-1))) σ) (fun r2 s3 => if (1 + r2) = l4 then some (l5, s3) else F_X4_leastRoom_L3 Z l1 l2 l3 l4 n (l5 + 1) s3)))
def F_X4_leastRoom (Z : List gH) (l1 : Int32) (l2 : Int32) (l3 : Int32) (l4 : Int32) (σ : gS) : Option (Int32 × gS) := F_X4_leastRoom_L3 Z l1 l2 l3 l4 mFuel 0 σ
set_option maxRecDepth 20000 in
set_option maxHeartbeats 4000000 in
theorem C_F_X4_leastRoom_L3 {g : Nat → List (Nat × Value) → List Value → gS → Prop} {Z : List gH} {ad : Nat → Nat} {z : Int32 × gS}  (C : gOk g T_X4_leastRoom RX4 7 (some .int) 3 Z ad z) (hZ : Lay Z) (l1 : Int32) (l2 : Int32) (l3 : Int32) (l4 : Int32) : ∀ (n : Nat) (l5 : Int32) (σ : gS), F_X4_leastRoom_L3 Z l1 l2 l3 l4 n l5 σ = some z → g 3 [(0, .ref (ad 31)), (1, .int l1), (2, .int l2), (3, .int l3), (4, .int l4), (5, .int l5)] [] σ := by
  intro n
  induction n with
  | zero => intro l5 σ h; cases h
  | succ n ih =>
    intro l5 σ h
    rw [F_X4_leastRoom_L3] at h
    refine g_iload C 2 5 rfl rfl ?_
    refine g_bipush (v := 8) C 3 rfl rfl ?_
    refine g_icmp_ge C 4 62 rfl rfl h (fun h => ?_) (fun h => ?_)
    · refine g_ldc C 39 rfl kcX4_36 ?_
      exact g_ireturn C 40 rfl h
    · refine g_iconst (v := 1) C 5 rfl rfl ?_
      refine g_iload C 6 5 rfl rfl ?_
      refine g_ishl C 7 rfl ?_
      refine g_let h (fun v1 h => ?_)
      refine g_istore C 8 [(6, .int v1), (0, .ref (ad 31)), (1, .int l1), (2, .int l2), (3, .int l3), (4, .int l4), (5, .int l5)] rfl (by decide) rfl ?_
      refine g_aload_n C 9 1 rfl rfl ?_
      refine g_getr (b := 32) C 10 rfl flX4_9 (hZ.at (i := 31) rfl) rfl ?_
      refine g_iconst (v := 1) C 11 rfl rfl ?_
      refine g_iload_n C 12 2 rfl rfl ?_
      refine g_ishl C 13 rfl ?_
      refine g_iald C 14 rfl (hZ.at (i := 32) rfl) h (fun h => ?_)
      refine g_iload_n C 15 4 rfl rfl ?_
      refine g_iand C 16 rfl ?_
      refine g_iload C 17 0 rfl rfl ?_
      refine g_iand C 18 rfl ?_
      refine g_if_eq C 19 56 rfl rfl h (fun h => ?_) (fun h => ?_)
      · refine g_iinc C 37 6 (l5 + 1) [(5, .int (l5 + 1)), (6, .int v1), (0, .ref (ad 31)), (1, .int l1), (2, .int l2), (3, .int l3), (4, .int l4)] rfl rfl (by decide) rfl rfl ?_
        refine g_goto C 38 3 rfl rfl ?_
        refine g_sub C [2, 3, 4, 5, 6, 0] [(0, .ref (ad 31)), (1, .int l1), (2, .int l2), (3, .int l3), (4, .int l4), (5, .int (l5 + 1))] rfl ?_
        exact ih _ _ h
      · refine g_iconst (v := 1) C 20 rfl rfl ?_
        refine g_aload_n C 21 1 rfl rfl ?_
        refine g_iload_n C 22 2 rfl rfl ?_
        refine g_iconst (v := 1) C 23 rfl rfl ?_
        refine g_iadd C 24 rfl ?_
        refine g_iload_n C 25 3 rfl rfl ?_
        refine g_iload_n C 26 4 rfl rfl ?_
        refine g_iload C 27 0 rfl rfl ?_
        refine g_iconst (v := (-1)) C 28 rfl rfl ?_
        refine g_ixor C 29 rfl ?_
        refine g_iand C 30 rfl ?_
        refine g_callVi C 31 [.int (l1 + 1), .int l2, .int (l3 &&& (v1 ^^^ (-1)))] [.int 1] rfl (M_X4_mostSeated hZ (l1 + 1) l2 (l3 &&& (v1 ^^^ (-1)))) cnX4_28 cwX4_mostSeated ciX4_mostSeated (hZ.at (i := 31) rfl) rfl rfl rfl rfl (Nat.le_of_ble_eq_true rfl) ⟨Nat.le_of_ble_eq_true rfl, Nat.le_of_ble_eq_true rfl⟩ h (fun r2 s3 h => ?_)
        refine g_iadd C 32 rfl ?_
        refine g_iload C 33 5 rfl rfl ?_
        refine g_icmp_ne C 34 56 rfl rfl h (fun h => ?_) (fun h => ?_)
        · refine g_iinc C 37 6 (l5 + 1) [(5, .int (l5 + 1)), (6, .int v1), (0, .ref (ad 31)), (1, .int l1), (2, .int l2), (3, .int l3), (4, .int l4)] rfl rfl (by decide) rfl rfl ?_
          refine g_goto C 38 3 rfl rfl ?_
          refine g_sub C [2, 3, 4, 5, 6, 0] [(0, .ref (ad 31)), (1, .int l1), (2, .int l2), (3, .int l3), (4, .int l4), (5, .int (l5 + 1))] rfl ?_
          exact ih _ _ h
        · refine g_iload C 35 6 rfl rfl ?_
          exact g_ireturn C 36 rfl h
set_option maxRecDepth 20000 in
set_option maxHeartbeats 4000000 in
theorem M_X4_leastRoom {Z : List gH} (hZ : Lay Z) (l1 : Int32) (l2 : Int32) (l3 : Int32) (l4 : Int32) : gMet yX4_leastRoom cX4_leastRoom 7 (some .int) 3 Z (fun ad => [.ref (ad 31), .int l1, .int l2, .int l3, .int l4]) (F_X4_leastRoom Z l1 l2 l3 l4) := by
  refine gMet_intro T_X4_leastRoom T_X4_leastRoom_ok rfl (fun _ => Nat.le_of_ble_eq_true rfl) (fun g ad σ z C h => ?_)
  show g 0 [(0, .ref (ad 31)), (1, .int l1), (2, .int l2), (3, .int l3), (4, .int l4)] [] σ
  rw [F_X4_leastRoom] at h
  refine g_iconst (v := 0) C 0 rfl rfl ?_
  refine g_istore C 1 [(5, .int 0), (0, .ref (ad 31)), (1, .int l1), (2, .int l2), (3, .int l3), (4, .int l4)] rfl (by decide) rfl ?_
  refine g_sub C [1, 2, 3, 4, 5, 0] [(0, .ref (ad 31)), (1, .int l1), (2, .int l2), (3, .int l3), (4, .int l4), (5, .int 0)] rfl ?_
  exact C_F_X4_leastRoom_L3 C hZ _ _ _ _ _ _ _ h
def T_X4_seatAll : List (Nat × Instr × Nat) := [(0, .aload_n 0, 1), (1, .aload_n 1, 1), (2, .invokevirtual 18, 3), (5, .aload_n 1, 1), (6, .getfield 22, 3), (9, .istore_n 2, 1), (10, .sipush 255, 3), (13, .istore_n 3, 1), (14, .aload_n 0, 1), (15, .iconst 0, 1), (16, .iload_n 2, 1), (17, .iload_n 3, 1), (18, .invokevirtual 28, 3), (21, .istore 4, 2), (23, .iload 4, 2), (25, .istore 5, 2), (27, .iconst 0, 1), (28, .istore 6, 2), (30, .iload 6, 2), (32, .iload_n 2, 1), (33, .if_icmp .ge 49, 3), (36, .aload_n 0, 1), (37, .iload 6, 2), (39, .iload_n 2, 1), (40, .iload_n 3, 1), (41, .iload 5, 2), (43, .invokevirtual 32, 3), (46, .istore 7, 2), (48, .aload_n 0, 1), (49, .getfield 15, 3), (52, .iload 6, 2), (54, .iload 7, 2), (56, .iastore, 1), (57, .iload 7, 2), (59, .ldc 36, 2), (61, .if_icmp .eq 15, 3), (64, .iload_n 3, 1), (65, .iconst 1, 1), (66, .iload 7, 2), (68, .ishl, 1), (69, .iconst (-1), 1), (70, .ixor, 1), (71, .iand, 1), (72, .istore_n 3, 1), (73, .iinc 5 (-1), 3), (76, .iinc 6 1, 3), (79, .goto (-49), 3), (82, .iload 4, 2), (84, .ireturn, 1)]
theorem T_X4_seatAll_ok : gTb cX4_seatAll T_X4_seatAll = true := by decide +kernel
def F_X4_seatAll_L30 (Z : List gH) : Nat → Int32 → Int32 → Int32 → Int32 → Int32 → gS → Option (Int32 × gS)
  | 0, _, _, _, _, _, _ => none
  | n + 1, l2, l3, l4, l5, l6, σ => if l2 ≤ l6 then some (l4, σ) else mCall (F_X4_leastRoom Z l6 l2 l3 l5 σ) (fun r1 s2 => mIn 6 l6 (mLet (gu s2 33 (nn l6) r1) (fun s3 => if r1 = (-1000000005) then F_X4_seatAll_L30 Z n l2 l3 l4 l5 (l6 + 1) s3 else mLet ((l3 &&& ((1 <<< (r1 &&& 31)) ^^^ (-1)))) (fun v4 => F_X4_seatAll_L30 Z n l2 v4 l4 (l5 + (-1)) (l6 + 1) s3))))
def F_X4_seatAll (Z : List gH) (l1 : Nat) (σ : gS) : Option (Int32 × gS) := mCall (F_X4_gatherLikes Z l1 σ) (fun r1 s2 => mLet ((s2 l1 10)) (fun v3 => mCall (F_X4_mostSeated Z 0 v3 255 s2) (fun r4 s5 => F_X4_seatAll_L30 Z mFuel v3 255 r4 r4 0 s5)))
set_option maxRecDepth 20000 in
set_option maxHeartbeats 4000000 in
theorem C_F_X4_seatAll_L30 {g : Nat → List (Nat × Value) → List Value → gS → Prop} {Z : List gH} {ad : Nat → Nat} {z : Int32 × gS}  (C : gOk g T_X4_seatAll RX4 8 (some .int) 4 Z ad z) (hZ : Lay Z) : ∀ (n : Nat) (l2 : Int32) (l3 : Int32) (l4 : Int32) (l5 : Int32) (l6 : Int32) (σ : gS), F_X4_seatAll_L30 Z n l2 l3 l4 l5 l6 σ = some z → g 30 [(0, .ref (ad 31)), (2, .int l2), (3, .int l3), (4, .int l4), (5, .int l5), (6, .int l6)] [] σ := by
  intro n
  induction n with
  | zero => intro l2 l3 l4 l5 l6 σ h; cases h
  | succ n ih =>
    intro l2 l3 l4 l5 l6 σ h
    rw [F_X4_seatAll_L30] at h
    refine g_iload C 18 5 rfl rfl ?_
    refine g_iload_n C 19 1 rfl rfl ?_
    refine g_icmp_ge C 20 82 rfl rfl h (fun h => ?_) (fun h => ?_)
    · refine g_iload C 47 3 rfl rfl ?_
      exact g_ireturn C 48 rfl h
    · refine g_aload_n C 21 0 rfl rfl ?_
      refine g_iload C 22 5 rfl rfl ?_
      refine g_iload_n C 23 1 rfl rfl ?_
      refine g_iload_n C 24 2 rfl rfl ?_
      refine g_iload C 25 4 rfl rfl ?_
      refine g_callVi C 26 [.int l6, .int l2, .int l3, .int l5] [] rfl (M_X4_leastRoom hZ l6 l2 l3 l5) cnX4_32 cwX4_leastRoom ciX4_leastRoom (hZ.at (i := 31) rfl) rfl rfl rfl rfl (Nat.le_of_ble_eq_true rfl) ⟨Nat.le_of_ble_eq_true rfl, Nat.le_of_ble_eq_true rfl⟩ h (fun r1 s2 h => ?_)
      refine g_istore C 27 [(7, .int r1), (0, .ref (ad 31)), (2, .int l2), (3, .int l3), (4, .int l4), (5, .int l5), (6, .int l6)] rfl (by decide) rfl ?_
      refine g_aload_n C 28 1 rfl rfl ?_
      refine g_getr (b := 33) C 29 rfl flX4_15 (hZ.at (i := 31) rfl) rfl ?_
      refine g_iload C 30 6 rfl rfl ?_
      refine g_iload C 31 0 rfl rfl ?_
      refine g_iast C 32 rfl (hZ.at (i := 33) rfl) h (fun s3 h => ?_)
      refine g_iload C 33 0 rfl rfl ?_
      refine g_ldc C 34 rfl kcX4_36 ?_
      refine g_icmp_eq C 35 76 rfl rfl h (fun h => ?_) (fun h => ?_)
      · refine g_iinc C 45 6 (l6 + 1) [(6, .int (l6 + 1)), (7, .int r1), (0, .ref (ad 31)), (2, .int l2), (3, .int l3), (4, .int l4), (5, .int l5)] rfl rfl (by decide) rfl rfl ?_
        refine g_goto C 46 30 rfl rfl ?_
        refine g_sub C [2, 3, 4, 5, 6, 0] [(0, .ref (ad 31)), (2, .int l2), (3, .int l3), (4, .int l4), (5, .int l5), (6, .int (l6 + 1))] rfl ?_
        exact ih _ _ _ _ _ _ h
      · refine g_iload_n C 36 3 rfl rfl ?_
        refine g_iconst (v := 1) C 37 rfl rfl ?_
        refine g_iload C 38 0 rfl rfl ?_
        refine g_ishl C 39 rfl ?_
        refine g_iconst (v := (-1)) C 40 rfl rfl ?_
        refine g_ixor C 41 rfl ?_
        refine g_iand C 42 rfl ?_
        refine g_let h (fun v4 h => ?_)
        refine g_istore_n C 43 [(3, .int v4), (7, .int r1), (0, .ref (ad 31)), (2, .int l2), (4, .int l4), (5, .int l5), (6, .int l6)] rfl (by decide) rfl ?_
        refine g_iinc C 44 5 (l5 + (-1)) [(5, .int (l5 + (-1))), (3, .int v4), (7, .int r1), (0, .ref (ad 31)), (2, .int l2), (4, .int l4), (6, .int l6)] rfl rfl (by decide) rfl rfl ?_
        refine g_iinc C 45 6 (l6 + 1) [(6, .int (l6 + 1)), (5, .int (l5 + (-1))), (3, .int v4), (7, .int r1), (0, .ref (ad 31)), (2, .int l2), (4, .int l4)] rfl rfl (by decide) rfl rfl ?_
        refine g_goto C 46 30 rfl rfl ?_
        refine g_sub C [4, 5, 2, 6, 1, 0] [(0, .ref (ad 31)), (2, .int l2), (3, .int v4), (4, .int l4), (5, .int (l5 + (-1))), (6, .int (l6 + 1))] rfl ?_
        exact ih _ _ _ _ _ _ h
set_option maxRecDepth 20000 in
set_option maxHeartbeats 4000000 in
theorem M_X4_seatAll {Z : List gH} (hZ : Lay Z) (l1 : Nat) (hl1 : HB l1) : gMet yX4_seatAll cX4_seatAll 8 (some .int) 4 Z (fun ad => [.ref (ad 31), .ref (ad l1)]) (F_X4_seatAll Z l1) := by
  refine gMet_intro T_X4_seatAll T_X4_seatAll_ok rfl (fun _ => Nat.le_of_ble_eq_true rfl) (fun g ad σ z C h => ?_)
  show g 0 [(0, .ref (ad 31)), (1, .ref (ad l1))] [] σ
  rw [F_X4_seatAll] at h
  refine g_aload_n C 0 0 rfl rfl ?_
  refine g_aload_n C 1 1 rfl rfl ?_
  refine g_callVv C 2 [.ref (ad l1)] [] rfl (M_X4_gatherLikes hZ l1 hl1) cnX4_18 cwX4_gatherLikes ciX4_gatherLikes (hZ.at (i := 31) rfl) rfl rfl rfl rfl (Nat.le_of_ble_eq_true rfl) ⟨Nat.le_of_ble_eq_true rfl, Nat.le_of_ble_eq_true rfl⟩ h (fun r1 s2 h => ?_)
  refine g_aload_n C 3 1 rfl rfl ?_
  refine g_geti C 4 rfl flX4_22 (hb_obj hZ hl1) rfl ?_
  refine g_let h (fun v3 h => ?_)
  refine g_istore_n C 5 [(2, .int v3), (0, .ref (ad 31)), (1, .ref (ad l1))] rfl (by decide) rfl ?_
  refine g_sipush (v := 255) C 6 rfl rfl ?_
  refine g_istore_n C 7 [(3, .int 255), (2, .int v3), (0, .ref (ad 31)), (1, .ref (ad l1))] rfl (by decide) rfl ?_
  refine g_aload_n C 8 2 rfl rfl ?_
  refine g_iconst (v := 0) C 9 rfl rfl ?_
  refine g_iload_n C 10 1 rfl rfl ?_
  refine g_iload_n C 11 0 rfl rfl ?_
  refine g_callVi C 12 [.int 0, .int v3, .int 255] [] rfl (M_X4_mostSeated hZ 0 v3 255) cnX4_28 cwX4_mostSeated ciX4_mostSeated (hZ.at (i := 31) rfl) rfl rfl rfl rfl (Nat.le_of_ble_eq_true rfl) ⟨Nat.le_of_ble_eq_true rfl, Nat.le_of_ble_eq_true rfl⟩ h (fun r4 s5 h => ?_)
  refine g_istore C 13 [(4, .int r4), (3, .int 255), (2, .int v3), (0, .ref (ad 31)), (1, .ref (ad l1))] rfl (by decide) rfl ?_
  refine g_iload C 14 0 rfl rfl ?_
  refine g_istore C 15 [(5, .int r4), (4, .int r4), (3, .int 255), (2, .int v3), (0, .ref (ad 31)), (1, .ref (ad l1))] rfl (by decide) rfl ?_
  refine g_iconst (v := 0) C 16 rfl rfl ?_
  refine g_istore C 17 [(6, .int 0), (5, .int r4), (4, .int r4), (3, .int 255), (2, .int v3), (0, .ref (ad 31)), (1, .ref (ad l1))] rfl (by decide) rfl ?_
  refine g_sub C [5, 4, 3, 2, 1, 0] [(0, .ref (ad 31)), (2, .int v3), (3, .int 255), (4, .int r4), (5, .int r4), (6, .int 0)] rfl ?_
  exact C_F_X4_seatAll_L30 C hZ _ _ _ _ _ _ _ h
def T_X0_reachedNext : List (Nat × Instr × Nat) := [(0, .iload_n 1, 1), (1, .istore_n 2, 1), (2, .iconst 0, 1), (3, .istore_n 3, 1), (4, .iload_n 3, 1), (5, .bipush 8, 2), (7, .if_icmp .ge 52, 3), (10, .iconst 0, 1), (11, .istore 4, 2), (13, .iload 4, 2), (15, .bipush 8, 2), (17, .if_icmp .ge 36, 3), (20, .iload_n 1, 1), (21, .iload_n 3, 1), (22, .ishr, 1), (23, .iconst 1, 1), (24, .iand, 1), (25, .iconst 1, 1), (26, .if_icmp .ne 21, 3), (29, .aload_n 0, 1), (30, .iload_n 3, 1), (31, .iload 4, 2), (33, .invokevirtual 91, 3), (36, .iconst 2, 1), (37, .if_icmp .ne 10, 3), (40, .iload_n 2, 1), (41, .iconst 1, 1), (42, .iload 4, 2), (44, .ishl, 1), (45, .ior, 1), (46, .istore_n 2, 1), (47, .iinc 4 1, 3), (50, .goto (-37), 3), (53, .iinc 3 1, 3), (56, .goto (-52), 3), (59, .iload_n 2, 1), (60, .ireturn, 1)]
theorem T_X0_reachedNext_ok : gTb cX0_reachedNext T_X0_reachedNext = true := by decide +kernel
def F_X0_reachedNext_L13 (Z : List gH) (k4 : Int32 → Int32 → gS → Option (Int32 × gS)) (l0 : Nat) (l1 : Int32) : Nat → Int32 → Int32 → Int32 → gS → Option (Int32 × gS)
  | 0, _, _, _, _ => none
  | n + 1, l2, l3, l4, σ => if 8 ≤ l4 then k4 l2 (l3 + 1) σ else if ((l1 >>> (l3 &&& 31)) &&& 1) = 1 then mCall (F_X0_doorBetween Z l0 l3 l4 σ) (fun r1 s2 => if r1 = 2 then mLet ((l2 ||| (1 <<< (l4 &&& 31)))) (fun v3 => F_X0_reachedNext_L13 Z k4 l0 l1 n v3 l3 (l4 + 1) s2) else F_X0_reachedNext_L13 Z k4 l0 l1 n l2 l3 (l4 + 1) s2) else F_X0_reachedNext_L13 Z k4 l0 l1 n l2 l3 (l4 + 1) σ
def F_X0_reachedNext_L4 (Z : List gH) (l0 : Nat) (l1 : Int32) : Nat → Int32 → Int32 → gS → Option (Int32 × gS)
  | 0, _, _, _ => none
  | n + 1, l2, l3, σ => if 8 ≤ l3 then some (l2, σ) else F_X0_reachedNext_L13 Z (F_X0_reachedNext_L4 Z l0 l1 n) l0 l1 mFuel l2 l3 0 σ
def F_X0_reachedNext (Z : List gH) (l0 : Nat) (l1 : Int32) (σ : gS) : Option (Int32 × gS) := F_X0_reachedNext_L4 Z l0 l1 mFuel l1 0 σ
set_option maxRecDepth 20000 in
set_option maxHeartbeats 4000000 in
theorem C_F_X0_reachedNext_L13 {g : Nat → List (Nat × Value) → List Value → gS → Prop} {Z : List gH} {ad : Nat → Nat} {z : Int32 × gS}  (C : gOk g T_X0_reachedNext RX0 5 (some .int) 2 Z ad z) (hZ : Lay Z) {k4 : Int32 → Int32 → gS → Option (Int32 × gS)} (l0 : Nat) (hl0 : HB l0) (l1 : Int32) (hk4 : ∀ (l2 : Int32) (l3 : Int32) (σ : gS), k4 l2 l3 σ = some z → g 4 [(0, .ref (ad l0)), (1, .int l1), (2, .int l2), (3, .int l3)] [] σ) : ∀ (n : Nat) (l2 : Int32) (l3 : Int32) (l4 : Int32) (σ : gS), F_X0_reachedNext_L13 Z k4 l0 l1 n l2 l3 l4 σ = some z → g 13 [(0, .ref (ad l0)), (1, .int l1), (2, .int l2), (3, .int l3), (4, .int l4)] [] σ := by
  intro n
  induction n with
  | zero => intro l2 l3 l4 σ h; cases h
  | succ n ih =>
    intro l2 l3 l4 σ h
    rw [F_X0_reachedNext_L13] at h
    refine g_iload C 9 4 rfl rfl ?_
    refine g_bipush (v := 8) C 10 rfl rfl ?_
    refine g_icmp_ge C 11 53 rfl rfl h (fun h => ?_) (fun h => ?_)
    · refine g_iinc C 33 3 (l3 + 1) [(3, .int (l3 + 1)), (0, .ref (ad l0)), (1, .int l1), (2, .int l2), (4, .int l4)] rfl rfl (by decide) rfl rfl ?_
      refine g_goto C 34 4 rfl rfl ?_
      refine g_sub C [1, 2, 3, 0] [(0, .ref (ad l0)), (1, .int l1), (2, .int l2), (3, .int (l3 + 1))] rfl ?_
      exact hk4 _ _ _ h
    · refine g_iload_n C 12 1 rfl rfl ?_
      refine g_iload_n C 13 3 rfl rfl ?_
      refine g_ishr C 14 rfl ?_
      refine g_iconst (v := 1) C 15 rfl rfl ?_
      refine g_iand C 16 rfl ?_
      refine g_iconst (v := 1) C 17 rfl rfl ?_
      refine g_icmp_ne C 18 47 rfl rfl h (fun h => ?_) (fun h => ?_)
      · refine g_iinc C 31 4 (l4 + 1) [(4, .int (l4 + 1)), (0, .ref (ad l0)), (1, .int l1), (2, .int l2), (3, .int l3)] rfl rfl (by decide) rfl rfl ?_
        refine g_goto C 32 13 rfl rfl ?_
        refine g_sub C [1, 2, 3, 4, 0] [(0, .ref (ad l0)), (1, .int l1), (2, .int l2), (3, .int l3), (4, .int (l4 + 1))] rfl ?_
        exact ih _ _ _ _ h
      · refine g_aload_n C 19 0 rfl rfl ?_
        refine g_iload_n C 20 3 rfl rfl ?_
        refine g_iload C 21 4 rfl rfl ?_
        refine g_callVi C 22 [.int l3, .int l4] [] rfl (M_X0_doorBetween hZ l0 hl0 l3 l4) cnX0_91 cwX0_doorBetween ciX0_doorBetween (hb_obj hZ hl0) rfl rfl rfl rfl (Nat.le_of_ble_eq_true rfl) ⟨Nat.le_of_ble_eq_true rfl, Nat.le_of_ble_eq_true rfl⟩ h (fun r1 s2 h => ?_)
        refine g_iconst (v := 2) C 23 rfl rfl ?_
        refine g_icmp_ne C 24 47 rfl rfl h (fun h => ?_) (fun h => ?_)
        · refine g_iinc C 31 4 (l4 + 1) [(4, .int (l4 + 1)), (0, .ref (ad l0)), (1, .int l1), (2, .int l2), (3, .int l3)] rfl rfl (by decide) rfl rfl ?_
          refine g_goto C 32 13 rfl rfl ?_
          refine g_sub C [1, 2, 3, 4, 0] [(0, .ref (ad l0)), (1, .int l1), (2, .int l2), (3, .int l3), (4, .int (l4 + 1))] rfl ?_
          exact ih _ _ _ _ h
        · refine g_iload_n C 25 2 rfl rfl ?_
          refine g_iconst (v := 1) C 26 rfl rfl ?_
          refine g_iload C 27 4 rfl rfl ?_
          refine g_ishl C 28 rfl ?_
          refine g_ior C 29 rfl ?_
          refine g_let h (fun v3 h => ?_)
          refine g_istore_n C 30 [(2, .int v3), (0, .ref (ad l0)), (1, .int l1), (3, .int l3), (4, .int l4)] rfl (by decide) rfl ?_
          refine g_iinc C 31 4 (l4 + 1) [(4, .int (l4 + 1)), (2, .int v3), (0, .ref (ad l0)), (1, .int l1), (3, .int l3)] rfl rfl (by decide) rfl rfl ?_
          refine g_goto C 32 13 rfl rfl ?_
          refine g_sub C [2, 3, 1, 4, 0] [(0, .ref (ad l0)), (1, .int l1), (2, .int v3), (3, .int l3), (4, .int (l4 + 1))] rfl ?_
          exact ih _ _ _ _ h
set_option maxRecDepth 20000 in
set_option maxHeartbeats 4000000 in
theorem C_F_X0_reachedNext_L4 {g : Nat → List (Nat × Value) → List Value → gS → Prop} {Z : List gH} {ad : Nat → Nat} {z : Int32 × gS}  (C : gOk g T_X0_reachedNext RX0 5 (some .int) 2 Z ad z) (hZ : Lay Z) (l0 : Nat) (hl0 : HB l0) (l1 : Int32) : ∀ (n : Nat) (l2 : Int32) (l3 : Int32) (σ : gS), F_X0_reachedNext_L4 Z l0 l1 n l2 l3 σ = some z → g 4 [(0, .ref (ad l0)), (1, .int l1), (2, .int l2), (3, .int l3)] [] σ := by
  intro n
  induction n with
  | zero => intro l2 l3 σ h; cases h
  | succ n ih =>
    intro l2 l3 σ h
    rw [F_X0_reachedNext_L4] at h
    refine g_iload_n C 4 3 rfl rfl ?_
    refine g_bipush (v := 8) C 5 rfl rfl ?_
    refine g_icmp_ge C 6 59 rfl rfl h (fun h => ?_) (fun h => ?_)
    · refine g_iload_n C 35 2 rfl rfl ?_
      exact g_ireturn C 36 rfl h
    · refine g_iconst (v := 0) C 7 rfl rfl ?_
      refine g_istore C 8 [(4, .int 0), (0, .ref (ad l0)), (1, .int l1), (2, .int l2), (3, .int l3)] rfl (by decide) rfl ?_
      refine g_sub C [1, 2, 3, 4, 0] [(0, .ref (ad l0)), (1, .int l1), (2, .int l2), (3, .int l3), (4, .int 0)] rfl ?_
      exact C_F_X0_reachedNext_L13 C hZ _ hl0 _ ih _ _ _ _ _ h
set_option maxRecDepth 20000 in
set_option maxHeartbeats 4000000 in
theorem M_X0_reachedNext {Z : List gH} (hZ : Lay Z) (l0 : Nat) (hl0 : HB l0) (l1 : Int32) : gMet yX0_reachedNext cX0_reachedNext 5 (some .int) 2 Z (fun ad => [.ref (ad l0), .int l1]) (F_X0_reachedNext Z l0 l1) := by
  refine gMet_intro T_X0_reachedNext T_X0_reachedNext_ok rfl (fun _ => Nat.le_of_ble_eq_true rfl) (fun g ad σ z C h => ?_)
  show g 0 [(0, .ref (ad l0)), (1, .int l1)] [] σ
  rw [F_X0_reachedNext] at h
  refine g_iload_n C 0 1 rfl rfl ?_
  refine g_istore_n C 1 [(2, .int l1), (0, .ref (ad l0)), (1, .int l1)] rfl (by decide) rfl ?_
  refine g_iconst (v := 0) C 2 rfl rfl ?_
  refine g_istore_n C 3 [(3, .int 0), (2, .int l1), (0, .ref (ad l0)), (1, .int l1)] rfl (by decide) rfl ?_
  refine g_sub C [2, 3, 1, 0] [(0, .ref (ad l0)), (1, .int l1), (2, .int l1), (3, .int 0)] rfl ?_
  exact C_F_X0_reachedNext_L4 C hZ _ hl0 _ _ _ _ _ h
def T_X0_spreadHeat : List (Nat × Instr × Nat) := [(0, .iconst 0, 1), (1, .istore_n 1, 1), (2, .iload_n 1, 1), (3, .bipush 8, 2), (5, .if_icmp .ge 76, 3), (8, .iload_n 1, 1), (9, .iconst 1, 1), (10, .iadd, 1), (11, .istore_n 2, 1), (12, .iload_n 2, 1), (13, .bipush 8, 2), (15, .if_icmp .ge 60, 3), (18, .aload_n 0, 1), (19, .getfield 31, 3), (22, .iload_n 1, 1), (23, .bipush 8, 2), (25, .imul, 1), (26, .iload_n 2, 1), (27, .iadd, 1), (28, .iaload, 1), (29, .iconst 2, 1), (30, .if_icmp .ne 39, 3), (33, .aload_n 0, 1), (34, .getfield 28, 3), (37, .iload_n 1, 1), (38, .iaload, 1), (39, .aload_n 0, 1), (40, .getfield 28, 3), (43, .iload_n 2, 1), (44, .iaload, 1), (45, .isub, 1), (46, .iconst 4, 1), (47, .idiv, 1), (48, .istore_n 3, 1), (49, .aload_n 0, 1), (50, .getfield 28, 3), (53, .iload_n 1, 1), (54, .dup2, 1), (55, .iaload, 1), (56, .iload_n 3, 1), (57, .isub, 1), (58, .iastore, 1), (59, .aload_n 0, 1), (60, .getfield 28, 3), (63, .iload_n 2, 1), (64, .dup2, 1), (65, .iaload, 1), (66, .iload_n 3, 1), (67, .iadd, 1), (68, .iastore, 1), (69, .iinc 2 1, 3), (72, .goto (-60), 3), (75, .iinc 1 1, 3), (78, .goto (-76), 3), (81, .return_, 1)]
theorem T_X0_spreadHeat_ok : gTb cX0_spreadHeat T_X0_spreadHeat = true := by decide +kernel
def F_X0_spreadHeat_L12 (Z : List gH) (k2 : Int32 → gS → Option (Int32 × gS)) (l0 : Nat) : Nat → Int32 → Int32 → gS → Option (Int32 × gS)
  | 0, _, _, _ => none
  | n + 1, l1, l2, σ => if 8 ≤ l2 then k2 (l1 + 1) σ else mIn 64 ((l1 * 8) + l2) (if (σ (l0 + 6) (nn ((l1 * 8) + l2))) = 2 then mIn 8 l1 (mIn 8 l2 (mLet ((((σ (l0 + 5) (nn l1)) - (σ (l0 + 5) (nn l2))) / 4)) (fun v1 => mIn 8 l1 (mIn 8 l1 (mLet (gu σ (l0 + 5) (nn l1) ((σ (l0 + 5) (nn l1)) - v1)) (fun s2 => mIn 8 l2 (mIn 8 l2 (mLet (gu s2 (l0 + 5) (nn l2) ((s2 (l0 + 5) (nn l2)) + v1)) (fun s3 => F_X0_spreadHeat_L12 Z k2 l0 n l1 (l2 + 1) s3))))))))) else F_X0_spreadHeat_L12 Z k2 l0 n l1 (l2 + 1) σ)
def F_X0_spreadHeat_L2 (Z : List gH) (l0 : Nat) : Nat → Int32 → gS → Option (Int32 × gS)
  | 0, _, _ => none
  | n + 1, l1, σ => if 8 ≤ l1 then some (0, σ) else mLet ((l1 + 1)) (fun v1 => F_X0_spreadHeat_L12 Z (F_X0_spreadHeat_L2 Z l0 n) l0 mFuel l1 v1 σ)
def F_X0_spreadHeat (Z : List gH) (l0 : Nat) (σ : gS) : Option (Int32 × gS) := F_X0_spreadHeat_L2 Z l0 mFuel 0 σ
set_option maxRecDepth 20000 in
set_option maxHeartbeats 4000000 in
theorem C_F_X0_spreadHeat_L12 {g : Nat → List (Nat × Value) → List Value → gS → Prop} {Z : List gH} {ad : Nat → Nat} {z : Int32 × gS}  (C : gOk g T_X0_spreadHeat RX0 4 none 1 Z ad z) (hZ : Lay Z) {k2 : Int32 → gS → Option (Int32 × gS)} (l0 : Nat) (hl0 : HB l0) (hk2 : ∀ (l1 : Int32) (σ : gS), k2 l1 σ = some z → g 2 [(0, .ref (ad l0)), (1, .int l1)] [] σ) : ∀ (n : Nat) (l1 : Int32) (l2 : Int32) (σ : gS), F_X0_spreadHeat_L12 Z k2 l0 n l1 l2 σ = some z → g 12 [(0, .ref (ad l0)), (1, .int l1), (2, .int l2)] [] σ := by
  intro n
  induction n with
  | zero => intro l1 l2 σ h; cases h
  | succ n ih =>
    intro l1 l2 σ h
    rw [F_X0_spreadHeat_L12] at h
    refine g_iload_n C 9 2 rfl rfl ?_
    refine g_bipush (v := 8) C 10 rfl rfl ?_
    refine g_icmp_ge C 11 75 rfl rfl h (fun h => ?_) (fun h => ?_)
    · refine g_iinc C 52 1 (l1 + 1) [(1, .int (l1 + 1)), (0, .ref (ad l0)), (2, .int l2)] rfl rfl (by decide) rfl rfl ?_
      refine g_goto C 53 2 rfl rfl ?_
      refine g_sub C [1, 0] [(0, .ref (ad l0)), (1, .int (l1 + 1))] rfl ?_
      exact hk2 _ _ h
    · refine g_aload_n C 12 0 rfl rfl ?_
      refine g_getr (b := (l0 + 6)) C 13 rfl flX0_31 (hb_obj hZ hl0) rfl ?_
      refine g_iload_n C 14 1 rfl rfl ?_
      refine g_bipush (v := 8) C 15 rfl rfl ?_
      refine g_imul C 16 rfl ?_
      refine g_iload_n C 17 2 rfl rfl ?_
      refine g_iadd C 18 rfl ?_
      refine g_iald C 19 rfl (hb_doors hZ hl0) h (fun h => ?_)
      refine g_iconst (v := 2) C 20 rfl rfl ?_
      refine g_icmp_ne C 21 69 rfl rfl h (fun h => ?_) (fun h => ?_)
      · refine g_iinc C 50 2 (l2 + 1) [(2, .int (l2 + 1)), (0, .ref (ad l0)), (1, .int l1)] rfl rfl (by decide) rfl rfl ?_
        refine g_goto C 51 12 rfl rfl ?_
        refine g_sub C [1, 2, 0] [(0, .ref (ad l0)), (1, .int l1), (2, .int (l2 + 1))] rfl ?_
        exact ih _ _ _ h
      · refine g_aload_n C 22 0 rfl rfl ?_
        refine g_getr (b := (l0 + 5)) C 23 rfl flX0_28 (hb_obj hZ hl0) rfl ?_
        refine g_iload_n C 24 1 rfl rfl ?_
        refine g_iald C 25 rfl (hb_heats hZ hl0) h (fun h => ?_)
        refine g_aload_n C 26 0 rfl rfl ?_
        refine g_getr (b := (l0 + 5)) C 27 rfl flX0_28 (hb_obj hZ hl0) rfl ?_
        refine g_iload_n C 28 2 rfl rfl ?_
        refine g_iald C 29 rfl (hb_heats hZ hl0) h (fun h => ?_)
        refine g_isub C 30 rfl ?_
        refine g_iconst (v := 4) C 31 rfl rfl ?_
        refine g_idivK C 32 rfl (by decide) ?_
        refine g_let h (fun v1 h => ?_)
        refine g_istore_n C 33 [(3, .int v1), (0, .ref (ad l0)), (1, .int l1), (2, .int l2)] rfl (by decide) rfl ?_
        refine g_aload_n C 34 1 rfl rfl ?_
        refine g_getr (b := (l0 + 5)) C 35 rfl flX0_28 (hb_obj hZ hl0) rfl ?_
        refine g_iload_n C 36 2 rfl rfl ?_
        refine g_dup2 C 37 rfl rfl rfl ?_
        refine g_iald C 38 rfl (hb_heats hZ hl0) h (fun h => ?_)
        refine g_iload_n C 39 0 rfl rfl ?_
        refine g_isub C 40 rfl ?_
        refine g_iast C 41 rfl (hb_heats hZ hl0) h (fun s2 h => ?_)
        refine g_aload_n C 42 1 rfl rfl ?_
        refine g_getr (b := (l0 + 5)) C 43 rfl flX0_28 (hb_obj hZ hl0) rfl ?_
        refine g_iload_n C 44 3 rfl rfl ?_
        refine g_dup2 C 45 rfl rfl rfl ?_
        refine g_iald C 46 rfl (hb_heats hZ hl0) h (fun h => ?_)
        refine g_iload_n C 47 0 rfl rfl ?_
        refine g_iadd C 48 rfl ?_
        refine g_iast C 49 rfl (hb_heats hZ hl0) h (fun s3 h => ?_)
        refine g_iinc C 50 3 (l2 + 1) [(2, .int (l2 + 1)), (3, .int v1), (0, .ref (ad l0)), (1, .int l1)] rfl rfl (by decide) rfl rfl ?_
        refine g_goto C 51 12 rfl rfl ?_
        refine g_sub C [2, 3, 0] [(0, .ref (ad l0)), (1, .int l1), (2, .int (l2 + 1))] rfl ?_
        exact ih _ _ _ h
set_option maxRecDepth 20000 in
set_option maxHeartbeats 4000000 in
theorem C_F_X0_spreadHeat_L2 {g : Nat → List (Nat × Value) → List Value → gS → Prop} {Z : List gH} {ad : Nat → Nat} {z : Int32 × gS}  (C : gOk g T_X0_spreadHeat RX0 4 none 1 Z ad z) (hZ : Lay Z) (l0 : Nat) (hl0 : HB l0) : ∀ (n : Nat) (l1 : Int32) (σ : gS), F_X0_spreadHeat_L2 Z l0 n l1 σ = some z → g 2 [(0, .ref (ad l0)), (1, .int l1)] [] σ := by
  intro n
  induction n with
  | zero => intro l1 σ h; cases h
  | succ n ih =>
    intro l1 σ h
    rw [F_X0_spreadHeat_L2] at h
    refine g_iload_n C 2 1 rfl rfl ?_
    refine g_bipush (v := 8) C 3 rfl rfl ?_
    refine g_icmp_ge C 4 81 rfl rfl h (fun h => ?_) (fun h => ?_)
    · exact g_return C 54 rfl h
    · refine g_iload_n C 5 1 rfl rfl ?_
      refine g_iconst (v := 1) C 6 rfl rfl ?_
      refine g_iadd C 7 rfl ?_
      refine g_let h (fun v1 h => ?_)
      refine g_istore_n C 8 [(2, .int v1), (0, .ref (ad l0)), (1, .int l1)] rfl (by decide) rfl ?_
      refine g_sub C [1, 2, 0] [(0, .ref (ad l0)), (1, .int l1), (2, .int v1)] rfl ?_
      exact C_F_X0_spreadHeat_L12 C hZ _ hl0 ih _ _ _ _ h
set_option maxRecDepth 20000 in
set_option maxHeartbeats 4000000 in
theorem M_X0_spreadHeat {Z : List gH} (hZ : Lay Z) (l0 : Nat) (hl0 : HB l0) : gMet yX0_spreadHeat cX0_spreadHeat 4 none 1 Z (fun ad => [.ref (ad l0)]) (F_X0_spreadHeat Z l0) := by
  refine gMet_intro T_X0_spreadHeat T_X0_spreadHeat_ok rfl (fun _ => Nat.le_of_ble_eq_true rfl) (fun g ad σ z C h => ?_)
  show g 0 [(0, .ref (ad l0))] [] σ
  rw [F_X0_spreadHeat] at h
  refine g_iconst (v := 0) C 0 rfl rfl ?_
  refine g_istore_n C 1 [(1, .int 0), (0, .ref (ad l0))] rfl (by decide) rfl ?_
  refine g_sub C [1, 0] [(0, .ref (ad l0)), (1, .int 0)] rfl ?_
  exact C_F_X0_spreadHeat_L2 C hZ _ hl0 _ _ _ h
def T_X0_burnThings : List (Nat × Instr × Nat) := [(0, .iconst 0, 1), (1, .istore_n 1, 1), (2, .iload_n 1, 1), (3, .aload_n 0, 1), (4, .getfield 62, 3), (7, .if_icmp .ge 115, 3), (10, .aload_n 0, 1), (11, .getfield 25, 3), (14, .iload_n 1, 1), (15, .iaload, 1), (16, .iconst 1, 1), (17, .if_icmp .ne 99, 3), (20, .aload_n 0, 1), (21, .getfield 22, 3), (24, .iload_n 1, 1), (25, .iaload, 1), (26, .aload_n 0, 1), (27, .iload_n 1, 1), (28, .invokevirtual 123, 3), (31, .invokestatic 127, 3), (34, .istore_n 2, 1), (35, .aload_n 0, 1), (36, .getfield 19, 3), (39, .iload_n 1, 1), (40, .iaload, 1), (41, .istore_n 3, 1), (42, .aload_n 0, 1), (43, .getfield 22, 3), (46, .iload_n 1, 1), (47, .dup2, 1), (48, .iaload, 1), (49, .iload_n 2, 1), (50, .isub, 1), (51, .iastore, 1), (52, .aload_n 0, 1), (53, .dup, 1), (54, .getfield 71, 3), (57, .iload_n 2, 1), (58, .iadd, 1), (59, .putfield 71, 3), (62, .aload_n 0, 1), (63, .getfield 28, 3), (66, .iload_n 3, 1), (67, .bipush 99, 2), (69, .aload_n 0, 1), (70, .getfield 28, 3), (73, .iload_n 3, 1), (74, .iaload, 1), (75, .aload_n 0, 1), (76, .getfield 15, 3), (79, .iload_n 1, 1), (80, .iaload, 1), (81, .iload_n 2, 1), (82, .invokestatic 132, 3), (85, .iadd, 1), (86, .invokestatic 127, 3), (89, .iastore, 1), (90, .aload_n 0, 1), (91, .getfield 22, 3), (94, .iload_n 1, 1), (95, .iaload, 1), (96, .ifCond .ne 20, 3), (99, .aload_n 0, 1), (100, .getfield 25, 3), (103, .iload_n 1, 1), (104, .iconst 0, 1), (105, .iastore, 1), (106, .aload_n 0, 1), (107, .dup, 1), (108, .getfield 74, 3), (111, .iconst 1, 1), (112, .iadd, 1), (113, .putfield 74, 3), (116, .iinc 1 1, 3), (119, .goto (-117), 3), (122, .return_, 1)]
theorem T_X0_burnThings_ok : gTb cX0_burnThings T_X0_burnThings = true := by decide +kernel
def F_X0_burnThings_L2 (Z : List gH) (l0 : Nat) : Nat → Int32 → gS → Option (Int32 × gS)
  | 0, _, _ => none
  | n + 1, l1, σ => if (σ l0 9) ≤ l1 then some (0, σ) else mIn 12 l1 (if (σ (l0 + 4) (nn l1)) = 1 then mIn 12 l1 (mCall (F_X0_burnsOf Z l0 l1 σ) (fun r1 s2 => mLet ((mMin (σ (l0 + 3) (nn l1)) r1)) (fun v3 => mIn 12 l1 (mLet ((s2 (l0 + 2) (nn l1))) (fun v4 => mIn 12 l1 (mIn 12 l1 (mLet (gu s2 (l0 + 3) (nn l1) ((s2 (l0 + 3) (nn l1)) - v3)) (fun s5 => mLet (gu s5 l0 14 ((s5 l0 14) + v3)) (fun s6 => mIn 8 v4 (mIn 12 l1 (mCall (F_X1_gives Z (s6 (l0 + 1) (nn l1)) v3 s6) (fun r7 s8 => mIn 8 v4 (mLet (gu s8 (l0 + 5) (nn v4) (mMin 99 ((s6 (l0 + 5) (nn v4)) + r7))) (fun s9 => mIn 12 l1 (if (s9 (l0 + 3) (nn l1)) = 0 then mIn 12 l1 (mLet (gu s9 (l0 + 4) (nn l1) 0) (fun s10 => mLet (gu s10 l0 15 ((s10 l0 15) + 1)) (fun s11 => F_X0_burnThings_L2 Z l0 n (l1 + 1) s11))) else F_X0_burnThings_L2 Z l0 n (l1 + 1) s9))))))))))))))) else F_X0_burnThings_L2 Z l0 n (l1 + 1) σ)
def F_X0_burnThings (Z : List gH) (l0 : Nat) (σ : gS) : Option (Int32 × gS) := F_X0_burnThings_L2 Z l0 mFuel 0 σ
set_option maxRecDepth 20000 in
set_option maxHeartbeats 4000000 in
theorem C_F_X0_burnThings_L2 {g : Nat → List (Nat × Value) → List Value → gS → Prop} {Z : List gH} {ad : Nat → Nat} {z : Int32 × gS}  (C : gOk g T_X0_burnThings RX0 4 none 5 Z ad z) (hZ : Lay Z) (l0 : Nat) (hl0 : HB l0) : ∀ (n : Nat) (l1 : Int32) (σ : gS), F_X0_burnThings_L2 Z l0 n l1 σ = some z → g 2 [(0, .ref (ad l0)), (1, .int l1)] [] σ := by
  intro n
  induction n with
  | zero => intro l1 σ h; cases h
  | succ n ih =>
    intro l1 σ h
    rw [F_X0_burnThings_L2] at h
    refine g_iload_n C 2 1 rfl rfl ?_
    refine g_aload_n C 3 0 rfl rfl ?_
    refine g_geti C 4 rfl flX0_62 (hb_obj hZ hl0) rfl ?_
    refine g_icmp_ge C 5 122 rfl rfl h (fun h => ?_) (fun h => ?_)
    · exact g_return C 75 rfl h
    · refine g_aload_n C 6 0 rfl rfl ?_
      refine g_getr (b := (l0 + 4)) C 7 rfl flX0_25 (hb_obj hZ hl0) rfl ?_
      refine g_iload_n C 8 1 rfl rfl ?_
      refine g_iald C 9 rfl (hb_lits hZ hl0) h (fun h => ?_)
      refine g_iconst (v := 1) C 10 rfl rfl ?_
      refine g_icmp_ne C 11 116 rfl rfl h (fun h => ?_) (fun h => ?_)
      · refine g_iinc C 73 1 (l1 + 1) [(1, .int (l1 + 1)), (0, .ref (ad l0))] rfl rfl (by decide) rfl rfl ?_
        refine g_goto C 74 2 rfl rfl ?_
        refine g_sub C [1, 0] [(0, .ref (ad l0)), (1, .int (l1 + 1))] rfl ?_
        exact ih _ _ h
      · refine g_aload_n C 12 0 rfl rfl ?_
        refine g_getr (b := (l0 + 3)) C 13 rfl flX0_22 (hb_obj hZ hl0) rfl ?_
        refine g_iload_n C 14 1 rfl rfl ?_
        refine g_iald C 15 rfl (hb_fuels hZ hl0) h (fun h => ?_)
        refine g_aload_n C 16 0 rfl rfl ?_
        refine g_iload_n C 17 1 rfl rfl ?_
        refine g_callVi C 18 [.int l1] [.int (σ (l0 + 3) (nn l1))] rfl (M_X0_burnsOf hZ l0 hl0 l1) cnX0_123 cwX0_burnsOf ciX0_burnsOf (hb_obj hZ hl0) rfl rfl rfl rfl (Nat.le_of_ble_eq_true rfl) ⟨Nat.le_of_ble_eq_true rfl, Nat.le_of_ble_eq_true rfl⟩ h (fun r1 s2 h => ?_)
        refine g_mmin C 19 rfl cnX0_127 wm_min ⟨Nat.le_of_ble_eq_true rfl, Nat.le_of_ble_eq_true rfl⟩ ?_
        refine g_let h (fun v3 h => ?_)
        refine g_istore_n C 20 [(2, .int v3), (0, .ref (ad l0)), (1, .int l1)] rfl (by decide) rfl ?_
        refine g_aload_n C 21 1 rfl rfl ?_
        refine g_getr (b := (l0 + 2)) C 22 rfl flX0_19 (hb_obj hZ hl0) rfl ?_
        refine g_iload_n C 23 2 rfl rfl ?_
        refine g_iald C 24 rfl (hb_rooms hZ hl0) h (fun h => ?_)
        refine g_let h (fun v4 h => ?_)
        refine g_istore_n C 25 [(3, .int v4), (2, .int v3), (0, .ref (ad l0)), (1, .int l1)] rfl (by decide) rfl ?_
        refine g_aload_n C 26 2 rfl rfl ?_
        refine g_getr (b := (l0 + 3)) C 27 rfl flX0_22 (hb_obj hZ hl0) rfl ?_
        refine g_iload_n C 28 3 rfl rfl ?_
        refine g_dup2 C 29 rfl rfl rfl ?_
        refine g_iald C 30 rfl (hb_fuels hZ hl0) h (fun h => ?_)
        refine g_iload_n C 31 1 rfl rfl ?_
        refine g_isub C 32 rfl ?_
        refine g_iast C 33 rfl (hb_fuels hZ hl0) h (fun s5 h => ?_)
        refine g_aload_n C 34 2 rfl rfl ?_
        refine g_dup C 35 rfl rfl ?_
        refine g_geti C 36 rfl flX0_71 (hb_obj hZ hl0) rfl ?_
        refine g_iload_n C 37 1 rfl rfl ?_
        refine g_iadd C 38 rfl ?_
        refine g_put C 39 rfl fpX0_71 (hb_obj hZ hl0) rfl rfl rfl h (fun s6 h => ?_)
        refine g_aload_n C 40 2 rfl rfl ?_
        refine g_getr (b := (l0 + 5)) C 41 rfl flX0_28 (hb_obj hZ hl0) rfl ?_
        refine g_iload_n C 42 0 rfl rfl ?_
        refine g_bipush (v := 99) C 43 rfl rfl ?_
        refine g_aload_n C 44 2 rfl rfl ?_
        refine g_getr (b := (l0 + 5)) C 45 rfl flX0_28 (hb_obj hZ hl0) rfl ?_
        refine g_iload_n C 46 0 rfl rfl ?_
        refine g_iald C 47 rfl (hb_heats hZ hl0) h (fun h => ?_)
        refine g_aload_n C 48 2 rfl rfl ?_
        refine g_getr (b := (l0 + 1)) C 49 rfl flX0_15 (hb_obj hZ hl0) rfl ?_
        refine g_iload_n C 50 3 rfl rfl ?_
        refine g_iald C 51 rfl (hb_kinds hZ hl0) h (fun h => ?_)
        refine g_iload_n C 52 1 rfl rfl ?_
        refine g_callSi C 53 [.int (s6 (l0 + 1) (nn l1)), .int v3] [.int (s6 (l0 + 5) (nn v4)), .int 99, .int v4, .ref (ad (l0 + 5))] rfl (M_X1_gives hZ (s6 (l0 + 1) (nn l1)) v3) cnX0_132 cwX1_gives csX1_gives rfl rfl rfl (Nat.le_of_ble_eq_true rfl) ⟨Nat.le_of_ble_eq_true rfl, Nat.le_of_ble_eq_true rfl⟩ h (fun r7 s8 h => ?_)
        refine g_iadd C 54 rfl ?_
        refine g_mmin C 55 rfl cnX0_127 wm_min ⟨Nat.le_of_ble_eq_true rfl, Nat.le_of_ble_eq_true rfl⟩ ?_
        refine g_iast C 56 rfl (hb_heats hZ hl0) h (fun s9 h => ?_)
        refine g_aload_n C 57 2 rfl rfl ?_
        refine g_getr (b := (l0 + 3)) C 58 rfl flX0_22 (hb_obj hZ hl0) rfl ?_
        refine g_iload_n C 59 3 rfl rfl ?_
        refine g_iald C 60 rfl (hb_fuels hZ hl0) h (fun h => ?_)
        refine g_if_ne C 61 116 rfl rfl h (fun h => ?_) (fun h => ?_)
        · refine g_iinc C 73 3 (l1 + 1) [(1, .int (l1 + 1)), (3, .int v4), (2, .int v3), (0, .ref (ad l0))] rfl rfl (by decide) rfl rfl ?_
          refine g_goto C 74 2 rfl rfl ?_
          refine g_sub C [3, 0] [(0, .ref (ad l0)), (1, .int (l1 + 1))] rfl ?_
          exact ih _ _ h
        · refine g_aload_n C 62 2 rfl rfl ?_
          refine g_getr (b := (l0 + 4)) C 63 rfl flX0_25 (hb_obj hZ hl0) rfl ?_
          refine g_iload_n C 64 3 rfl rfl ?_
          refine g_iconst (v := 0) C 65 rfl rfl ?_
          refine g_iast C 66 rfl (hb_lits hZ hl0) h (fun s10 h => ?_)
          refine g_aload_n C 67 2 rfl rfl ?_
          refine g_dup C 68 rfl rfl ?_
          refine g_geti C 69 rfl flX0_74 (hb_obj hZ hl0) rfl ?_
          refine g_iconst (v := 1) C 70 rfl rfl ?_
          refine g_iadd C 71 rfl ?_
          refine g_put C 72 rfl fpX0_74 (hb_obj hZ hl0) rfl rfl rfl h (fun s11 h => ?_)
          refine g_iinc C 73 3 (l1 + 1) [(1, .int (l1 + 1)), (3, .int v4), (2, .int v3), (0, .ref (ad l0))] rfl rfl (by decide) rfl rfl ?_
          refine g_goto C 74 2 rfl rfl ?_
          refine g_sub C [3, 0] [(0, .ref (ad l0)), (1, .int (l1 + 1))] rfl ?_
          exact ih _ _ h
set_option maxRecDepth 20000 in
set_option maxHeartbeats 4000000 in
theorem M_X0_burnThings {Z : List gH} (hZ : Lay Z) (l0 : Nat) (hl0 : HB l0) : gMet yX0_burnThings cX0_burnThings 4 none 5 Z (fun ad => [.ref (ad l0)]) (F_X0_burnThings Z l0) := by
  refine gMet_intro T_X0_burnThings T_X0_burnThings_ok rfl (fun _ => Nat.le_of_ble_eq_true rfl) (fun g ad σ z C h => ?_)
  show g 0 [(0, .ref (ad l0))] [] σ
  rw [F_X0_burnThings] at h
  refine g_iconst (v := 0) C 0 rfl rfl ?_
  refine g_istore_n C 1 [(1, .int 0), (0, .ref (ad l0))] rfl (by decide) rfl ?_
  refine g_sub C [1, 0] [(0, .ref (ad l0)), (1, .int 0)] rfl ?_
  exact C_F_X0_burnThings_L2 C hZ _ hl0 _ _ _ h
def T_X0_lightThings : List (Nat × Instr × Nat) := [(0, .iconst 0, 1), (1, .istore_n 1, 1), (2, .iload_n 1, 1), (3, .aload_n 0, 1), (4, .getfield 62, 3), (7, .if_icmp .ge 57, 3), (10, .aload_n 0, 1), (11, .getfield 25, 3), (14, .iload_n 1, 1), (15, .iaload, 1), (16, .ifCond .ne 42, 3), (19, .aload_n 0, 1), (20, .getfield 22, 3), (23, .iload_n 1, 1), (24, .iaload, 1), (25, .ifCond .le 33, 3), (28, .aload_n 0, 1), (29, .getfield 28, 3), (32, .aload_n 0, 1), (33, .getfield 19, 3), (36, .iload_n 1, 1), (37, .iaload, 1), (38, .iaload, 1), (39, .aload_n 0, 1), (40, .getfield 15, 3), (43, .iload_n 1, 1), (44, .iaload, 1), (45, .invokestatic 138, 3), (48, .if_icmp .lt 10, 3), (51, .aload_n 0, 1), (52, .getfield 25, 3), (55, .iload_n 1, 1), (56, .iconst 1, 1), (57, .iastore, 1), (58, .iinc 1 1, 3), (61, .goto (-59), 3), (64, .return_, 1)]
theorem T_X0_lightThings_ok : gTb cX0_lightThings T_X0_lightThings = true := by decide +kernel
def F_X0_lightThings_L2 (Z : List gH) (l0 : Nat) : Nat → Int32 → gS → Option (Int32 × gS)
  | 0, _, _ => none
  | n + 1, l1, σ => if (σ l0 9) ≤ l1 then some (0, σ) else mIn 12 l1 (if (σ (l0 + 4) (nn l1)) = 0 then mIn 12 l1 (if (σ (l0 + 3) (nn l1)) ≤ 0 then F_X0_lightThings_L2 Z l0 n (l1 + 1) σ else mIn 12 l1 (mIn 8 (σ (l0 + 2) (nn l1)) (mIn 12 l1 (mCall (F_X1_catchesFrom Z (σ (l0 + 1) (nn l1)) σ) (fun r1 s2 => if (σ (l0 + 5) (nn (σ (l0 + 2) (nn l1)))) < r1 then F_X0_lightThings_L2 Z l0 n (l1 + 1) s2 else mIn 12 l1 (mLet (gu s2 (l0 + 4) (nn l1) 1) (fun s3 => F_X0_lightThings_L2 Z l0 n (l1 + 1) s3))))))) else F_X0_lightThings_L2 Z l0 n (l1 + 1) σ)
def F_X0_lightThings (Z : List gH) (l0 : Nat) (σ : gS) : Option (Int32 × gS) := F_X0_lightThings_L2 Z l0 mFuel 0 σ
set_option maxRecDepth 20000 in
set_option maxHeartbeats 4000000 in
theorem C_F_X0_lightThings_L2 {g : Nat → List (Nat × Value) → List Value → gS → Prop} {Z : List gH} {ad : Nat → Nat} {z : Int32 × gS}  (C : gOk g T_X0_lightThings RX0 2 none 2 Z ad z) (hZ : Lay Z) (l0 : Nat) (hl0 : HB l0) : ∀ (n : Nat) (l1 : Int32) (σ : gS), F_X0_lightThings_L2 Z l0 n l1 σ = some z → g 2 [(0, .ref (ad l0)), (1, .int l1)] [] σ := by
  intro n
  induction n with
  | zero => intro l1 σ h; cases h
  | succ n ih =>
    intro l1 σ h
    rw [F_X0_lightThings_L2] at h
    refine g_iload_n C 2 1 rfl rfl ?_
    refine g_aload_n C 3 0 rfl rfl ?_
    refine g_geti C 4 rfl flX0_62 (hb_obj hZ hl0) rfl ?_
    refine g_icmp_ge C 5 64 rfl rfl h (fun h => ?_) (fun h => ?_)
    · exact g_return C 36 rfl h
    · refine g_aload_n C 6 0 rfl rfl ?_
      refine g_getr (b := (l0 + 4)) C 7 rfl flX0_25 (hb_obj hZ hl0) rfl ?_
      refine g_iload_n C 8 1 rfl rfl ?_
      refine g_iald C 9 rfl (hb_lits hZ hl0) h (fun h => ?_)
      refine g_if_ne C 10 58 rfl rfl h (fun h => ?_) (fun h => ?_)
      · refine g_iinc C 34 1 (l1 + 1) [(1, .int (l1 + 1)), (0, .ref (ad l0))] rfl rfl (by decide) rfl rfl ?_
        refine g_goto C 35 2 rfl rfl ?_
        refine g_sub C [1, 0] [(0, .ref (ad l0)), (1, .int (l1 + 1))] rfl ?_
        exact ih _ _ h
      · refine g_aload_n C 11 0 rfl rfl ?_
        refine g_getr (b := (l0 + 3)) C 12 rfl flX0_22 (hb_obj hZ hl0) rfl ?_
        refine g_iload_n C 13 1 rfl rfl ?_
        refine g_iald C 14 rfl (hb_fuels hZ hl0) h (fun h => ?_)
        refine g_if_le C 15 58 rfl rfl h (fun h => ?_) (fun h => ?_)
        · refine g_iinc C 34 1 (l1 + 1) [(1, .int (l1 + 1)), (0, .ref (ad l0))] rfl rfl (by decide) rfl rfl ?_
          refine g_goto C 35 2 rfl rfl ?_
          refine g_sub C [1, 0] [(0, .ref (ad l0)), (1, .int (l1 + 1))] rfl ?_
          exact ih _ _ h
        · refine g_aload_n C 16 0 rfl rfl ?_
          refine g_getr (b := (l0 + 5)) C 17 rfl flX0_28 (hb_obj hZ hl0) rfl ?_
          refine g_aload_n C 18 0 rfl rfl ?_
          refine g_getr (b := (l0 + 2)) C 19 rfl flX0_19 (hb_obj hZ hl0) rfl ?_
          refine g_iload_n C 20 1 rfl rfl ?_
          refine g_iald C 21 rfl (hb_rooms hZ hl0) h (fun h => ?_)
          refine g_iald C 22 rfl (hb_heats hZ hl0) h (fun h => ?_)
          refine g_aload_n C 23 0 rfl rfl ?_
          refine g_getr (b := (l0 + 1)) C 24 rfl flX0_15 (hb_obj hZ hl0) rfl ?_
          refine g_iload_n C 25 1 rfl rfl ?_
          refine g_iald C 26 rfl (hb_kinds hZ hl0) h (fun h => ?_)
          refine g_callSi C 27 [.int (σ (l0 + 1) (nn l1))] [.int (σ (l0 + 5) (nn (σ (l0 + 2) (nn l1))))] rfl (M_X1_catchesFrom hZ (σ (l0 + 1) (nn l1))) cnX0_138 cwX1_catchesFrom csX1_catchesFrom rfl rfl rfl (Nat.le_of_ble_eq_true rfl) ⟨Nat.le_of_ble_eq_true rfl, Nat.le_of_ble_eq_true rfl⟩ h (fun r1 s2 h => ?_)
          refine g_icmp_lt C 28 58 rfl rfl h (fun h => ?_) (fun h => ?_)
          · refine g_iinc C 34 1 (l1 + 1) [(1, .int (l1 + 1)), (0, .ref (ad l0))] rfl rfl (by decide) rfl rfl ?_
            refine g_goto C 35 2 rfl rfl ?_
            refine g_sub C [1, 0] [(0, .ref (ad l0)), (1, .int (l1 + 1))] rfl ?_
            exact ih _ _ h
          · refine g_aload_n C 29 0 rfl rfl ?_
            refine g_getr (b := (l0 + 4)) C 30 rfl flX0_25 (hb_obj hZ hl0) rfl ?_
            refine g_iload_n C 31 1 rfl rfl ?_
            refine g_iconst (v := 1) C 32 rfl rfl ?_
            refine g_iast C 33 rfl (hb_lits hZ hl0) h (fun s3 h => ?_)
            refine g_iinc C 34 1 (l1 + 1) [(1, .int (l1 + 1)), (0, .ref (ad l0))] rfl rfl (by decide) rfl rfl ?_
            refine g_goto C 35 2 rfl rfl ?_
            refine g_sub C [1, 0] [(0, .ref (ad l0)), (1, .int (l1 + 1))] rfl ?_
            exact ih _ _ h
set_option maxRecDepth 20000 in
set_option maxHeartbeats 4000000 in
theorem M_X0_lightThings {Z : List gH} (hZ : Lay Z) (l0 : Nat) (hl0 : HB l0) : gMet yX0_lightThings cX0_lightThings 2 none 2 Z (fun ad => [.ref (ad l0)]) (F_X0_lightThings Z l0) := by
  refine gMet_intro T_X0_lightThings T_X0_lightThings_ok rfl (fun _ => Nat.le_of_ble_eq_true rfl) (fun g ad σ z C h => ?_)
  show g 0 [(0, .ref (ad l0))] [] σ
  rw [F_X0_lightThings] at h
  refine g_iconst (v := 0) C 0 rfl rfl ?_
  refine g_istore_n C 1 [(1, .int 0), (0, .ref (ad l0))] rfl (by decide) rfl ?_
  refine g_sub C [1, 0] [(0, .ref (ad l0)), (1, .int 0)] rfl ?_
  exact C_F_X0_lightThings_L2 C hZ _ hl0 _ _ _ h
def T_X0_coolRooms : List (Nat × Instr × Nat) := [(0, .iconst 0, 1), (1, .istore_n 1, 1), (2, .iload_n 1, 1), (3, .bipush 8, 2), (5, .if_icmp .ge 30, 3), (8, .aload_n 0, 1), (9, .getfield 28, 3), (12, .iload_n 1, 1), (13, .iconst 0, 1), (14, .aload_n 0, 1), (15, .getfield 28, 3), (18, .iload_n 1, 1), (19, .iaload, 1), (20, .aload_n 0, 1), (21, .getfield 50, 3), (24, .isub, 1), (25, .invokestatic 135, 3), (28, .iastore, 1), (29, .iinc 1 1, 3), (32, .goto (-30), 3), (35, .return_, 1)]
theorem T_X0_coolRooms_ok : gTb cX0_coolRooms T_X0_coolRooms = true := by decide +kernel
def F_X0_coolRooms_L2 (Z : List gH) (l0 : Nat) : Nat → Int32 → gS → Option (Int32 × gS)
  | 0, _, _ => none
  | n + 1, l1, σ => if 8 ≤ l1 then some (0, σ) else mIn 8 l1 (mIn 8 l1 (mLet (gu σ (l0 + 5) (nn l1) (mMax 0 ((σ (l0 + 5) (nn l1)) - (σ l0 13)))) (fun s1 => F_X0_coolRooms_L2 Z l0 n (l1 + 1) s1)))
def F_X0_coolRooms (Z : List gH) (l0 : Nat) (σ : gS) : Option (Int32 × gS) := F_X0_coolRooms_L2 Z l0 mFuel 0 σ
set_option maxRecDepth 20000 in
set_option maxHeartbeats 4000000 in
theorem C_F_X0_coolRooms_L2 {g : Nat → List (Nat × Value) → List Value → gS → Prop} {Z : List gH} {ad : Nat → Nat} {z : Int32 × gS}  (C : gOk g T_X0_coolRooms RX0 2 none 2 Z ad z) (hZ : Lay Z) (l0 : Nat) (hl0 : HB l0) : ∀ (n : Nat) (l1 : Int32) (σ : gS), F_X0_coolRooms_L2 Z l0 n l1 σ = some z → g 2 [(0, .ref (ad l0)), (1, .int l1)] [] σ := by
  intro n
  induction n with
  | zero => intro l1 σ h; cases h
  | succ n ih =>
    intro l1 σ h
    rw [F_X0_coolRooms_L2] at h
    refine g_iload_n C 2 1 rfl rfl ?_
    refine g_bipush (v := 8) C 3 rfl rfl ?_
    refine g_icmp_ge C 4 35 rfl rfl h (fun h => ?_) (fun h => ?_)
    · exact g_return C 20 rfl h
    · refine g_aload_n C 5 0 rfl rfl ?_
      refine g_getr (b := (l0 + 5)) C 6 rfl flX0_28 (hb_obj hZ hl0) rfl ?_
      refine g_iload_n C 7 1 rfl rfl ?_
      refine g_iconst (v := 0) C 8 rfl rfl ?_
      refine g_aload_n C 9 0 rfl rfl ?_
      refine g_getr (b := (l0 + 5)) C 10 rfl flX0_28 (hb_obj hZ hl0) rfl ?_
      refine g_iload_n C 11 1 rfl rfl ?_
      refine g_iald C 12 rfl (hb_heats hZ hl0) h (fun h => ?_)
      refine g_aload_n C 13 0 rfl rfl ?_
      refine g_geti C 14 rfl flX0_50 (hb_obj hZ hl0) rfl ?_
      refine g_isub C 15 rfl ?_
      refine g_mmax C 16 rfl cnX0_135 wm_max ⟨Nat.le_of_ble_eq_true rfl, Nat.le_of_ble_eq_true rfl⟩ ?_
      refine g_iast C 17 rfl (hb_heats hZ hl0) h (fun s1 h => ?_)
      refine g_iinc C 18 1 (l1 + 1) [(1, .int (l1 + 1)), (0, .ref (ad l0))] rfl rfl (by decide) rfl rfl ?_
      refine g_goto C 19 2 rfl rfl ?_
      refine g_sub C [1, 0] [(0, .ref (ad l0)), (1, .int (l1 + 1))] rfl ?_
      exact ih _ _ h
set_option maxRecDepth 20000 in
set_option maxHeartbeats 4000000 in
theorem M_X0_coolRooms {Z : List gH} (hZ : Lay Z) (l0 : Nat) (hl0 : HB l0) : gMet yX0_coolRooms cX0_coolRooms 2 none 2 Z (fun ad => [.ref (ad l0)]) (F_X0_coolRooms Z l0) := by
  refine gMet_intro T_X0_coolRooms T_X0_coolRooms_ok rfl (fun _ => Nat.le_of_ble_eq_true rfl) (fun g ad σ z C h => ?_)
  show g 0 [(0, .ref (ad l0))] [] σ
  rw [F_X0_coolRooms] at h
  refine g_iconst (v := 0) C 0 rfl rfl ?_
  refine g_istore_n C 1 [(1, .int 0), (0, .ref (ad l0))] rfl (by decide) rfl ?_
  refine g_sub C [1, 0] [(0, .ref (ad l0)), (1, .int 0)] rfl ?_
  exact C_F_X0_coolRooms_L2 C hZ _ hl0 _ _ _ h
def T_X0_blowWind : List (Nat × Instr × Nat) := [(0, .aload_n 0, 1), (1, .invokevirtual 83, 3), (4, .bipush 100, 2), (6, .irem, 1), (7, .aload_n 0, 1), (8, .getfield 46, 3), (11, .if_icmp .lt 4, 3), (14, .return_, 1), (15, .aload_n 0, 1), (16, .invokevirtual 83, 3), (19, .bipush 8, 2), (21, .irem, 1), (22, .istore_n 1, 1), (23, .aload_n 0, 1), (24, .invokevirtual 83, 3), (27, .bipush 8, 2), (29, .irem, 1), (30, .istore_n 2, 1), (31, .aload_n 0, 1), (32, .iload_n 1, 1), (33, .iload_n 2, 1), (34, .invokevirtual 91, 3), (37, .istore_n 3, 1), (38, .iload_n 1, 1), (39, .iload_n 2, 1), (40, .if_icmp .eq 33, 3), (43, .iload_n 3, 1), (44, .ifCond .eq 29, 3), (47, .aload_n 0, 1), (48, .iload_n 1, 1), (49, .iload_n 2, 1), (50, .iload_n 3, 1), (51, .iconst 1, 1), (52, .if_icmp .ne 7, 3), (55, .iconst 2, 1), (56, .goto 4, 3), (59, .iconst 1, 1), (60, .invokevirtual 141, 3), (63, .aload_n 0, 1), (64, .dup, 1), (65, .getfield 77, 3), (68, .iconst 1, 1), (69, .iadd, 1), (70, .putfield 77, 3), (73, .return_, 1)]
theorem T_X0_blowWind_ok : gTb cX0_blowWind T_X0_blowWind = true := by decide +kernel
def F_X0_blowWind (Z : List gH) (l0 : Nat) (σ : gS) : Option (Int32 × gS) := mCall (F_X0_draw Z l0 σ) (fun r1 s2 => if (mRem r1 100) < (s2 l0 12) then mCall (F_X0_draw Z l0 s2) (fun r3 s4 => mLet ((mRem r3 8)) (fun v5 => mCall (F_X0_draw Z l0 s4) (fun r6 s7 => mLet ((mRem r6 8)) (fun v8 => mCall (F_X0_doorBetween Z l0 v5 v8 s7) (fun r9 s10 => if v5 = v8 then some (0, s10) else if r9 = 0 then some (0, s10) else if r9 = 1 then mCall (F_X0_putDoor Z l0 v5 v8 2 s10) (fun r14 s15 => mLet (gu s15 l0 16 ((s15 l0 16) + 1)) (fun s16 => some (0, s16))) else mCall (F_X0_putDoor Z l0 v5 v8 1 s10) (fun r11 s12 => mLet (gu s12 l0 16 ((s12 l0 16) + 1)) (fun s13 => some (0, s13)))))))) else some (0, s2))
set_option maxRecDepth 20000 in
set_option maxHeartbeats 4000000 in
theorem M_X0_blowWind {Z : List gH} (hZ : Lay Z) (l0 : Nat) (hl0 : HB l0) : gMet yX0_blowWind cX0_blowWind 4 none 2 Z (fun ad => [.ref (ad l0)]) (F_X0_blowWind Z l0) := by
  refine gMet_intro T_X0_blowWind T_X0_blowWind_ok rfl (fun _ => Nat.le_of_ble_eq_true rfl) (fun g ad σ z C h => ?_)
  show g 0 [(0, .ref (ad l0))] [] σ
  rw [F_X0_blowWind] at h
  refine g_aload_n C 0 0 rfl rfl ?_
  refine g_callVi C 1 [] [] rfl (M_X0_draw hZ l0 hl0) cnX0_83 cwX0_draw ciX0_draw (hb_obj hZ hl0) rfl rfl rfl rfl (Nat.le_of_ble_eq_true rfl) ⟨Nat.le_of_ble_eq_true rfl, Nat.le_of_ble_eq_true rfl⟩ h (fun r1 s2 h => ?_)
  refine g_bipush (v := 100) C 2 rfl rfl ?_
  refine g_iremK C 3 rfl (by decide) ?_
  refine g_aload_n C 4 0 rfl rfl ?_
  refine g_geti C 5 rfl flX0_46 (hb_obj hZ hl0) rfl ?_
  refine g_icmp_lt C 6 15 rfl rfl h (fun h => ?_) (fun h => ?_)
  · refine g_aload_n C 8 0 rfl rfl ?_
    refine g_callVi C 9 [] [] rfl (M_X0_draw hZ l0 hl0) cnX0_83 cwX0_draw ciX0_draw (hb_obj hZ hl0) rfl rfl rfl rfl (Nat.le_of_ble_eq_true rfl) ⟨Nat.le_of_ble_eq_true rfl, Nat.le_of_ble_eq_true rfl⟩ h (fun r3 s4 h => ?_)
    refine g_bipush (v := 8) C 10 rfl rfl ?_
    refine g_iremK C 11 rfl (by decide) ?_
    refine g_let h (fun v5 h => ?_)
    refine g_istore_n C 12 [(1, .int v5), (0, .ref (ad l0))] rfl (by decide) rfl ?_
    refine g_aload_n C 13 1 rfl rfl ?_
    refine g_callVi C 14 [] [] rfl (M_X0_draw hZ l0 hl0) cnX0_83 cwX0_draw ciX0_draw (hb_obj hZ hl0) rfl rfl rfl rfl (Nat.le_of_ble_eq_true rfl) ⟨Nat.le_of_ble_eq_true rfl, Nat.le_of_ble_eq_true rfl⟩ h (fun r6 s7 h => ?_)
    refine g_bipush (v := 8) C 15 rfl rfl ?_
    refine g_iremK C 16 rfl (by decide) ?_
    refine g_let h (fun v8 h => ?_)
    refine g_istore_n C 17 [(2, .int v8), (1, .int v5), (0, .ref (ad l0))] rfl (by decide) rfl ?_
    refine g_aload_n C 18 2 rfl rfl ?_
    refine g_iload_n C 19 1 rfl rfl ?_
    refine g_iload_n C 20 0 rfl rfl ?_
    refine g_callVi C 21 [.int v5, .int v8] [] rfl (M_X0_doorBetween hZ l0 hl0 v5 v8) cnX0_91 cwX0_doorBetween ciX0_doorBetween (hb_obj hZ hl0) rfl rfl rfl rfl (Nat.le_of_ble_eq_true rfl) ⟨Nat.le_of_ble_eq_true rfl, Nat.le_of_ble_eq_true rfl⟩ h (fun r9 s10 h => ?_)
    refine g_istore_n C 22 [(3, .int r9), (2, .int v8), (1, .int v5), (0, .ref (ad l0))] rfl (by decide) rfl ?_
    refine g_iload_n C 23 2 rfl rfl ?_
    refine g_iload_n C 24 1 rfl rfl ?_
    refine g_icmp_eq C 25 73 rfl rfl h (fun h => ?_) (fun h => ?_)
    · exact g_return C 44 rfl h
    · refine g_iload_n C 26 0 rfl rfl ?_
      refine g_if_eq C 27 73 rfl rfl h (fun h => ?_) (fun h => ?_)
      · exact g_return C 44 rfl h
      · refine g_aload_n C 28 3 rfl rfl ?_
        refine g_iload_n C 29 2 rfl rfl ?_
        refine g_iload_n C 30 1 rfl rfl ?_
        refine g_iload_n C 31 0 rfl rfl ?_
        refine g_iconst (v := 1) C 32 rfl rfl ?_
        refine g_icmp_ne C 33 59 rfl rfl h (fun h => ?_) (fun h => ?_)
        · refine g_iconst (v := 1) C 36 rfl rfl ?_
          refine g_callVv C 37 [.int v5, .int v8, .int 1] [] rfl (M_X0_putDoor hZ l0 hl0 v5 v8 1) cnX0_141 cwX0_putDoor ciX0_putDoor (hb_obj hZ hl0) rfl rfl rfl rfl (Nat.le_of_ble_eq_true rfl) ⟨Nat.le_of_ble_eq_true rfl, Nat.le_of_ble_eq_true rfl⟩ h (fun r11 s12 h => ?_)
          refine g_aload_n C 38 3 rfl rfl ?_
          refine g_dup C 39 rfl rfl ?_
          refine g_geti C 40 rfl flX0_77 (hb_obj hZ hl0) rfl ?_
          refine g_iconst (v := 1) C 41 rfl rfl ?_
          refine g_iadd C 42 rfl ?_
          refine g_put C 43 rfl fpX0_77 (hb_obj hZ hl0) rfl rfl rfl h (fun s13 h => ?_)
          exact g_return C 44 rfl h
        · refine g_iconst (v := 2) C 34 rfl rfl ?_
          refine g_goto C 35 60 rfl rfl ?_
          refine g_callVv C 37 [.int v5, .int v8, .int 2] [] rfl (M_X0_putDoor hZ l0 hl0 v5 v8 2) cnX0_141 cwX0_putDoor ciX0_putDoor (hb_obj hZ hl0) rfl rfl rfl rfl (Nat.le_of_ble_eq_true rfl) ⟨Nat.le_of_ble_eq_true rfl, Nat.le_of_ble_eq_true rfl⟩ h (fun r14 s15 h => ?_)
          refine g_aload_n C 38 3 rfl rfl ?_
          refine g_dup C 39 rfl rfl ?_
          refine g_geti C 40 rfl flX0_77 (hb_obj hZ hl0) rfl ?_
          refine g_iconst (v := 1) C 41 rfl rfl ?_
          refine g_iadd C 42 rfl ?_
          refine g_put C 43 rfl fpX0_77 (hb_obj hZ hl0) rfl rfl rfl h (fun s16 h => ?_)
          exact g_return C 44 rfl h
  · exact g_return C 7 rfl h
def T_X0_passMinute : List (Nat × Instr × Nat) := [(0, .aload_n 0, 1), (1, .invokevirtual 108, 3), (4, .aload_n 0, 1), (5, .invokevirtual 111, 3), (8, .aload_n 0, 1), (9, .invokevirtual 114, 3), (12, .aload_n 0, 1), (13, .invokevirtual 117, 3), (16, .aload_n 0, 1), (17, .invokevirtual 120, 3), (20, .aload_n 0, 1), (21, .dup, 1), (22, .getfield 80, 3), (25, .iconst 1, 1), (26, .iadd, 1), (27, .putfield 80, 3), (30, .return_, 1)]
theorem T_X0_passMinute_ok : gTb cX0_passMinute T_X0_passMinute = true := by decide +kernel
def F_X0_passMinute (Z : List gH) (l0 : Nat) (σ : gS) : Option (Int32 × gS) := mCall (F_X0_burnThings Z l0 σ) (fun r1 s2 => mCall (F_X0_spreadHeat Z l0 s2) (fun r3 s4 => mCall (F_X0_coolRooms Z l0 s4) (fun r5 s6 => mCall (F_X0_lightThings Z l0 s6) (fun r7 s8 => mCall (F_X0_blowWind Z l0 s8) (fun r9 s10 => mLet (gu s10 l0 17 ((s10 l0 17) + 1)) (fun s11 => some (0, s11)))))))
set_option maxRecDepth 20000 in
set_option maxHeartbeats 4000000 in
theorem M_X0_passMinute {Z : List gH} (hZ : Lay Z) (l0 : Nat) (hl0 : HB l0) : gMet yX0_passMinute cX0_passMinute 1 none 6 Z (fun ad => [.ref (ad l0)]) (F_X0_passMinute Z l0) := by
  refine gMet_intro T_X0_passMinute T_X0_passMinute_ok rfl (fun _ => Nat.le_of_ble_eq_true rfl) (fun g ad σ z C h => ?_)
  show g 0 [(0, .ref (ad l0))] [] σ
  rw [F_X0_passMinute] at h
  refine g_aload_n C 0 0 rfl rfl ?_
  refine g_callVv C 1 [] [] rfl (M_X0_burnThings hZ l0 hl0) cnX0_108 cwX0_burnThings ciX0_burnThings (hb_obj hZ hl0) rfl rfl rfl rfl (Nat.le_of_ble_eq_true rfl) ⟨Nat.le_of_ble_eq_true rfl, Nat.le_of_ble_eq_true rfl⟩ h (fun r1 s2 h => ?_)
  refine g_aload_n C 2 0 rfl rfl ?_
  refine g_callVv C 3 [] [] rfl (M_X0_spreadHeat hZ l0 hl0) cnX0_111 cwX0_spreadHeat ciX0_spreadHeat (hb_obj hZ hl0) rfl rfl rfl rfl (Nat.le_of_ble_eq_true rfl) ⟨Nat.le_of_ble_eq_true rfl, Nat.le_of_ble_eq_true rfl⟩ h (fun r3 s4 h => ?_)
  refine g_aload_n C 4 0 rfl rfl ?_
  refine g_callVv C 5 [] [] rfl (M_X0_coolRooms hZ l0 hl0) cnX0_114 cwX0_coolRooms ciX0_coolRooms (hb_obj hZ hl0) rfl rfl rfl rfl (Nat.le_of_ble_eq_true rfl) ⟨Nat.le_of_ble_eq_true rfl, Nat.le_of_ble_eq_true rfl⟩ h (fun r5 s6 h => ?_)
  refine g_aload_n C 6 0 rfl rfl ?_
  refine g_callVv C 7 [] [] rfl (M_X0_lightThings hZ l0 hl0) cnX0_117 cwX0_lightThings ciX0_lightThings (hb_obj hZ hl0) rfl rfl rfl rfl (Nat.le_of_ble_eq_true rfl) ⟨Nat.le_of_ble_eq_true rfl, Nat.le_of_ble_eq_true rfl⟩ h (fun r7 s8 h => ?_)
  refine g_aload_n C 8 0 rfl rfl ?_
  refine g_callVv C 9 [] [] rfl (M_X0_blowWind hZ l0 hl0) cnX0_120 cwX0_blowWind ciX0_blowWind (hb_obj hZ hl0) rfl rfl rfl rfl (Nat.le_of_ble_eq_true rfl) ⟨Nat.le_of_ble_eq_true rfl, Nat.le_of_ble_eq_true rfl⟩ h (fun r9 s10 h => ?_)
  refine g_aload_n C 10 0 rfl rfl ?_
  refine g_dup C 11 rfl rfl ?_
  refine g_geti C 12 rfl flX0_80 (hb_obj hZ hl0) rfl ?_
  refine g_iconst (v := 1) C 13 rfl rfl ?_
  refine g_iadd C 14 rfl ?_
  refine g_put C 15 rfl fpX0_80 (hb_obj hZ hl0) rfl rfl rfl h (fun s11 h => ?_)
  exact g_return C 16 rfl h
def T_X0_litSet : List (Nat × Instr × Nat) := [(0, .iconst 0, 1), (1, .istore_n 1, 1), (2, .iconst 0, 1), (3, .istore_n 2, 1), (4, .iload_n 2, 1), (5, .aload_n 0, 1), (6, .getfield 62, 3), (9, .if_icmp .ge 20, 3), (12, .iload_n 1, 1), (13, .aload_n 0, 1), (14, .getfield 25, 3), (17, .iload_n 2, 1), (18, .iaload, 1), (19, .iload_n 2, 1), (20, .ishl, 1), (21, .ior, 1), (22, .istore_n 1, 1), (23, .iinc 2 1, 3), (26, .goto (-22), 3), (29, .iload_n 1, 1), (30, .ireturn, 1)]
theorem T_X0_litSet_ok : gTb cX0_litSet T_X0_litSet = true := by decide +kernel
def F_X0_litSet_L4 (Z : List gH) (l0 : Nat) : Nat → Int32 → Int32 → gS → Option (Int32 × gS)
  | 0, _, _, _ => none
  | n + 1, l1, l2, σ => if (σ l0 9) ≤ l2 then some (l1, σ) else mIn 12 l2 (mLet ((l1 ||| ((σ (l0 + 4) (nn l2)) <<< (l2 &&& 31)))) (fun v1 => F_X0_litSet_L4 Z l0 n v1 (l2 + 1) σ))
def F_X0_litSet (Z : List gH) (l0 : Nat) (σ : gS) : Option (Int32 × gS) := F_X0_litSet_L4 Z l0 mFuel 0 0 σ
set_option maxRecDepth 20000 in
set_option maxHeartbeats 4000000 in
theorem C_F_X0_litSet_L4 {g : Nat → List (Nat × Value) → List Value → gS → Prop} {Z : List gH} {ad : Nat → Nat} {z : Int32 × gS}  (C : gOk g T_X0_litSet RX0 3 (some .int) 1 Z ad z) (hZ : Lay Z) (l0 : Nat) (hl0 : HB l0) : ∀ (n : Nat) (l1 : Int32) (l2 : Int32) (σ : gS), F_X0_litSet_L4 Z l0 n l1 l2 σ = some z → g 4 [(0, .ref (ad l0)), (1, .int l1), (2, .int l2)] [] σ := by
  intro n
  induction n with
  | zero => intro l1 l2 σ h; cases h
  | succ n ih =>
    intro l1 l2 σ h
    rw [F_X0_litSet_L4] at h
    refine g_iload_n C 4 2 rfl rfl ?_
    refine g_aload_n C 5 0 rfl rfl ?_
    refine g_geti C 6 rfl flX0_62 (hb_obj hZ hl0) rfl ?_
    refine g_icmp_ge C 7 29 rfl rfl h (fun h => ?_) (fun h => ?_)
    · refine g_iload_n C 19 1 rfl rfl ?_
      exact g_ireturn C 20 rfl h
    · refine g_iload_n C 8 1 rfl rfl ?_
      refine g_aload_n C 9 0 rfl rfl ?_
      refine g_getr (b := (l0 + 4)) C 10 rfl flX0_25 (hb_obj hZ hl0) rfl ?_
      refine g_iload_n C 11 2 rfl rfl ?_
      refine g_iald C 12 rfl (hb_lits hZ hl0) h (fun h => ?_)
      refine g_iload_n C 13 2 rfl rfl ?_
      refine g_ishl C 14 rfl ?_
      refine g_ior C 15 rfl ?_
      refine g_let h (fun v1 h => ?_)
      refine g_istore_n C 16 [(1, .int v1), (0, .ref (ad l0)), (2, .int l2)] rfl (by decide) rfl ?_
      refine g_iinc C 17 2 (l2 + 1) [(2, .int (l2 + 1)), (1, .int v1), (0, .ref (ad l0))] rfl rfl (by decide) rfl rfl ?_
      refine g_goto C 18 4 rfl rfl ?_
      refine g_sub C [2, 1, 0] [(0, .ref (ad l0)), (1, .int v1), (2, .int (l2 + 1))] rfl ?_
      exact ih _ _ _ h
set_option maxRecDepth 20000 in
set_option maxHeartbeats 4000000 in
theorem M_X0_litSet {Z : List gH} (hZ : Lay Z) (l0 : Nat) (hl0 : HB l0) : gMet yX0_litSet cX0_litSet 3 (some .int) 1 Z (fun ad => [.ref (ad l0)]) (F_X0_litSet Z l0) := by
  refine gMet_intro T_X0_litSet T_X0_litSet_ok rfl (fun _ => Nat.le_of_ble_eq_true rfl) (fun g ad σ z C h => ?_)
  show g 0 [(0, .ref (ad l0))] [] σ
  rw [F_X0_litSet] at h
  refine g_iconst (v := 0) C 0 rfl rfl ?_
  refine g_istore_n C 1 [(1, .int 0), (0, .ref (ad l0))] rfl (by decide) rfl ?_
  refine g_iconst (v := 0) C 2 rfl rfl ?_
  refine g_istore_n C 3 [(2, .int 0), (1, .int 0), (0, .ref (ad l0))] rfl (by decide) rfl ?_
  refine g_sub C [2, 1, 0] [(0, .ref (ad l0)), (1, .int 0), (2, .int 0)] rfl ?_
  exact C_F_X0_litSet_L4 C hZ _ hl0 _ _ _ _ h
def T_X0_heatTogether : List (Nat × Instr × Nat) := [(0, .iconst 0, 1), (1, .istore_n 1, 1), (2, .iconst 0, 1), (3, .istore_n 2, 1), (4, .iload_n 2, 1), (5, .bipush 8, 2), (7, .if_icmp .ge 18, 3), (10, .iload_n 1, 1), (11, .aload_n 0, 1), (12, .getfield 28, 3), (15, .iload_n 2, 1), (16, .iaload, 1), (17, .iadd, 1), (18, .istore_n 1, 1), (19, .iinc 2 1, 3), (22, .goto (-18), 3), (25, .iload_n 1, 1), (26, .ireturn, 1)]
theorem T_X0_heatTogether_ok : gTb cX0_heatTogether T_X0_heatTogether = true := by decide +kernel
def F_X0_heatTogether_L4 (Z : List gH) (l0 : Nat) : Nat → Int32 → Int32 → gS → Option (Int32 × gS)
  | 0, _, _, _ => none
  | n + 1, l1, l2, σ => if 8 ≤ l2 then some (l1, σ) else mIn 8 l2 (mLet ((l1 + (σ (l0 + 5) (nn l2)))) (fun v1 => F_X0_heatTogether_L4 Z l0 n v1 (l2 + 1) σ))
def F_X0_heatTogether (Z : List gH) (l0 : Nat) (σ : gS) : Option (Int32 × gS) := F_X0_heatTogether_L4 Z l0 mFuel 0 0 σ
set_option maxRecDepth 20000 in
set_option maxHeartbeats 4000000 in
theorem C_F_X0_heatTogether_L4 {g : Nat → List (Nat × Value) → List Value → gS → Prop} {Z : List gH} {ad : Nat → Nat} {z : Int32 × gS}  (C : gOk g T_X0_heatTogether RX0 3 (some .int) 1 Z ad z) (hZ : Lay Z) (l0 : Nat) (hl0 : HB l0) : ∀ (n : Nat) (l1 : Int32) (l2 : Int32) (σ : gS), F_X0_heatTogether_L4 Z l0 n l1 l2 σ = some z → g 4 [(0, .ref (ad l0)), (1, .int l1), (2, .int l2)] [] σ := by
  intro n
  induction n with
  | zero => intro l1 l2 σ h; cases h
  | succ n ih =>
    intro l1 l2 σ h
    rw [F_X0_heatTogether_L4] at h
    refine g_iload_n C 4 2 rfl rfl ?_
    refine g_bipush (v := 8) C 5 rfl rfl ?_
    refine g_icmp_ge C 6 25 rfl rfl h (fun h => ?_) (fun h => ?_)
    · refine g_iload_n C 16 1 rfl rfl ?_
      exact g_ireturn C 17 rfl h
    · refine g_iload_n C 7 1 rfl rfl ?_
      refine g_aload_n C 8 0 rfl rfl ?_
      refine g_getr (b := (l0 + 5)) C 9 rfl flX0_28 (hb_obj hZ hl0) rfl ?_
      refine g_iload_n C 10 2 rfl rfl ?_
      refine g_iald C 11 rfl (hb_heats hZ hl0) h (fun h => ?_)
      refine g_iadd C 12 rfl ?_
      refine g_let h (fun v1 h => ?_)
      refine g_istore_n C 13 [(1, .int v1), (0, .ref (ad l0)), (2, .int l2)] rfl (by decide) rfl ?_
      refine g_iinc C 14 2 (l2 + 1) [(2, .int (l2 + 1)), (1, .int v1), (0, .ref (ad l0))] rfl rfl (by decide) rfl rfl ?_
      refine g_goto C 15 4 rfl rfl ?_
      refine g_sub C [2, 1, 0] [(0, .ref (ad l0)), (1, .int v1), (2, .int (l2 + 1))] rfl ?_
      exact ih _ _ _ h
set_option maxRecDepth 20000 in
set_option maxHeartbeats 4000000 in
theorem M_X0_heatTogether {Z : List gH} (hZ : Lay Z) (l0 : Nat) (hl0 : HB l0) : gMet yX0_heatTogether cX0_heatTogether 3 (some .int) 1 Z (fun ad => [.ref (ad l0)]) (F_X0_heatTogether Z l0) := by
  refine gMet_intro T_X0_heatTogether T_X0_heatTogether_ok rfl (fun _ => Nat.le_of_ble_eq_true rfl) (fun g ad σ z C h => ?_)
  show g 0 [(0, .ref (ad l0))] [] σ
  rw [F_X0_heatTogether] at h
  refine g_iconst (v := 0) C 0 rfl rfl ?_
  refine g_istore_n C 1 [(1, .int 0), (0, .ref (ad l0))] rfl (by decide) rfl ?_
  refine g_iconst (v := 0) C 2 rfl rfl ?_
  refine g_istore_n C 3 [(2, .int 0), (1, .int 0), (0, .ref (ad l0))] rfl (by decide) rfl ?_
  refine g_sub C [2, 1, 0] [(0, .ref (ad l0)), (1, .int 0), (2, .int 0)] rfl ?_
  exact C_F_X0_heatTogether_L4 C hZ _ hl0 _ _ _ _ h
def T_X0_becomeAs : List (Nat × Instr × Nat) := [(0, .aload_n 1, 1), (1, .getfield 15, 3), (4, .iconst 0, 1), (5, .aload_n 0, 1), (6, .getfield 15, 3), (9, .iconst 0, 1), (10, .bipush 12, 2), (12, .invokestatic 56, 3), (15, .aload_n 1, 1), (16, .getfield 19, 3), (19, .iconst 0, 1), (20, .aload_n 0, 1), (21, .getfield 19, 3), (24, .iconst 0, 1), (25, .bipush 12, 2), (27, .invokestatic 56, 3), (30, .aload_n 1, 1), (31, .getfield 22, 3), (34, .iconst 0, 1), (35, .aload_n 0, 1), (36, .getfield 22, 3), (39, .iconst 0, 1), (40, .bipush 12, 2), (42, .invokestatic 56, 3), (45, .aload_n 1, 1), (46, .getfield 25, 3), (49, .iconst 0, 1), (50, .aload_n 0, 1), (51, .getfield 25, 3), (54, .iconst 0, 1), (55, .bipush 12, 2), (57, .invokestatic 56, 3), (60, .aload_n 1, 1), (61, .getfield 28, 3), (64, .iconst 0, 1), (65, .aload_n 0, 1), (66, .getfield 28, 3), (69, .iconst 0, 1), (70, .bipush 8, 2), (72, .invokestatic 56, 3), (75, .aload_n 1, 1), (76, .getfield 31, 3), (79, .iconst 0, 1), (80, .aload_n 0, 1), (81, .getfield 31, 3), (84, .iconst 0, 1), (85, .bipush 64, 2), (87, .invokestatic 56, 3), (90, .aload_n 1, 1), (91, .getfield 34, 3), (94, .iconst 0, 1), (95, .aload_n 0, 1), (96, .getfield 34, 3), (99, .iconst 0, 1), (100, .bipush 6, 2), (102, .invokestatic 56, 3), (105, .aload_n 1, 1), (106, .getfield 37, 3), (109, .iconst 0, 1), (110, .aload_n 0, 1), (111, .getfield 37, 3), (114, .iconst 0, 1), (115, .iconst 3, 1), (116, .invokestatic 56, 3), (119, .aload_n 0, 1), (120, .aload_n 1, 1), (121, .getfield 62, 3), (124, .putfield 62, 3), (127, .aload_n 0, 1), (128, .aload_n 1, 1), (129, .getfield 65, 3), (132, .putfield 65, 3), (135, .aload_n 0, 1), (136, .aload_n 1, 1), (137, .getfield 68, 3), (140, .putfield 68, 3), (143, .aload_n 0, 1), (144, .aload_n 1, 1), (145, .getfield 46, 3), (148, .putfield 46, 3), (151, .aload_n 0, 1), (152, .aload_n 1, 1), (153, .getfield 50, 3), (156, .putfield 50, 3), (159, .aload_n 0, 1), (160, .aload_n 1, 1), (161, .getfield 71, 3), (164, .putfield 71, 3), (167, .aload_n 0, 1), (168, .aload_n 1, 1), (169, .getfield 74, 3), (172, .putfield 74, 3), (175, .aload_n 0, 1), (176, .aload_n 1, 1), (177, .getfield 77, 3), (180, .putfield 77, 3), (183, .aload_n 0, 1), (184, .aload_n 1, 1), (185, .getfield 80, 3), (188, .putfield 80, 3), (191, .aload_n 0, 1), (192, .aload_n 1, 1), (193, .getfield 53, 3), (196, .putfield 53, 3), (199, .return_, 1)]
theorem T_X0_becomeAs_ok : gTb cX0_becomeAs T_X0_becomeAs = true := by decide +kernel
def F_X0_becomeAs (Z : List gH) (l0 : Nat) (l1 : Nat) (σ : gS) : Option (Int32 × gS) := mCopy 12 12 σ (l1 + 1) 0 (l0 + 1) 0 12 (fun s1 => mCopy 12 12 s1 (l1 + 2) 0 (l0 + 2) 0 12 (fun s2 => mCopy 12 12 s2 (l1 + 3) 0 (l0 + 3) 0 12 (fun s3 => mCopy 12 12 s3 (l1 + 4) 0 (l0 + 4) 0 12 (fun s4 => mCopy 8 8 s4 (l1 + 5) 0 (l0 + 5) 0 8 (fun s5 => mCopy 64 64 s5 (l1 + 6) 0 (l0 + 6) 0 64 (fun s6 => mCopy 6 6 s6 (l1 + 7) 0 (l0 + 7) 0 6 (fun s7 => mCopy 3 3 s7 (l1 + 8) 0 (l0 + 8) 0 3 (fun s8 => mLet (gu s8 l0 9 (s8 l1 9)) (fun s9 => mLet (gu s9 l0 10 (s9 l1 10)) (fun s10 => mLet (gu s10 l0 11 (s10 l1 11)) (fun s11 => mLet (gu s11 l0 12 (s11 l1 12)) (fun s12 => mLet (gu s12 l0 13 (s12 l1 13)) (fun s13 => mLet (gu s13 l0 14 (s13 l1 14)) (fun s14 => mLet (gu s14 l0 15 (s14 l1 15)) (fun s15 => mLet (gu s15 l0 16 (s15 l1 16)) (fun s16 => mLet (gu s16 l0 17 (s16 l1 17)) (fun s17 => mLet (gu s17 l0 18 (s17 l1 18)) (fun s18 => some (0, s18)))))))))))))))))))
set_option maxRecDepth 20000 in
set_option maxHeartbeats 4000000 in
theorem M_X0_becomeAs {Z : List gH} (hZ : Lay Z) (l0 : Nat) (hl0 : HB l0) (l1 : Nat) (hl1 : HB l1) : gMet yX0_becomeAs cX0_becomeAs 2 none 1 Z (fun ad => [.ref (ad l0), .ref (ad l1)]) (F_X0_becomeAs Z l0 l1) := by
  refine gMet_intro T_X0_becomeAs T_X0_becomeAs_ok rfl (fun _ => Nat.le_of_ble_eq_true rfl) (fun g ad σ z C h => ?_)
  show g 0 [(0, .ref (ad l0)), (1, .ref (ad l1))] [] σ
  rw [F_X0_becomeAs] at h
  refine g_aload_n C 0 1 rfl rfl ?_
  refine g_getr (b := (l1 + 1)) C 1 rfl flX0_15 (hb_obj hZ hl1) rfl ?_
  refine g_iconst (v := 0) C 2 rfl rfl ?_
  refine g_aload_n C 3 0 rfl rfl ?_
  refine g_getr (b := (l0 + 1)) C 4 rfl flX0_15 (hb_obj hZ hl0) rfl ?_
  refine g_iconst (v := 0) C 5 rfl rfl ?_
  refine g_bipush (v := 12) C 6 rfl rfl ?_
  refine g_copy C 7 rfl cnX0_56 wm_copy ⟨Nat.le_of_ble_eq_true rfl, Nat.le_of_ble_eq_true rfl⟩ (hb_kinds hZ hl1) (hb_kinds hZ hl0) h (fun s1 h => ?_)
  refine g_aload_n C 8 1 rfl rfl ?_
  refine g_getr (b := (l1 + 2)) C 9 rfl flX0_19 (hb_obj hZ hl1) rfl ?_
  refine g_iconst (v := 0) C 10 rfl rfl ?_
  refine g_aload_n C 11 0 rfl rfl ?_
  refine g_getr (b := (l0 + 2)) C 12 rfl flX0_19 (hb_obj hZ hl0) rfl ?_
  refine g_iconst (v := 0) C 13 rfl rfl ?_
  refine g_bipush (v := 12) C 14 rfl rfl ?_
  refine g_copy C 15 rfl cnX0_56 wm_copy ⟨Nat.le_of_ble_eq_true rfl, Nat.le_of_ble_eq_true rfl⟩ (hb_rooms hZ hl1) (hb_rooms hZ hl0) h (fun s2 h => ?_)
  refine g_aload_n C 16 1 rfl rfl ?_
  refine g_getr (b := (l1 + 3)) C 17 rfl flX0_22 (hb_obj hZ hl1) rfl ?_
  refine g_iconst (v := 0) C 18 rfl rfl ?_
  refine g_aload_n C 19 0 rfl rfl ?_
  refine g_getr (b := (l0 + 3)) C 20 rfl flX0_22 (hb_obj hZ hl0) rfl ?_
  refine g_iconst (v := 0) C 21 rfl rfl ?_
  refine g_bipush (v := 12) C 22 rfl rfl ?_
  refine g_copy C 23 rfl cnX0_56 wm_copy ⟨Nat.le_of_ble_eq_true rfl, Nat.le_of_ble_eq_true rfl⟩ (hb_fuels hZ hl1) (hb_fuels hZ hl0) h (fun s3 h => ?_)
  refine g_aload_n C 24 1 rfl rfl ?_
  refine g_getr (b := (l1 + 4)) C 25 rfl flX0_25 (hb_obj hZ hl1) rfl ?_
  refine g_iconst (v := 0) C 26 rfl rfl ?_
  refine g_aload_n C 27 0 rfl rfl ?_
  refine g_getr (b := (l0 + 4)) C 28 rfl flX0_25 (hb_obj hZ hl0) rfl ?_
  refine g_iconst (v := 0) C 29 rfl rfl ?_
  refine g_bipush (v := 12) C 30 rfl rfl ?_
  refine g_copy C 31 rfl cnX0_56 wm_copy ⟨Nat.le_of_ble_eq_true rfl, Nat.le_of_ble_eq_true rfl⟩ (hb_lits hZ hl1) (hb_lits hZ hl0) h (fun s4 h => ?_)
  refine g_aload_n C 32 1 rfl rfl ?_
  refine g_getr (b := (l1 + 5)) C 33 rfl flX0_28 (hb_obj hZ hl1) rfl ?_
  refine g_iconst (v := 0) C 34 rfl rfl ?_
  refine g_aload_n C 35 0 rfl rfl ?_
  refine g_getr (b := (l0 + 5)) C 36 rfl flX0_28 (hb_obj hZ hl0) rfl ?_
  refine g_iconst (v := 0) C 37 rfl rfl ?_
  refine g_bipush (v := 8) C 38 rfl rfl ?_
  refine g_copy C 39 rfl cnX0_56 wm_copy ⟨Nat.le_of_ble_eq_true rfl, Nat.le_of_ble_eq_true rfl⟩ (hb_heats hZ hl1) (hb_heats hZ hl0) h (fun s5 h => ?_)
  refine g_aload_n C 40 1 rfl rfl ?_
  refine g_getr (b := (l1 + 6)) C 41 rfl flX0_31 (hb_obj hZ hl1) rfl ?_
  refine g_iconst (v := 0) C 42 rfl rfl ?_
  refine g_aload_n C 43 0 rfl rfl ?_
  refine g_getr (b := (l0 + 6)) C 44 rfl flX0_31 (hb_obj hZ hl0) rfl ?_
  refine g_iconst (v := 0) C 45 rfl rfl ?_
  refine g_bipush (v := 64) C 46 rfl rfl ?_
  refine g_copy C 47 rfl cnX0_56 wm_copy ⟨Nat.le_of_ble_eq_true rfl, Nat.le_of_ble_eq_true rfl⟩ (hb_doors hZ hl1) (hb_doors hZ hl0) h (fun s6 h => ?_)
  refine g_aload_n C 48 1 rfl rfl ?_
  refine g_getr (b := (l1 + 7)) C 49 rfl flX0_34 (hb_obj hZ hl1) rfl ?_
  refine g_iconst (v := 0) C 50 rfl rfl ?_
  refine g_aload_n C 51 0 rfl rfl ?_
  refine g_getr (b := (l0 + 7)) C 52 rfl flX0_34 (hb_obj hZ hl0) rfl ?_
  refine g_iconst (v := 0) C 53 rfl rfl ?_
  refine g_bipush (v := 6) C 54 rfl rfl ?_
  refine g_copy C 55 rfl cnX0_56 wm_copy ⟨Nat.le_of_ble_eq_true rfl, Nat.le_of_ble_eq_true rfl⟩ (hb_liked hZ hl1) (hb_liked hZ hl0) h (fun s7 h => ?_)
  refine g_aload_n C 56 1 rfl rfl ?_
  refine g_getr (b := (l1 + 8)) C 57 rfl flX0_37 (hb_obj hZ hl1) rfl ?_
  refine g_iconst (v := 0) C 58 rfl rfl ?_
  refine g_aload_n C 59 0 rfl rfl ?_
  refine g_getr (b := (l0 + 8)) C 60 rfl flX0_37 (hb_obj hZ hl0) rfl ?_
  refine g_iconst (v := 0) C 61 rfl rfl ?_
  refine g_iconst (v := 3) C 62 rfl rfl ?_
  refine g_copy C 63 rfl cnX0_56 wm_copy ⟨Nat.le_of_ble_eq_true rfl, Nat.le_of_ble_eq_true rfl⟩ (hb_counting hZ hl1) (hb_counting hZ hl0) h (fun s8 h => ?_)
  refine g_aload_n C 64 0 rfl rfl ?_
  refine g_aload_n C 65 1 rfl rfl ?_
  refine g_geti C 66 rfl flX0_62 (hb_obj hZ hl1) rfl ?_
  refine g_put C 67 rfl fpX0_62 (hb_obj hZ hl0) rfl rfl rfl h (fun s9 h => ?_)
  refine g_aload_n C 68 0 rfl rfl ?_
  refine g_aload_n C 69 1 rfl rfl ?_
  refine g_geti C 70 rfl flX0_65 (hb_obj hZ hl1) rfl ?_
  refine g_put C 71 rfl fpX0_65 (hb_obj hZ hl0) rfl rfl rfl h (fun s10 h => ?_)
  refine g_aload_n C 72 0 rfl rfl ?_
  refine g_aload_n C 73 1 rfl rfl ?_
  refine g_geti C 74 rfl flX0_68 (hb_obj hZ hl1) rfl ?_
  refine g_put C 75 rfl fpX0_68 (hb_obj hZ hl0) rfl rfl rfl h (fun s11 h => ?_)
  refine g_aload_n C 76 0 rfl rfl ?_
  refine g_aload_n C 77 1 rfl rfl ?_
  refine g_geti C 78 rfl flX0_46 (hb_obj hZ hl1) rfl ?_
  refine g_put C 79 rfl fpX0_46 (hb_obj hZ hl0) rfl rfl rfl h (fun s12 h => ?_)
  refine g_aload_n C 80 0 rfl rfl ?_
  refine g_aload_n C 81 1 rfl rfl ?_
  refine g_geti C 82 rfl flX0_50 (hb_obj hZ hl1) rfl ?_
  refine g_put C 83 rfl fpX0_50 (hb_obj hZ hl0) rfl rfl rfl h (fun s13 h => ?_)
  refine g_aload_n C 84 0 rfl rfl ?_
  refine g_aload_n C 85 1 rfl rfl ?_
  refine g_geti C 86 rfl flX0_71 (hb_obj hZ hl1) rfl ?_
  refine g_put C 87 rfl fpX0_71 (hb_obj hZ hl0) rfl rfl rfl h (fun s14 h => ?_)
  refine g_aload_n C 88 0 rfl rfl ?_
  refine g_aload_n C 89 1 rfl rfl ?_
  refine g_geti C 90 rfl flX0_74 (hb_obj hZ hl1) rfl ?_
  refine g_put C 91 rfl fpX0_74 (hb_obj hZ hl0) rfl rfl rfl h (fun s15 h => ?_)
  refine g_aload_n C 92 0 rfl rfl ?_
  refine g_aload_n C 93 1 rfl rfl ?_
  refine g_geti C 94 rfl flX0_77 (hb_obj hZ hl1) rfl ?_
  refine g_put C 95 rfl fpX0_77 (hb_obj hZ hl0) rfl rfl rfl h (fun s16 h => ?_)
  refine g_aload_n C 96 0 rfl rfl ?_
  refine g_aload_n C 97 1 rfl rfl ?_
  refine g_geti C 98 rfl flX0_80 (hb_obj hZ hl1) rfl ?_
  refine g_put C 99 rfl fpX0_80 (hb_obj hZ hl0) rfl rfl rfl h (fun s17 h => ?_)
  refine g_aload_n C 100 0 rfl rfl ?_
  refine g_aload_n C 101 1 rfl rfl ?_
  refine g_geti C 102 rfl flX0_53 (hb_obj hZ hl1) rfl ?_
  refine g_put C 103 rfl fpX0_53 (hb_obj hZ hl0) rfl rfl rfl h (fun s18 h => ?_)
  exact g_return C 104 rfl h
