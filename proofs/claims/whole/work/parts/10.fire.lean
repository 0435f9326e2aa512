def T_X9_isRoom : List (Nat × Instr × Nat) := [(0, .iload_n 0, 1), (1, .iconst 0, 1), (2, .bipush 7, 2), (4, .invokestatic 90, 3), (7, .ireturn, 1)]
theorem T_X9_isRoom_ok : gTb cX9_isRoom T_X9_isRoom = true := by decide +kernel
def F_X9_isRoom (Z : List gH) (l0 : Int32) (σ : gS) : Option (Int32 × gS) := mCall (F_X9_within Z l0 0 7 σ) (fun r1 s2 => mZ r1 s2)
set_option maxRecDepth 20000 in
set_option maxHeartbeats 4000000 in
theorem M_X9_isRoom {Z : List gH} (hZ : Lay Z) (l0 : Int32) : gMet yX9_isRoom cX9_isRoom 1 (some .boolean) 2 Z (fun ad => [.int l0]) (F_X9_isRoom Z l0) := by
  refine gMet_intro T_X9_isRoom T_X9_isRoom_ok rfl (fun _ => Nat.le_of_ble_eq_true rfl) (fun g ad σ z C h => ?_)
  show g 0 [(0, .int l0)] [] σ
  rw [F_X9_isRoom] at h
  refine g_iload_n C 0 0 rfl rfl ?_
  refine g_iconst (v := 0) C 1 rfl rfl ?_
  refine g_bipush (v := 7) C 2 rfl rfl ?_
  refine g_callSi C 3 [.int l0, .int 0, .int 7] [] rfl (M_X9_within hZ l0 0 7) cnX9_90 cwX9_within csX9_within rfl rfl rfl (Nat.le_of_ble_eq_true rfl) ⟨Nat.le_of_ble_eq_true rfl, Nat.le_of_ble_eq_true rfl⟩ h (fun r1 s2 h => ?_)
  exact g_zreturn C 4 rfl h
def T_X9_isKind : List (Nat × Instr × Nat) := [(0, .iload_n 0, 1), (1, .iconst 0, 1), (2, .iconst 5, 1), (3, .invokestatic 90, 3), (6, .ireturn, 1)]
theorem T_X9_isKind_ok : gTb cX9_isKind T_X9_isKind = true := by decide +kernel
def F_X9_isKind (Z : List gH) (l0 : Int32) (σ : gS) : Option (Int32 × gS) := mCall (F_X9_within Z l0 0 5 σ) (fun r1 s2 => mZ r1 s2)
set_option maxRecDepth 20000 in
set_option maxHeartbeats 4000000 in
theorem M_X9_isKind {Z : List gH} (hZ : Lay Z) (l0 : Int32) : gMet yX9_isKind cX9_isKind 1 (some .boolean) 2 Z (fun ad => [.int l0]) (F_X9_isKind Z l0) := by
  refine gMet_intro T_X9_isKind T_X9_isKind_ok rfl (fun _ => Nat.le_of_ble_eq_true rfl) (fun g ad σ z C h => ?_)
  show g 0 [(0, .int l0)] [] σ
  rw [F_X9_isKind] at h
  refine g_iload_n C 0 0 rfl rfl ?_
  refine g_iconst (v := 0) C 1 rfl rfl ?_
  refine g_iconst (v := 5) C 2 rfl rfl ?_
  refine g_callSi C 3 [.int l0, .int 0, .int 5] [] rfl (M_X9_within hZ l0 0 5) cnX9_90 cwX9_within csX9_within rfl rfl rfl (Nat.le_of_ble_eq_true rfl) ⟨Nat.le_of_ble_eq_true rfl, Nat.le_of_ble_eq_true rfl⟩ h (fun r1 s2 h => ?_)
  exact g_zreturn C 4 rfl h
def T_X9_thing : List (Nat × Instr × Nat) := [(0, .iload_n 1, 1), (1, .invokestatic 83, 3), (4, .ifCond .eq 30, 3), (7, .iload_n 2, 1), (8, .invokestatic 87, 3), (11, .ifCond .eq 23, 3), (14, .iload_n 3, 1), (15, .iconst 0, 1), (16, .bipush 99, 2), (18, .invokestatic 90, 3), (21, .ifCond .eq 13, 3), (24, .iload 4, 2), (26, .iconst 0, 1), (27, .iconst 1, 1), (28, .invokestatic 90, 3), (31, .ifCond .ne 6, 3), (34, .ldc 94, 2), (36, .ireturn, 1), (37, .aload_n 0, 1), (38, .getfield 21, 3), (41, .getfield 95, 3), (44, .bipush 12, 2), (46, .if_icmp .lt 6, 3), (49, .ldc 98, 2), (51, .ireturn, 1), (52, .aload_n 0, 1), (53, .getfield 21, 3), (56, .iload_n 1, 1), (57, .iload_n 2, 1), (58, .iload_n 3, 1), (59, .iload 4, 2), (61, .invokevirtual 99, 3), (64, .ireturn, 1)]
theorem T_X9_thing_ok : gTb cX9_thing T_X9_thing = true := by decide +kernel
def F_X9_thing (Z : List gH) (l1 : Int32) (l2 : Int32) (l3 : Int32) (l4 : Int32) (σ : gS) : Option (Int32 × gS) := mCall (F_X9_isKind Z l1 σ) (fun r1 s2 => if r1 = 0 then some ((-1000000001), s2) else mCall (F_X9_isRoom Z l2 s2) (fun r3 s4 => if r3 = 0 then some ((-1000000001), s4) else mCall (F_X9_within Z l3 0 99 s4) (fun r5 s6 => if r5 = 0 then some ((-1000000001), s6) else mCall (F_X9_within Z l4 0 1 s6) (fun r7 s8 => if r7 = 0 then some ((-1000000001), s8) else if (s8 4 9) < 12 then mCall (F_X0_addThing Z 4 l1 l2 l3 l4 s8) (fun r9 s10 => some (r9, s10)) else some ((-1000000003), s8)))))
set_option maxRecDepth 20000 in
set_option maxHeartbeats 4000000 in
theorem M_X9_thing {Z : List gH} (hZ : Lay Z) (l1 : Int32) (l2 : Int32) (l3 : Int32) (l4 : Int32) : gMet yX9_thing cX9_thing 5 (some .int) 3 Z (fun ad => [.ref (ad 0), .int l1, .int l2, .int l3, .int l4]) (F_X9_thing Z l1 l2 l3 l4) := by
  refine gMet_intro T_X9_thing T_X9_thing_ok rfl (fun _ => Nat.le_of_ble_eq_true rfl) (fun g ad σ z C h => ?_)
  show g 0 [(0, .ref (ad 0)), (1, .int l1), (2, .int l2), (3, .int l3), (4, .int l4)] [] σ
  rw [F_X9_thing] at h
  refine g_iload_n C 0 1 rfl rfl ?_
  refine g_callSi C 1 [.int l1] [] rfl (M_X9_isKind hZ l1) cnX9_83 cwX9_isKind csX9_isKind rfl rfl rfl (Nat.le_of_ble_eq_true rfl) ⟨Nat.le_of_ble_eq_true rfl, Nat.le_of_ble_eq_true rfl⟩ h (fun r1 s2 h => ?_)
  refine g_if_eq C 2 34 rfl rfl h (fun h => ?_) (fun h => ?_)
  · refine g_ldc C 16 rfl kcX9_94 ?_
    exact g_ireturn C 17 rfl h
  · refine g_iload_n C 3 2 rfl rfl ?_
    refine g_callSi C 4 [.int l2] [] rfl (M_X9_isRoom hZ l2) cnX9_87 cwX9_isRoom csX9_isRoom rfl rfl rfl (Nat.le_of_ble_eq_true rfl) ⟨Nat.le_of_ble_eq_true rfl, Nat.le_of_ble_eq_true rfl⟩ h (fun r3 s4 h => ?_)
    refine g_if_eq C 5 34 rfl rfl h (fun h => ?_) (fun h => ?_)
    · refine g_ldc C 16 rfl kcX9_94 ?_
      exact g_ireturn C 17 rfl h
    · refine g_iload_n C 6 3 rfl rfl ?_
      refine g_iconst (v := 0) C 7 rfl rfl ?_
      refine g_bipush (v := 99) C 8 rfl rfl ?_
      refine g_callSi C 9 [.int l3, .int 0, .int 99] [] rfl (M_X9_within hZ l3 0 99) cnX9_90 cwX9_within csX9_within rfl rfl rfl (Nat.le_of_ble_eq_true rfl) ⟨Nat.le_of_ble_eq_true rfl, Nat.le_of_ble_eq_true rfl⟩ h (fun r5 s6 h => ?_)
      refine g_if_eq C 10 34 rfl rfl h (fun h => ?_) (fun h => ?_)
      · refine g_ldc C 16 rfl kcX9_94 ?_
        exact g_ireturn C 17 rfl h
      · refine g_iload C 11 4 rfl rfl ?_
        refine g_iconst (v := 0) C 12 rfl rfl ?_
        refine g_iconst (v := 1) C 13 rfl rfl ?_
        refine g_callSi C 14 [.int l4, .int 0, .int 1] [] rfl (M_X9_within hZ l4 0 1) cnX9_90 cwX9_within csX9_within rfl rfl rfl (Nat.le_of_ble_eq_true rfl) ⟨Nat.le_of_ble_eq_true rfl, Nat.le_of_ble_eq_true rfl⟩ h (fun r7 s8 h => ?_)
        refine g_if_ne C 15 37 rfl rfl h (fun h => ?_) (fun h => ?_)
        · refine g_aload_n C 18 0 rfl rfl ?_
          refine g_getr (b := 4) C 19 rfl flX9_21 (hZ.at (i := 0) rfl) rfl ?_
          refine g_geti C 20 rfl flX9_95 (hZ.at (i := 4) rfl) rfl ?_
          refine g_bipush (v := 12) C 21 rfl rfl ?_
          refine g_icmp_lt C 22 52 rfl rfl h (fun h => ?_) (fun h => ?_)
          · refine g_aload_n C 25 0 rfl rfl ?_
            refine g_getr (b := 4) C 26 rfl flX9_21 (hZ.at (i := 0) rfl) rfl ?_
            refine g_iload_n C 27 1 rfl rfl ?_
            refine g_iload_n C 28 2 rfl rfl ?_
            refine g_iload_n C 29 3 rfl rfl ?_
            refine g_iload C 30 4 rfl rfl ?_
            refine g_callVi C 31 [.int l1, .int l2, .int l3, .int l4] [] rfl (M_X0_addThing hZ 4 (Or.inl rfl) l1 l2 l3 l4) cnX9_99 cwX0_addThing ciX0_addThing (hZ.at (i := 4) rfl) rfl rfl rfl rfl (Nat.le_of_ble_eq_true rfl) ⟨Nat.le_of_ble_eq_true rfl, Nat.le_of_ble_eq_true rfl⟩ h (fun r9 s10 h => ?_)
            exact g_ireturn C 32 rfl h
          · refine g_ldc C 23 rfl kcX9_98 ?_
            exact g_ireturn C 24 rfl h
        · refine g_ldc C 16 rfl kcX9_94 ?_
          exact g_ireturn C 17 rfl h
def T_X9_isThing : List (Nat × Instr × Nat) := [(0, .iload_n 1, 1), (1, .iconst 0, 1), (2, .aload_n 0, 1), (3, .getfield 21, 3), (6, .getfield 95, 3), (9, .iconst 1, 1), (10, .isub, 1), (11, .invokestatic 90, 3), (14, .ireturn, 1)]
theorem T_X9_isThing_ok : gTb cX9_isThing T_X9_isThing = true := by decide +kernel
def F_X9_isThing (Z : List gH) (l1 : Int32) (σ : gS) : Option (Int32 × gS) := mCall (F_X9_within Z l1 0 ((σ 4 9) - 1) σ) (fun r1 s2 => mZ r1 s2)
set_option maxRecDepth 20000 in
set_option maxHeartbeats 4000000 in
theorem M_X9_isThing {Z : List gH} (hZ : Lay Z) (l1 : Int32) : gMet yX9_isThing cX9_isThing 2 (some .boolean) 2 Z (fun ad => [.ref (ad 0), .int l1]) (F_X9_isThing Z l1) := by
  refine gMet_intro T_X9_isThing T_X9_isThing_ok rfl (fun _ => Nat.le_of_ble_eq_true rfl) (fun g ad σ z C h => ?_)
  show g 0 [(0, .ref (ad 0)), (1, .int l1)] [] σ
  rw [F_X9_isThing] at h
  refine g_iload_n C 0 1 rfl rfl ?_
  refine g_iconst (v := 0) C 1 rfl rfl ?_
  refine g_aload_n C 2 0 rfl rfl ?_
  refine g_getr (b := 4) C 3 rfl flX9_21 (hZ.at (i := 0) rfl) rfl ?_
  refine g_geti C 4 rfl flX9_95 (hZ.at (i := 4) rfl) rfl ?_
  refine g_iconst (v := 1) C 5 rfl rfl ?_
  refine g_isub C 6 rfl ?_
  refine g_callSi C 7 [.int l1, .int 0, .int ((σ 4 9) - 1)] [] rfl (M_X9_within hZ l1 0 ((σ 4 9) - 1)) cnX9_90 cwX9_within csX9_within rfl rfl rfl (Nat.le_of_ble_eq_true rfl) ⟨Nat.le_of_ble_eq_true rfl, Nat.le_of_ble_eq_true rfl⟩ h (fun r1 s2 h => ?_)
  exact g_zreturn C 8 rfl h
def T_X9_told : List (Nat × Instr × Nat) := [(0, .aload_n 0, 1), (1, .iload_n 1, 1), (2, .invokevirtual 103, 3), (5, .ifCond .ne 6, 3), (8, .ldc 94, 2), (10, .ireturn, 1), (11, .iload_n 2, 1), (12, .tableswitch 153 0 7 #[48, 58, 68, 78, 88, 97, 118, 131], 48), (60, .aload_n 0, 1), (61, .getfield 21, 3), (64, .getfield 106, 3), (67, .iload_n 1, 1), (68, .iaload, 1), (69, .ireturn, 1), (70, .aload_n 0, 1), (71, .getfield 21, 3), (74, .getfield 109, 3), (77, .iload_n 1, 1), (78, .iaload, 1), (79, .ireturn, 1), (80, .aload_n 0, 1), (81, .getfield 21, 3), (84, .getfield 112, 3), (87, .iload_n 1, 1), (88, .iaload, 1), (89, .ireturn, 1), (90, .aload_n 0, 1), (91, .getfield 21, 3), (94, .getfield 115, 3), (97, .iload_n 1, 1), (98, .iaload, 1), (99, .ireturn, 1), (100, .aload_n 0, 1), (101, .getfield 21, 3), (104, .iload_n 1, 1), (105, .invokevirtual 118, 3), (108, .ireturn, 1), (109, .aload_n 0, 1), (110, .getfield 21, 3), (113, .getfield 106, 3), (116, .iload_n 1, 1), (117, .iaload, 1), (118, .aload_n 0, 1), (119, .getfield 21, 3), (122, .iload_n 1, 1), (123, .invokevirtual 118, 3), (126, .invokestatic 122, 3), (129, .ireturn, 1), (130, .aload_n 0, 1), (131, .getfield 21, 3), (134, .getfield 106, 3), (137, .iload_n 1, 1), (138, .iaload, 1), (139, .invokestatic 128, 3), (142, .ireturn, 1), (143, .aload_n 0, 1), (144, .getfield 21, 3), (147, .getfield 106, 3), (150, .iload_n 1, 1), (151, .iaload, 1), (152, .aload_n 0, 1), (153, .getfield 21, 3), (156, .getfield 112, 3), (159, .iload_n 1, 1), (160, .iaload, 1), (161, .invokestatic 131, 3), (164, .ireturn, 1), (165, .ldc 94, 2), (167, .ireturn, 1)]
theorem T_X9_told_ok : gTb cX9_told T_X9_told = true := by decide +kernel
def F_X9_told (Z : List gH) (l1 : Int32) (l2 : Int32) (σ : gS) : Option (Int32 × gS) := mCall (F_X9_isThing Z l1 σ) (fun r1 s2 => if r1 = 0 then some ((-1000000001), s2) else if l2 = 0 then mIn 12 l1 (some ((s2 5 (nn l1)), s2)) else if l2 = 1 then mIn 12 l1 (some ((s2 6 (nn l1)), s2)) else if l2 = 2 then mIn 12 l1 (some ((s2 7 (nn l1)), s2)) else if l2 = 3 then mIn 12 l1 (some ((s2 8 (nn l1)), s2)) else if l2 = 4 then mCall (F_X0_burnsOf Z 4 l1 s2) (fun r3 s4 => some (r3, s4)) else if l2 = 5 then mIn 12 l1 (mCall (F_X0_burnsOf Z 4 l1 s2) (fun r5 s6 => mCall (F_X1_gives Z (s2 5 (nn l1)) r5 s6) (fun r7 s8 => some (r7, s8)))) else if l2 = 6 then mIn 12 l1 (mCall (F_X1_catchesFrom Z (s2 5 (nn l1)) s2) (fun r9 s10 => some (r9, s10))) else if l2 = 7 then mIn 12 l1 (mIn 12 l1 (mCall (F_X1_worth Z (s2 5 (nn l1)) (s2 7 (nn l1)) s2) (fun r11 s12 => some (r11, s12)))) else some ((-1000000001), s2))
set_option maxRecDepth 20000 in
set_option maxHeartbeats 4000000 in
theorem M_X9_told {Z : List gH} (hZ : Lay Z) (l1 : Int32) (l2 : Int32) : gMet yX9_told cX9_told 3 (some .int) 5 Z (fun ad => [.ref (ad 0), .int l1, .int l2]) (F_X9_told Z l1 l2) := by
  refine gMet_intro T_X9_told T_X9_told_ok rfl (fun _ => Nat.le_of_ble_eq_true rfl) (fun g ad σ z C h => ?_)
  show g 0 [(0, .ref (ad 0)), (1, .int l1), (2, .int l2)] [] σ
  rw [F_X9_told] at h
  refine g_aload_n C 0 0 rfl rfl ?_
  refine g_iload_n C 1 1 rfl rfl ?_
  refine g_callVi C 2 [.int l1] [] rfl (M_X9_isThing hZ l1) cnX9_103 cwX9_isThing ciX9_isThing (hZ.at (i := 0) rfl) rfl rfl rfl rfl (Nat.le_of_ble_eq_true rfl) ⟨Nat.le_of_ble_eq_true rfl, Nat.le_of_ble_eq_true rfl⟩ h (fun r1 s2 h => ?_)
  refine g_if_ne C 3 11 rfl rfl h (fun h => ?_) (fun h => ?_)
  · refine g_iload_n C 6 2 rfl rfl ?_
    by_cases hx2_0 : l2 = 0
    · rw [if_pos hx2_0] at h
      refine g_tblAt C 7 0 hx2_0 60 rfl (by decide) (by decide) rfl rfl ?_
      refine g_aload_n C 8 0 rfl rfl ?_
      refine g_getr (b := 4) C 9 rfl flX9_21 (hZ.at (i := 0) rfl) rfl ?_
      refine g_getr (b := 5) C 10 rfl flX9_106 (hZ.at (i := 4) rfl) rfl ?_
      refine g_iload_n C 11 1 rfl rfl ?_
      refine g_iald C 12 rfl (hZ.at (i := 5) rfl) h (fun h => ?_)
      exact g_ireturn C 13 rfl h
    · rw [if_neg hx2_0] at h
      by_cases hx2_1 : l2 = 1
      · rw [if_pos hx2_1] at h
        refine g_tblAt C 7 1 hx2_1 70 rfl (by decide) (by decide) rfl rfl ?_
        refine g_aload_n C 14 0 rfl rfl ?_
        refine g_getr (b := 4) C 15 rfl flX9_21 (hZ.at (i := 0) rfl) rfl ?_
        refine g_getr (b := 6) C 16 rfl flX9_109 (hZ.at (i := 4) rfl) rfl ?_
        refine g_iload_n C 17 1 rfl rfl ?_
        refine g_iald C 18 rfl (hZ.at (i := 6) rfl) h (fun h => ?_)
        exact g_ireturn C 19 rfl h
      · rw [if_neg hx2_1] at h
        by_cases hx2_2 : l2 = 2
        · rw [if_pos hx2_2] at h
          refine g_tblAt C 7 2 hx2_2 80 rfl (by decide) (by decide) rfl rfl ?_
          refine g_aload_n C 20 0 rfl rfl ?_
          refine g_getr (b := 4) C 21 rfl flX9_21 (hZ.at (i := 0) rfl) rfl ?_
          refine g_getr (b := 7) C 22 rfl flX9_112 (hZ.at (i := 4) rfl) rfl ?_
          refine g_iload_n C 23 1 rfl rfl ?_
          refine g_iald C 24 rfl (hZ.at (i := 7) rfl) h (fun h => ?_)
          exact g_ireturn C 25 rfl h
        · rw [if_neg hx2_2] at h
          by_cases hx2_3 : l2 = 3
          · rw [if_pos hx2_3] at h
            refine g_tblAt C 7 3 hx2_3 90 rfl (by decide) (by decide) rfl rfl ?_
            refine g_aload_n C 26 0 rfl rfl ?_
            refine g_getr (b := 4) C 27 rfl flX9_21 (hZ.at (i := 0) rfl) rfl ?_
            refine g_getr (b := 8) C 28 rfl flX9_115 (hZ.at (i := 4) rfl) rfl ?_
            refine g_iload_n C 29 1 rfl rfl ?_
            refine g_iald C 30 rfl (hZ.at (i := 8) rfl) h (fun h => ?_)
            exact g_ireturn C 31 rfl h
          · rw [if_neg hx2_3] at h
            by_cases hx2_4 : l2 = 4
            · rw [if_pos hx2_4] at h
              refine g_tblAt C 7 4 hx2_4 100 rfl (by decide) (by decide) rfl rfl ?_
              refine g_aload_n C 32 0 rfl rfl ?_
              refine g_getr (b := 4) C 33 rfl flX9_21 (hZ.at (i := 0) rfl) rfl ?_
              refine g_iload_n C 34 1 rfl rfl ?_
              refine g_callVi C 35 [.int l1] [] rfl (M_X0_burnsOf hZ 4 (Or.inl rfl) l1) cnX9_118 cwX0_burnsOf ciX0_burnsOf (hZ.at (i := 4) rfl) rfl rfl rfl rfl (Nat.le_of_ble_eq_true rfl) ⟨Nat.le_of_ble_eq_true rfl, Nat.le_of_ble_eq_true rfl⟩ h (fun r3 s4 h => ?_)
              exact g_ireturn C 36 rfl h
            · rw [if_neg hx2_4] at h
              by_cases hx4_5 : l2 = 5
              · rw [if_pos hx4_5] at h
                refine g_tblAt C 7 5 hx4_5 109 rfl (by decide) (by decide) rfl rfl ?_
                refine g_aload_n C 37 0 rfl rfl ?_
                refine g_getr (b := 4) C 38 rfl flX9_21 (hZ.at (i := 0) rfl) rfl ?_
                refine g_getr (b := 5) C 39 rfl flX9_106 (hZ.at (i := 4) rfl) rfl ?_
                refine g_iload_n C 40 1 rfl rfl ?_
                refine g_iald C 41 rfl (hZ.at (i := 5) rfl) h (fun h => ?_)
                refine g_aload_n C 42 0 rfl rfl ?_
                refine g_getr (b := 4) C 43 rfl flX9_21 (hZ.at (i := 0) rfl) rfl ?_
                refine g_iload_n C 44 1 rfl rfl ?_
                refine g_callVi C 45 [.int l1] [.int (s2 5 (nn l1))] rfl (M_X0_burnsOf hZ 4 (Or.inl rfl) l1) cnX9_118 cwX0_burnsOf ciX0_burnsOf (hZ.at (i := 4) rfl) rfl rfl rfl rfl (Nat.le_of_ble_eq_true rfl) ⟨Nat.le_of_ble_eq_true rfl, Nat.le_of_ble_eq_true rfl⟩ h (fun r5 s6 h => ?_)
                refine g_callSi C 46 [.int (s2 5 (nn l1)), .int r5] [] rfl (M_X1_gives hZ (s2 5 (nn l1)) r5) cnX9_122 cwX1_gives csX1_gives rfl rfl rfl (Nat.le_of_ble_eq_true rfl) ⟨Nat.le_of_ble_eq_true rfl, Nat.le_of_ble_eq_true rfl⟩ h (fun r7 s8 h => ?_)
                exact g_ireturn C 47 rfl h
              · rw [if_neg hx4_5] at h
                by_cases hx8_6 : l2 = 6
                · rw [if_pos hx8_6] at h
                  refine g_tblAt C 7 6 hx8_6 130 rfl (by decide) (by decide) rfl rfl ?_
                  refine g_aload_n C 48 0 rfl rfl ?_
                  refine g_getr (b := 4) C 49 rfl flX9_21 (hZ.at (i := 0) rfl) rfl ?_
                  refine g_getr (b := 5) C 50 rfl flX9_106 (hZ.at (i := 4) rfl) rfl ?_
                  refine g_iload_n C 51 1 rfl rfl ?_
                  refine g_iald C 52 rfl (hZ.at (i := 5) rfl) h (fun h => ?_)
                  refine g_callSi C 53 [.int (s2 5 (nn l1))] [] rfl (M_X1_catchesFrom hZ (s2 5 (nn l1))) cnX9_128 cwX1_catchesFrom csX1_catchesFrom rfl rfl rfl (Nat.le_of_ble_eq_true rfl) ⟨Nat.le_of_ble_eq_true rfl, Nat.le_of_ble_eq_true rfl⟩ h (fun r9 s10 h => ?_)
                  exact g_ireturn C 54 rfl h
                · rw [if_neg hx8_6] at h
                  by_cases hx10_7 : l2 = 7
                  · rw [if_pos hx10_7] at h
                    refine g_tblAt C 7 7 hx10_7 143 rfl (by decide) (by decide) rfl rfl ?_
                    refine g_aload_n C 55 0 rfl rfl ?_
                    refine g_getr (b := 4) C 56 rfl flX9_21 (hZ.at (i := 0) rfl) rfl ?_
                    refine g_getr (b := 5) C 57 rfl flX9_106 (hZ.at (i := 4) rfl) rfl ?_
                    refine g_iload_n C 58 1 rfl rfl ?_
                    refine g_iald C 59 rfl (hZ.at (i := 5) rfl) h (fun h => ?_)
                    refine g_aload_n C 60 0 rfl rfl ?_
                    refine g_getr (b := 4) C 61 rfl flX9_21 (hZ.at (i := 0) rfl) rfl ?_
                    refine g_getr (b := 7) C 62 rfl flX9_112 (hZ.at (i := 4) rfl) rfl ?_
                    refine g_iload_n C 63 1 rfl rfl ?_
                    refine g_iald C 64 rfl (hZ.at (i := 7) rfl) h (fun h => ?_)
                    refine g_callSi C 65 [.int (s2 5 (nn l1)), .int (s2 7 (nn l1))] [] rfl (M_X1_worth hZ (s2 5 (nn l1)) (s2 7 (nn l1))) cnX9_131 cwX1_worth csX1_worth rfl rfl rfl (Nat.le_of_ble_eq_true rfl) ⟨Nat.le_of_ble_eq_true rfl, Nat.le_of_ble_eq_true rfl⟩ h (fun r11 s12 h => ?_)
                    exact g_ireturn C 66 rfl h
                  · rw [if_neg hx10_7] at h
                    refine g_tblOut C 7 165 rfl (by have e0 := i32ne hx2_0 0 rfl; have e1 := i32ne hx2_1 1 rfl; have e2 := i32ne hx2_2 2 rfl; have e3 := i32ne hx2_3 3 rfl; have e4 := i32ne hx2_4 4 rfl; have e5 := i32ne hx4_5 5 rfl; have e6 := i32ne hx8_6 6 rfl; have e7 := i32ne hx10_7 7 rfl; omega) rfl ?_
                    refine g_ldc C 67 rfl kcX9_94 ?_
                    exact g_ireturn C 68 rfl h
  · refine g_ldc C 4 rfl kcX9_94 ?_
    exact g_ireturn C 5 rfl h
def T_X9_as : List (Nat × Instr × Nat) := [(0, .aload_n 0, 1), (1, .iload_n 1, 1), (2, .invokevirtual 103, 3), (5, .ifCond .eq 10, 3), (8, .iload_n 2, 1), (9, .invokestatic 83, 3), (12, .ifCond .ne 6, 3), (15, .ldc 94, 2), (17, .ireturn, 1), (18, .aload_n 0, 1), (19, .getfield 21, 3), (22, .getfield 106, 3), (25, .iload_n 1, 1), (26, .iaload, 1), (27, .iload_n 2, 1), (28, .invokestatic 134, 3), (31, .ifCond .eq 15, 3), (34, .aload_n 0, 1), (35, .getfield 21, 3), (38, .getfield 112, 3), (41, .iload_n 1, 1), (42, .iaload, 1), (43, .goto 5, 3), (46, .ldc 138, 2), (48, .ireturn, 1)]
theorem T_X9_as_ok : gTb cX9_as T_X9_as = true := by decide +kernel
def F_X9_as (Z : List gH) (l1 : Int32) (l2 : Int32) (σ : gS) : Option (Int32 × gS) := mCall (F_X9_isThing Z l1 σ) (fun r1 s2 => if r1 = 0 then some ((-1000000001), s2) else mCall (F_X9_isKind Z l2 s2) (fun r3 s4 => if r3 = 0 then some ((-1000000001), s4) else mIn 12 l1 (mCall (F_X1_isOf Z (s4 5 (nn l1)) l2 s4) (fun r5 s6 => if r5 = 0 then some ((-1000000012), s6) else mIn 12 l1 (some ((s6 7 (nn l1)), s6))))))
set_option maxRecDepth 20000 in
set_option maxHeartbeats 4000000 in
theorem M_X9_as {Z : List gH} (hZ : Lay Z) (l1 : Int32) (l2 : Int32) : gMet yX9_as cX9_as 3 (some .int) 3 Z (fun ad => [.ref (ad 0), .int l1, .int l2]) (F_X9_as Z l1 l2) := by
  refine gMet_intro T_X9_as T_X9_as_ok rfl (fun _ => Nat.le_of_ble_eq_true rfl) (fun g ad σ z C h => ?_)
  show g 0 [(0, .ref (ad 0)), (1, .int l1), (2, .int l2)] [] σ
  rw [F_X9_as] at h
  refine g_aload_n C 0 0 rfl rfl ?_
  refine g_iload_n C 1 1 rfl rfl ?_
  refine g_callVi C 2 [.int l1] [] rfl (M_X9_isThing hZ l1) cnX9_103 cwX9_isThing ciX9_isThing (hZ.at (i := 0) rfl) rfl rfl rfl rfl (Nat.le_of_ble_eq_true rfl) ⟨Nat.le_of_ble_eq_true rfl, Nat.le_of_ble_eq_true rfl⟩ h (fun r1 s2 h => ?_)
  refine g_if_eq C 3 15 rfl rfl h (fun h => ?_) (fun h => ?_)
  · refine g_ldc C 7 rfl kcX9_94 ?_
    exact g_ireturn C 8 rfl h
  · refine g_iload_n C 4 2 rfl rfl ?_
    refine g_callSi C 5 [.int l2] [] rfl (M_X9_isKind hZ l2) cnX9_83 cwX9_isKind csX9_isKind rfl rfl rfl (Nat.le_of_ble_eq_true rfl) ⟨Nat.le_of_ble_eq_true rfl, Nat.le_of_ble_eq_true rfl⟩ h (fun r3 s4 h => ?_)
    refine g_if_ne C 6 18 rfl rfl h (fun h => ?_) (fun h => ?_)
    · refine g_aload_n C 9 0 rfl rfl ?_
      refine g_getr (b := 4) C 10 rfl flX9_21 (hZ.at (i := 0) rfl) rfl ?_
      refine g_getr (b := 5) C 11 rfl flX9_106 (hZ.at (i := 4) rfl) rfl ?_
      refine g_iload_n C 12 1 rfl rfl ?_
      refine g_iald C 13 rfl (hZ.at (i := 5) rfl) h (fun h => ?_)
      refine g_iload_n C 14 2 rfl rfl ?_
      refine g_callSi C 15 [.int (s4 5 (nn l1)), .int l2] [] rfl (M_X1_isOf hZ (s4 5 (nn l1)) l2) cnX9_134 cwX1_isOf csX1_isOf rfl rfl rfl (Nat.le_of_ble_eq_true rfl) ⟨Nat.le_of_ble_eq_true rfl, Nat.le_of_ble_eq_true rfl⟩ h (fun r5 s6 h => ?_)
      refine g_if_eq C 16 46 rfl rfl h (fun h => ?_) (fun h => ?_)
      · refine g_ldc C 23 rfl kcX9_138 ?_
        exact g_ireturn C 24 rfl h
      · refine g_aload_n C 17 0 rfl rfl ?_
        refine g_getr (b := 4) C 18 rfl flX9_21 (hZ.at (i := 0) rfl) rfl ?_
        refine g_getr (b := 7) C 19 rfl flX9_112 (hZ.at (i := 4) rfl) rfl ?_
        refine g_iload_n C 20 1 rfl rfl ?_
        refine g_iald C 21 rfl (hZ.at (i := 7) rfl) h (fun h => ?_)
        refine g_goto C 22 48 rfl rfl ?_
        exact g_ireturn C 24 rfl h
    · refine g_ldc C 7 rfl kcX9_94 ?_
      exact g_ireturn C 8 rfl h
def T_X9_turns : List (Nat × Instr × Nat) := [(0, .aload_n 0, 1), (1, .iload_n 1, 1), (2, .invokevirtual 103, 3), (5, .ifCond .eq 10, 3), (8, .iload_n 2, 1), (9, .invokestatic 83, 3), (12, .ifCond .ne 6, 3), (15, .ldc 94, 2), (17, .ireturn, 1), (18, .aload_n 0, 1), (19, .getfield 21, 3), (22, .getfield 106, 3), (25, .iload_n 1, 1), (26, .iaload, 1), (27, .istore_n 3, 1), (28, .aload_n 0, 1), (29, .getfield 21, 3), (32, .getfield 106, 3), (35, .iload_n 1, 1), (36, .iload_n 2, 1), (37, .iastore, 1), (38, .iload_n 3, 1), (39, .ireturn, 1)]
theorem T_X9_turns_ok : gTb cX9_turns T_X9_turns = true := by decide +kernel
def F_X9_turns (Z : List gH) (l1 : Int32) (l2 : Int32) (σ : gS) : Option (Int32 × gS) := mCall (F_X9_isThing Z l1 σ) (fun r1 s2 => if r1 = 0 then some ((-1000000001), s2) else mCall (F_X9_isKind Z l2 s2) (fun r3 s4 => if r3 = 0 then some ((-1000000001), s4) else mIn 12 l1 (mLet ((s4 5 (nn l1))) (fun v5 => mIn 12 l1 (mLet (gu s4 5 (nn l1) l2) (fun s6 => some (v5, s6)))))))
set_option maxRecDepth 20000 in
set_option maxHeartbeats 4000000 in
theorem M_X9_turns {Z : List gH} (hZ : Lay Z) (l1 : Int32) (l2 : Int32) : gMet yX9_turns cX9_turns 4 (some .int) 3 Z (fun ad => [.ref (ad 0), .int l1, .int l2]) (F_X9_turns Z l1 l2) := by
  refine gMet_intro T_X9_turns T_X9_turns_ok rfl (fun _ => Nat.le_of_ble_eq_true rfl) (fun g ad σ z C h => ?_)
  show g 0 [(0, .ref (ad 0)), (1, .int l1), (2, .int l2)] [] σ
  rw [F_X9_turns] at h
  refine g_aload_n C 0 0 rfl rfl ?_
  refine g_iload_n C 1 1 rfl rfl ?_
  refine g_callVi C 2 [.int l1] [] rfl (M_X9_isThing hZ l1) cnX9_103 cwX9_isThing ciX9_isThing (hZ.at (i := 0) rfl) rfl rfl rfl rfl (Nat.le_of_ble_eq_true rfl) ⟨Nat.le_of_ble_eq_true rfl, Nat.le_of_ble_eq_true rfl⟩ h (fun r1 s2 h => ?_)
  refine g_if_eq C 3 15 rfl rfl h (fun h => ?_) (fun h => ?_)
  · refine g_ldc C 7 rfl kcX9_94 ?_
    exact g_ireturn C 8 rfl h
  · refine g_iload_n C 4 2 rfl rfl ?_
    refine g_callSi C 5 [.int l2] [] rfl (M_X9_isKind hZ l2) cnX9_83 cwX9_isKind csX9_isKind rfl rfl rfl (Nat.le_of_ble_eq_true rfl) ⟨Nat.le_of_ble_eq_true rfl, Nat.le_of_ble_eq_true rfl⟩ h (fun r3 s4 h => ?_)
    refine g_if_ne C 6 18 rfl rfl h (fun h => ?_) (fun h => ?_)
    · refine g_aload_n C 9 0 rfl rfl ?_
      refine g_getr (b := 4) C 10 rfl flX9_21 (hZ.at (i := 0) rfl) rfl ?_
      refine g_getr (b := 5) C 11 rfl flX9_106 (hZ.at (i := 4) rfl) rfl ?_
      refine g_iload_n C 12 1 rfl rfl ?_
      refine g_iald C 13 rfl (hZ.at (i := 5) rfl) h (fun h => ?_)
      refine g_let h (fun v5 h => ?_)
      refine g_istore_n C 14 [(3, .int v5), (0, .ref (ad 0)), (1, .int l1), (2, .int l2)] rfl (by decide) rfl ?_
      refine g_aload_n C 15 1 rfl rfl ?_
      refine g_getr (b := 4) C 16 rfl flX9_21 (hZ.at (i := 0) rfl) rfl ?_
      refine g_getr (b := 5) C 17 rfl flX9_106 (hZ.at (i := 4) rfl) rfl ?_
      refine g_iload_n C 18 2 rfl rfl ?_
      refine g_iload_n C 19 3 rfl rfl ?_
      refine g_iast C 20 rfl (hZ.at (i := 5) rfl) h (fun s6 h => ?_)
      refine g_iload_n C 21 0 rfl rfl ?_
      exact g_ireturn C 22 rfl h
    · refine g_ldc C 7 rfl kcX9_94 ?_
      exact g_ireturn C 8 rfl h
def T_X9_replaced : List (Nat × Instr × Nat) := [(0, .iload_n 2, 1), (1, .iconst 0, 1), (2, .iload_n 3, 1), (3, .invokestatic 90, 3), (6, .ifCond .ne 6, 3), (9, .ldc 94, 2), (11, .ireturn, 1), (12, .aload_n 0, 1), (13, .iload_n 1, 1), (14, .iaload, 1), (15, .istore 4, 2), (17, .aload_n 0, 1), (18, .iload_n 1, 1), (19, .iload_n 2, 1), (20, .iastore, 1), (21, .iload 4, 2), (23, .ireturn, 1)]
theorem T_X9_replaced_ok : gTb cX9_replaced T_X9_replaced = true := by decide +kernel
def F_X9_replaced (Z : List gH) (l0 : Nat) (l1 : Int32) (l2 : Int32) (l3 : Int32) (σ : gS) : Option (Int32 × gS) := mCall (F_X9_within Z l2 0 l3 σ) (fun r1 s2 => if r1 = 0 then some ((-1000000001), s2) else mIn (zl Z l0) l1 (mLet ((s2 l0 (nn l1))) (fun v3 => mIn (zl Z l0) l1 (mLet (gu s2 l0 (nn l1) l2) (fun s4 => some (v3, s4))))))
set_option maxRecDepth 20000 in
set_option maxHeartbeats 4000000 in
theorem M_X9_replaced {Z : List gH} (hZ : Lay Z) (l0 : Nat) (hl0 : IA Z l0) (l1 : Int32) (l2 : Int32) (l3 : Int32) : gMet yX9_replaced cX9_replaced 5 (some .int) 2 Z (fun ad => [.ref (ad l0), .int l1, .int l2, .int l3]) (F_X9_replaced Z l0 l1 l2 l3) := by
  refine gMet_intro T_X9_replaced T_X9_replaced_ok rfl (fun _ => Nat.le_of_ble_eq_true rfl) (fun g ad σ z C h => ?_)
  show g 0 [(0, .ref (ad l0)), (1, .int l1), (2, .int l2), (3, .int l3)] [] σ
  rw [F_X9_replaced] at h
  refine g_iload_n C 0 2 rfl rfl ?_
  refine g_iconst (v := 0) C 1 rfl rfl ?_
  refine g_iload_n C 2 3 rfl rfl ?_
  refine g_callSi C 3 [.int l2, .int 0, .int l3] [] rfl (M_X9_within hZ l2 0 l3) cnX9_90 cwX9_within csX9_within rfl rfl rfl (Nat.le_of_ble_eq_true rfl) ⟨Nat.le_of_ble_eq_true rfl, Nat.le_of_ble_eq_true rfl⟩ h (fun r1 s2 h => ?_)
  refine g_if_ne C 4 12 rfl rfl h (fun h => ?_) (fun h => ?_)
  · refine g_aload_n C 7 0 rfl rfl ?_
    refine g_iload_n C 8 1 rfl rfl ?_
    refine g_iald C 9 rfl hl0 h (fun h => ?_)
    refine g_let h (fun v3 h => ?_)
    refine g_istore C 10 [(4, .int v3), (0, .ref (ad l0)), (1, .int l1), (2, .int l2), (3, .int l3)] rfl (by decide) rfl ?_
    refine g_aload_n C 11 1 rfl rfl ?_
    refine g_iload_n C 12 2 rfl rfl ?_
    refine g_iload_n C 13 3 rfl rfl ?_
    refine g_iast C 14 rfl hl0 h (fun s4 h => ?_)
    refine g_iload C 15 0 rfl rfl ?_
    exact g_ireturn C 16 rfl h
  · refine g_ldc C 5 rfl kcX9_94 ?_
    exact g_ireturn C 6 rfl h
def T_X9_set : List (Nat × Instr × Nat) := [(0, .aload_n 0, 1), (1, .iload_n 1, 1), (2, .invokevirtual 103, 3), (5, .ifCond .ne 6, 3), (8, .ldc 94, 2), (10, .ireturn, 1), (11, .iload_n 2, 1), (12, .tableswitch 72 1 3 #[28, 43, 58], 28), (40, .aload_n 0, 1), (41, .getfield 21, 3), (44, .getfield 109, 3), (47, .iload_n 1, 1), (48, .iload_n 3, 1), (49, .bipush 7, 2), (51, .invokestatic 139, 3), (54, .ireturn, 1), (55, .aload_n 0, 1), (56, .getfield 21, 3), (59, .getfield 112, 3), (62, .iload_n 1, 1), (63, .iload_n 3, 1), (64, .bipush 99, 2), (66, .invokestatic 139, 3), (69, .ireturn, 1), (70, .aload_n 0, 1), (71, .getfield 21, 3), (74, .getfield 115, 3), (77, .iload_n 1, 1), (78, .iload_n 3, 1), (79, .iconst 1, 1), (80, .invokestatic 139, 3), (83, .ireturn, 1), (84, .ldc 94, 2), (86, .ireturn, 1)]
theorem T_X9_set_ok : gTb cX9_set T_X9_set = true := by decide +kernel
def F_X9_set (Z : List gH) (l1 : Int32) (l2 : Int32) (l3 : Int32) (σ : gS) : Option (Int32 × gS) := mCall (F_X9_isThing Z l1 σ) (fun r1 s2 => if r1 = 0 then some ((-1000000001), s2) else if l2 = 1 then mCall (F_X9_replaced Z 6 l1 l3 7 s2) (fun r3 s4 => some (r3, s4)) else if l2 = 2 then mCall (F_X9_replaced Z 7 l1 l3 99 s2) (fun r5 s6 => some (r5, s6)) else if l2 = 3 then mCall (F_X9_replaced Z 8 l1 l3 1 s2) (fun r7 s8 => some (r7, s8)) else some ((-1000000001), s2))
set_option maxRecDepth 20000 in
set_option maxHeartbeats 4000000 in
theorem M_X9_set {Z : List gH} (hZ : Lay Z) (l1 : Int32) (l2 : Int32) (l3 : Int32) : gMet yX9_set cX9_set 4 (some .int) 3 Z (fun ad => [.ref (ad 0), .int l1, .int l2, .int l3]) (F_X9_set Z l1 l2 l3) := by
  refine gMet_intro T_X9_set T_X9_set_ok rfl (fun _ => Nat.le_of_ble_eq_true rfl) (fun g ad σ z C h => ?_)
  show g 0 [(0, .ref (ad 0)), (1, .int l1), (2, .int l2), (3, .int l3)] [] σ
  rw [F_X9_set] at h
  refine g_aload_n C 0 0 rfl rfl ?_
  refine g_iload_n C 1 1 rfl rfl ?_
  refine g_callVi C 2 [.int l1] [] rfl (M_X9_isThing hZ l1) cnX9_103 cwX9_isThing ciX9_isThing (hZ.at (i := 0) rfl) rfl rfl rfl rfl (Nat.le_of_ble_eq_true rfl) ⟨Nat.le_of_ble_eq_true rfl, Nat.le_of_ble_eq_true rfl⟩ h (fun r1 s2 h => ?_)
  refine g_if_ne C 3 11 rfl rfl h (fun h => ?_) (fun h => ?_)
  · refine g_iload_n C 6 2 rfl rfl ?_
    by_cases hx2_0 : l2 = 1
    · rw [if_pos hx2_0] at h
      refine g_tblAt C 7 1 hx2_0 40 rfl (by decide) (by decide) rfl rfl ?_
      refine g_aload_n C 8 0 rfl rfl ?_
      refine g_getr (b := 4) C 9 rfl flX9_21 (hZ.at (i := 0) rfl) rfl ?_
      refine g_getr (b := 6) C 10 rfl flX9_109 (hZ.at (i := 4) rfl) rfl ?_
      refine g_iload_n C 11 1 rfl rfl ?_
      refine g_iload_n C 12 3 rfl rfl ?_
      refine g_bipush (v := 7) C 13 rfl rfl ?_
      refine g_callSi C 14 [.ref (ad 6), .int l1, .int l3, .int 7] [] rfl (M_X9_replaced hZ 6 (ia_of (hZ.at (i := 6) rfl)) l1 l3 7) cnX9_139 cwX9_replaced csX9_replaced rfl rfl rfl (Nat.le_of_ble_eq_true rfl) ⟨Nat.le_of_ble_eq_true rfl, Nat.le_of_ble_eq_true rfl⟩ h (fun r3 s4 h => ?_)
      exact g_ireturn C 15 rfl h
    · rw [if_neg hx2_0] at h
      by_cases hx4_1 : l2 = 2
      · rw [if_pos hx4_1] at h
        refine g_tblAt C 7 2 hx4_1 55 rfl (by decide) (by decide) rfl rfl ?_
        refine g_aload_n C 16 0 rfl rfl ?_
        refine g_getr (b := 4) C 17 rfl flX9_21 (hZ.at (i := 0) rfl) rfl ?_
        refine g_getr (b := 7) C 18 rfl flX9_112 (hZ.at (i := 4) rfl) rfl ?_
        refine g_iload_n C 19 1 rfl rfl ?_
        refine g_iload_n C 20 3 rfl rfl ?_
        refine g_bipush (v := 99) C 21 rfl rfl ?_
        refine g_callSi C 22 [.ref (ad 7), .int l1, .int l3, .int 99] [] rfl (M_X9_replaced hZ 7 (ia_of (hZ.at (i := 7) rfl)) l1 l3 99) cnX9_139 cwX9_replaced csX9_replaced rfl rfl rfl (Nat.le_of_ble_eq_true rfl) ⟨Nat.le_of_ble_eq_true rfl, Nat.le_of_ble_eq_true rfl⟩ h (fun r5 s6 h => ?_)
        exact g_ireturn C 23 rfl h
      · rw [if_neg hx4_1] at h
        by_cases hx6_2 : l2 = 3
        · rw [if_pos hx6_2] at h
          refine g_tblAt C 7 3 hx6_2 70 rfl (by decide) (by decide) rfl rfl ?_
          refine g_aload_n C 24 0 rfl rfl ?_
          refine g_getr (b := 4) C 25 rfl flX9_21 (hZ.at (i := 0) rfl) rfl ?_
          refine g_getr (b := 8) C 26 rfl flX9_115 (hZ.at (i := 4) rfl) rfl ?_
          refine g_iload_n C 27 1 rfl rfl ?_
          refine g_iload_n C 28 3 rfl rfl ?_
          refine g_iconst (v := 1) C 29 rfl rfl ?_
          refine g_callSi C 30 [.ref (ad 8), .int l1, .int l3, .int 1] [] rfl (M_X9_replaced hZ 8 (ia_of (hZ.at (i := 8) rfl)) l1 l3 1) cnX9_139 cwX9_replaced csX9_replaced rfl rfl rfl (Nat.le_of_ble_eq_true rfl) ⟨Nat.le_of_ble_eq_true rfl, Nat.le_of_ble_eq_true rfl⟩ h (fun r7 s8 h => ?_)
          exact g_ireturn C 31 rfl h
        · rw [if_neg hx6_2] at h
          refine g_tblOut C 7 84 rfl (by have e0 := i32ne hx2_0 1 rfl; have e1 := i32ne hx4_1 2 rfl; have e2 := i32ne hx6_2 3 rfl; omega) rfl ?_
          refine g_ldc C 32 rfl kcX9_94 ?_
          exact g_ireturn C 33 rfl h
  · refine g_ldc C 4 rfl kcX9_94 ?_
    exact g_ireturn C 5 rfl h
def T_X9_deal : List (Nat × Instr × Nat) := [(0, .iload_n 1, 1), (1, .iconst 1, 1), (2, .bipush 12, 2), (4, .invokestatic 90, 3), (7, .ifCond .ne 6, 3), (10, .ldc 94, 2), (12, .ireturn, 1), (13, .iload_n 1, 1), (14, .bipush 12, 2), (16, .aload_n 0, 1), (17, .getfield 21, 3), (20, .getfield 95, 3), (23, .isub, 1), (24, .invokestatic 143, 3), (27, .istore_n 2, 1), (28, .iconst 0, 1), (29, .istore_n 3, 1), (30, .iload_n 3, 1), (31, .iload_n 2, 1), (32, .if_icmp .ge 16, 3), (35, .aload_n 0, 1), (36, .getfield 21, 3), (39, .invokevirtual 148, 3), (42, .iinc 3 1, 3), (45, .goto (-15), 3), (48, .iload_n 2, 1), (49, .ireturn, 1)]
theorem T_X9_deal_ok : gTb cX9_deal T_X9_deal = true := by decide +kernel
def F_X9_deal_L30 (Z : List gH) : Nat → Int32 → Int32 → gS → Option (Int32 × gS)
  | 0, _, _, _ => none
  | n + 1, l2, l3, σ => if l2 ≤ l3 then some (l2, σ) else mCall (F_X0_drawThing Z 4 σ) (fun r1 s2 => F_X9_deal_L30 Z n l2 (l3 + 1) s2)
def F_X9_deal (Z : List gH) (l1 : Int32) (σ : gS) : Option (Int32 × gS) := mCall (F_X9_within Z l1 1 12 σ) (fun r1 s2 => if r1 = 0 then some ((-1000000001), s2) else mLet ((mMin l1 (12 - (s2 4 9)))) (fun v3 => F_X9_deal_L30 Z mFuel v3 0 s2))
set_option maxRecDepth 20000 in
set_option maxHeartbeats 4000000 in
theorem C_F_X9_deal_L30 {g : Nat → List (Nat × Value) → List Value → gS → Prop} {Z : List gH} {ad : Nat → Nat} {z : Int32 × gS}  (C : gOk g T_X9_deal RX9 4 (some .int) 3 Z ad z) (hZ : Lay Z) : ∀ (n : Nat) (l2 : Int32) (l3 : Int32) (σ : gS), F_X9_deal_L30 Z n l2 l3 σ = some z → g 30 [(0, .ref (ad 0)), (2, .int l2), (3, .int l3)] [] σ := by
  intro n
  induction n with
  | zero => intro l2 l3 σ h; cases h
  | succ n ih =>
    intro l2 l3 σ h
    rw [F_X9_deal_L30] at h
    refine g_iload_n C 17 2 rfl rfl ?_
    refine g_iload_n C 18 1 rfl rfl ?_
    refine g_icmp_ge C 19 48 rfl rfl h (fun h => ?_) (fun h => ?_)
    · refine g_iload_n C 25 1 rfl rfl ?_
      exact g_ireturn C 26 rfl h
    · refine g_aload_n C 20 0 rfl rfl ?_
      refine g_getr (b := 4) C 21 rfl flX9_21 (hZ.at (i := 0) rfl) rfl ?_
      refine g_callVv C 22 [] [] rfl (M_X0_drawThing hZ 4 (Or.inl rfl)) cnX9_148 cwX0_drawThing ciX0_drawThing (hZ.at (i := 4) rfl) rfl rfl rfl rfl (Nat.le_of_ble_eq_true rfl) ⟨Nat.le_of_ble_eq_true rfl, Nat.le_of_ble_eq_true rfl⟩ h (fun r1 s2 h => ?_)
      refine g_iinc C 23 2 (l3 + 1) [(3, .int (l3 + 1)), (0, .ref (ad 0)), (2, .int l2)] rfl rfl (by decide) rfl rfl ?_
      refine g_goto C 24 30 rfl rfl ?_
      refine g_sub C [1, 2, 0] [(0, .ref (ad 0)), (2, .int l2), (3, .int (l3 + 1))] rfl ?_
      exact ih _ _ _ h
set_option maxRecDepth 20000 in
set_option maxHeartbeats 4000000 in
theorem M_X9_deal {Z : List gH} (hZ : Lay Z) (l1 : Int32) : gMet yX9_deal cX9_deal 4 (some .int) 3 Z (fun ad => [.ref (ad 0), .int l1]) (F_X9_deal Z l1) := by
  refine gMet_intro T_X9_deal T_X9_deal_ok rfl (fun _ => Nat.le_of_ble_eq_true rfl) (fun g ad σ z C h => ?_)
  show g 0 [(0, .ref (ad 0)), (1, .int l1)] [] σ
  rw [F_X9_deal] at h
  refine g_iload_n C 0 1 rfl rfl ?_
  refine g_iconst (v := 1) C 1 rfl rfl ?_
  refine g_bipush (v := 12) C 2 rfl rfl ?_
  refine g_callSi C 3 [.int l1, .int 1, .int 12] [] rfl (M_X9_within hZ l1 1 12) cnX9_90 cwX9_within csX9_within rfl rfl rfl (Nat.le_of_ble_eq_true rfl) ⟨Nat.le_of_ble_eq_true rfl, Nat.le_of_ble_eq_true rfl⟩ h (fun r1 s2 h => ?_)
  refine g_if_ne C 4 13 rfl rfl h (fun h => ?_) (fun h => ?_)
  · refine g_iload_n C 7 1 rfl rfl ?_
    refine g_bipush (v := 12) C 8 rfl rfl ?_
    refine g_aload_n C 9 0 rfl rfl ?_
    refine g_getr (b := 4) C 10 rfl flX9_21 (hZ.at (i := 0) rfl) rfl ?_
    refine g_geti C 11 rfl flX9_95 (hZ.at (i := 4) rfl) rfl ?_
    refine g_isub C 12 rfl ?_
    refine g_mmin C 13 rfl cnX9_143 wm_min ⟨Nat.le_of_ble_eq_true rfl, Nat.le_of_ble_eq_true rfl⟩ ?_
    refine g_let h (fun v3 h => ?_)
    refine g_istore_n C 14 [(2, .int v3), (0, .ref (ad 0)), (1, .int l1)] rfl (by decide) rfl ?_
    refine g_iconst (v := 0) C 15 rfl rfl ?_
    refine g_istore_n C 16 [(3, .int 0), (2, .int v3), (0, .ref (ad 0)), (1, .int l1)] rfl (by decide) rfl ?_
    refine g_sub C [2, 1, 0] [(0, .ref (ad 0)), (2, .int v3), (3, .int 0)] rfl ?_
    exact C_F_X9_deal_L30 C hZ _ _ _ _ h
  · refine g_ldc C 5 rfl kcX9_94 ?_
    exact g_ireturn C 6 rfl h
def T_X9_seed : List (Nat × Instr × Nat) := [(0, .aload_n 0, 1), (1, .getfield 21, 3), (4, .getfield 151, 3), (7, .istore_n 2, 1), (8, .aload_n 0, 1), (9, .getfield 21, 3), (12, .iload_n 1, 1), (13, .putfield 151, 3), (16, .iload_n 2, 1), (17, .ireturn, 1)]
theorem T_X9_seed_ok : gTb cX9_seed T_X9_seed = true := by decide +kernel
def F_X9_seed (Z : List gH) (l1 : Int32) (σ : gS) : Option (Int32 × gS) := mLet ((σ 4 18)) (fun v1 => mLet (gu σ 4 18 l1) (fun s2 => some (v1, s2)))
set_option maxRecDepth 20000 in
set_option maxHeartbeats 4000000 in
theorem M_X9_seed {Z : List gH} (hZ : Lay Z) (l1 : Int32) : gMet yX9_seed cX9_seed 3 (some .int) 1 Z (fun ad => [.ref (ad 0), .int l1]) (F_X9_seed Z l1) := by
  refine gMet_intro T_X9_seed T_X9_seed_ok rfl (fun _ => Nat.le_of_ble_eq_true rfl) (fun g ad σ z C h => ?_)
  show g 0 [(0, .ref (ad 0)), (1, .int l1)] [] σ
  rw [F_X9_seed] at h
  refine g_aload_n C 0 0 rfl rfl ?_
  refine g_getr (b := 4) C 1 rfl flX9_21 (hZ.at (i := 0) rfl) rfl ?_
  refine g_geti C 2 rfl flX9_151 (hZ.at (i := 4) rfl) rfl ?_
  refine g_let h (fun v1 h => ?_)
  refine g_istore_n C 3 [(2, .int v1), (0, .ref (ad 0)), (1, .int l1)] rfl (by decide) rfl ?_
  refine g_aload_n C 4 1 rfl rfl ?_
  refine g_getr (b := 4) C 5 rfl flX9_21 (hZ.at (i := 0) rfl) rfl ?_
  refine g_iload_n C 6 2 rfl rfl ?_
  refine g_put C 7 rfl fpX9_151 (hZ.at (i := 4) rfl) rfl rfl rfl h (fun s2 h => ?_)
  refine g_iload_n C 8 0 rfl rfl ?_
  exact g_ireturn C 9 rfl h
def T_X9_heat : List (Nat × Instr × Nat) := [(0, .iload_n 1, 1), (1, .invokestatic 87, 3), (4, .ifCond .eq 15, 3), (7, .aload_n 0, 1), (8, .getfield 21, 3), (11, .getfield 154, 3), (14, .iload_n 1, 1), (15, .iaload, 1), (16, .goto 5, 3), (19, .ldc 94, 2), (21, .ireturn, 1)]
theorem T_X9_heat_ok : gTb cX9_heat T_X9_heat = true := by decide +kernel
def F_X9_heat (Z : List gH) (l1 : Int32) (σ : gS) : Option (Int32 × gS) := mCall (F_X9_isRoom Z l1 σ) (fun r1 s2 => if r1 = 0 then some ((-1000000001), s2) else mIn 8 l1 (some ((s2 9 (nn l1)), s2)))
set_option maxRecDepth 20000 in
set_option maxHeartbeats 4000000 in
theorem M_X9_heat {Z : List gH} (hZ : Lay Z) (l1 : Int32) : gMet yX9_heat cX9_heat 2 (some .int) 3 Z (fun ad => [.ref (ad 0), .int l1]) (F_X9_heat Z l1) := by
  refine gMet_intro T_X9_heat T_X9_heat_ok rfl (fun _ => Nat.le_of_ble_eq_true rfl) (fun g ad σ z C h => ?_)
  show g 0 [(0, .ref (ad 0)), (1, .int l1)] [] σ
  rw [F_X9_heat] at h
  refine g_iload_n C 0 1 rfl rfl ?_
  refine g_callSi C 1 [.int l1] [] rfl (M_X9_isRoom hZ l1) cnX9_87 cwX9_isRoom csX9_isRoom rfl rfl rfl (Nat.le_of_ble_eq_true rfl) ⟨Nat.le_of_ble_eq_true rfl, Nat.le_of_ble_eq_true rfl⟩ h (fun r1 s2 h => ?_)
  refine g_if_eq C 2 19 rfl rfl h (fun h => ?_) (fun h => ?_)
  · refine g_ldc C 9 rfl kcX9_94 ?_
    exact g_ireturn C 10 rfl h
  · refine g_aload_n C 3 0 rfl rfl ?_
    refine g_getr (b := 4) C 4 rfl flX9_21 (hZ.at (i := 0) rfl) rfl ?_
    refine g_getr (b := 9) C 5 rfl flX9_154 (hZ.at (i := 4) rfl) rfl ?_
    refine g_iload_n C 6 1 rfl rfl ?_
    refine g_iald C 7 rfl (hZ.at (i := 9) rfl) h (fun h => ?_)
    refine g_goto C 8 21 rfl rfl ?_
    exact g_ireturn C 10 rfl h
def T_X9_heats : List (Nat × Instr × Nat) := [(0, .iload_n 1, 1), (1, .invokestatic 87, 3), (4, .ifCond .eq 20, 3), (7, .aload_n 0, 1), (8, .getfield 21, 3), (11, .getfield 154, 3), (14, .iload_n 1, 1), (15, .iload_n 2, 1), (16, .bipush 99, 2), (18, .invokestatic 139, 3), (21, .goto 5, 3), (24, .ldc 94, 2), (26, .ireturn, 1)]
theorem T_X9_heats_ok : gTb cX9_heats T_X9_heats = true := by decide +kernel
def F_X9_heats (Z : List gH) (l1 : Int32) (l2 : Int32) (σ : gS) : Option (Int32 × gS) := mCall (F_X9_isRoom Z l1 σ) (fun r1 s2 => if r1 = 0 then some ((-1000000001), s2) else mCall (F_X9_replaced Z 9 l1 l2 99 s2) (fun r3 s4 => some (r3, s4)))
set_option maxRecDepth 20000 in
set_option maxHeartbeats 4000000 in
theorem M_X9_heats {Z : List gH} (hZ : Lay Z) (l1 : Int32) (l2 : Int32) : gMet yX9_heats cX9_heats 3 (some .int) 3 Z (fun ad => [.ref (ad 0), .int l1, .int l2]) (F_X9_heats Z l1 l2) := by
  refine gMet_intro T_X9_heats T_X9_heats_ok rfl (fun _ => Nat.le_of_ble_eq_true rfl) (fun g ad σ z C h => ?_)
  show g 0 [(0, .ref (ad 0)), (1, .int l1), (2, .int l2)] [] σ
  rw [F_X9_heats] at h
  refine g_iload_n C 0 1 rfl rfl ?_
  refine g_callSi C 1 [.int l1] [] rfl (M_X9_isRoom hZ l1) cnX9_87 cwX9_isRoom csX9_isRoom rfl rfl rfl (Nat.le_of_ble_eq_true rfl) ⟨Nat.le_of_ble_eq_true rfl, Nat.le_of_ble_eq_true rfl⟩ h (fun r1 s2 h => ?_)
  refine g_if_eq C 2 24 rfl rfl h (fun h => ?_) (fun h => ?_)
  · refine g_ldc C 11 rfl kcX9_94 ?_
    exact g_ireturn C 12 rfl h
  · refine g_aload_n C 3 0 rfl rfl ?_
    refine g_getr (b := 4) C 4 rfl flX9_21 (hZ.at (i := 0) rfl) rfl ?_
    refine g_getr (b := 9) C 5 rfl flX9_154 (hZ.at (i := 4) rfl) rfl ?_
    refine g_iload_n C 6 1 rfl rfl ?_
    refine g_iload_n C 7 2 rfl rfl ?_
    refine g_bipush (v := 99) C 8 rfl rfl ?_
    refine g_callSi C 9 [.ref (ad 9), .int l1, .int l2, .int 99] [] rfl (M_X9_replaced hZ 9 (ia_of (hZ.at (i := 9) rfl)) l1 l2 99) cnX9_139 cwX9_replaced csX9_replaced rfl rfl rfl (Nat.le_of_ble_eq_true rfl) ⟨Nat.le_of_ble_eq_true rfl, Nat.le_of_ble_eq_true rfl⟩ h (fun r3 s4 h => ?_)
    refine g_goto C 10 26 rfl rfl ?_
    exact g_ireturn C 12 rfl h
def T_X9_areTwoRooms : List (Nat × Instr × Nat) := [(0, .iload_n 0, 1), (1, .invokestatic 87, 3), (4, .ifCond .eq 19, 3), (7, .iload_n 1, 1), (8, .invokestatic 87, 3), (11, .ifCond .eq 12, 3), (14, .iload_n 0, 1), (15, .iload_n 1, 1), (16, .if_icmp .eq 7, 3), (19, .iconst 1, 1), (20, .goto 4, 3), (23, .iconst 0, 1), (24, .ireturn, 1)]
theorem T_X9_areTwoRooms_ok : gTb cX9_areTwoRooms T_X9_areTwoRooms = true := by decide +kernel
def F_X9_areTwoRooms (Z : List gH) (l0 : Int32) (l1 : Int32) (σ : gS) : Option (Int32 × gS) := mCall (F_X9_isRoom Z l0 σ) (fun r1 s2 => if r1 = 0 then mZ 0 s2 else mCall (F_X9_isRoom Z l1 s2) (fun r3 s4 => if r3 = 0 then mZ 0 s4 else if l0 = l1 then mZ 0 s4 else mZ 1 s4))
set_option maxRecDepth 20000 in
set_option maxHeartbeats 4000000 in
theorem M_X9_areTwoRooms {Z : List gH} (hZ : Lay Z) (l0 : Int32) (l1 : Int32) : gMet yX9_areTwoRooms cX9_areTwoRooms 2 (some .boolean) 3 Z (fun ad => [.int l0, .int l1]) (F_X9_areTwoRooms Z l0 l1) := by
  refine gMet_intro T_X9_areTwoRooms T_X9_areTwoRooms_ok rfl (fun _ => Nat.le_of_ble_eq_true rfl) (fun g ad σ z C h => ?_)
  show g 0 [(0, .int l0), (1, .int l1)] [] σ
  rw [F_X9_areTwoRooms] at h
  refine g_iload_n C 0 0 rfl rfl ?_
  refine g_callSi C 1 [.int l0] [] rfl (M_X9_isRoom hZ l0) cnX9_87 cwX9_isRoom csX9_isRoom rfl rfl rfl (Nat.le_of_ble_eq_true rfl) ⟨Nat.le_of_ble_eq_true rfl, Nat.le_of_ble_eq_true rfl⟩ h (fun r1 s2 h => ?_)
  refine g_if_eq C 2 23 rfl rfl h (fun h => ?_) (fun h => ?_)
  · refine g_iconst (v := 0) C 11 rfl rfl ?_
    exact g_zreturn C 12 rfl h
  · refine g_iload_n C 3 1 rfl rfl ?_
    refine g_callSi C 4 [.int l1] [] rfl (M_X9_isRoom hZ l1) cnX9_87 cwX9_isRoom csX9_isRoom rfl rfl rfl (Nat.le_of_ble_eq_true rfl) ⟨Nat.le_of_ble_eq_true rfl, Nat.le_of_ble_eq_true rfl⟩ h (fun r3 s4 h => ?_)
    refine g_if_eq C 5 23 rfl rfl h (fun h => ?_) (fun h => ?_)
    · refine g_iconst (v := 0) C 11 rfl rfl ?_
      exact g_zreturn C 12 rfl h
    · refine g_iload_n C 6 0 rfl rfl ?_
      refine g_iload_n C 7 1 rfl rfl ?_
      refine g_icmp_eq C 8 23 rfl rfl h (fun h => ?_) (fun h => ?_)
      · refine g_iconst (v := 0) C 11 rfl rfl ?_
        exact g_zreturn C 12 rfl h
      · refine g_iconst (v := 1) C 9 rfl rfl ?_
        refine g_goto C 10 24 rfl rfl ?_
        exact g_zreturn C 12 rfl h
def T_X9_door : List (Nat × Instr × Nat) := [(0, .iload_n 1, 1), (1, .iload_n 2, 1), (2, .invokestatic 157, 3), (5, .ifCond .eq 12, 3), (8, .iload_n 3, 1), (9, .iconst 0, 1), (10, .iconst 2, 1), (11, .invokestatic 90, 3), (14, .ifCond .ne 6, 3), (17, .ldc 94, 2), (19, .ireturn, 1), (20, .aload_n 0, 1), (21, .getfield 21, 3), (24, .iload_n 1, 1), (25, .iload_n 2, 1), (26, .invokevirtual 160, 3), (29, .istore 4, 2), (31, .aload_n 0, 1), (32, .getfield 21, 3), (35, .iload_n 1, 1), (36, .iload_n 2, 1), (37, .iload_n 3, 1), (38, .invokevirtual 163, 3), (41, .iload 4, 2), (43, .ireturn, 1)]
theorem T_X9_door_ok : gTb cX9_door T_X9_door = true := by decide +kernel
def F_X9_door (Z : List gH) (l1 : Int32) (l2 : Int32) (l3 : Int32) (σ : gS) : Option (Int32 × gS) := mCall (F_X9_areTwoRooms Z l1 l2 σ) (fun r1 s2 => if r1 = 0 then some ((-1000000001), s2) else mCall (F_X9_within Z l3 0 2 s2) (fun r3 s4 => if r3 = 0 then some ((-1000000001), s4) else mCall (F_X0_doorBetween Z 4 l1 l2 s4) (fun r5 s6 => mCall (F_X0_putDoor Z 4 l1 l2 l3 s6) (fun r7 s8 => some (r5, s8)))))
set_option maxRecDepth 20000 in
set_option maxHeartbeats 4000000 in
theorem M_X9_door {Z : List gH} (hZ : Lay Z) (l1 : Int32) (l2 : Int32) (l3 : Int32) : gMet yX9_door cX9_door 5 (some .int) 4 Z (fun ad => [.ref (ad 0), .int l1, .int l2, .int l3]) (F_X9_door Z l1 l2 l3) := by
  refine gMet_intro T_X9_door T_X9_door_ok rfl (fun _ => Nat.le_of_ble_eq_true rfl) (fun g ad σ z C h => ?_)
  show g 0 [(0, .ref (ad 0)), (1, .int l1), (2, .int l2), (3, .int l3)] [] σ
  rw [F_X9_door] at h
  refine g_iload_n C 0 1 rfl rfl ?_
  refine g_iload_n C 1 2 rfl rfl ?_
  refine g_callSi C 2 [.int l1, .int l2] [] rfl (M_X9_areTwoRooms hZ l1 l2) cnX9_157 cwX9_areTwoRooms csX9_areTwoRooms rfl rfl rfl (Nat.le_of_ble_eq_true rfl) ⟨Nat.le_of_ble_eq_true rfl, Nat.le_of_ble_eq_true rfl⟩ h (fun r1 s2 h => ?_)
  refine g_if_eq C 3 17 rfl rfl h (fun h => ?_) (fun h => ?_)
  · refine g_ldc C 9 rfl kcX9_94 ?_
    exact g_ireturn C 10 rfl h
  · refine g_iload_n C 4 3 rfl rfl ?_
    refine g_iconst (v := 0) C 5 rfl rfl ?_
    refine g_iconst (v := 2) C 6 rfl rfl ?_
    refine g_callSi C 7 [.int l3, .int 0, .int 2] [] rfl (M_X9_within hZ l3 0 2) cnX9_90 cwX9_within csX9_within rfl rfl rfl (Nat.le_of_ble_eq_true rfl) ⟨Nat.le_of_ble_eq_true rfl, Nat.le_of_ble_eq_true rfl⟩ h (fun r3 s4 h => ?_)
    refine g_if_ne C 8 20 rfl rfl h (fun h => ?_) (fun h => ?_)
    · refine g_aload_n C 11 0 rfl rfl ?_
      refine g_getr (b := 4) C 12 rfl flX9_21 (hZ.at (i := 0) rfl) rfl ?_
      refine g_iload_n C 13 1 rfl rfl ?_
      refine g_iload_n C 14 2 rfl rfl ?_
      refine g_callVi C 15 [.int l1, .int l2] [] rfl (M_X0_doorBetween hZ 4 (Or.inl rfl) l1 l2) cnX9_160 cwX0_doorBetween ciX0_doorBetween (hZ.at (i := 4) rfl) rfl rfl rfl rfl (Nat.le_of_ble_eq_true rfl) ⟨Nat.le_of_ble_eq_true rfl, Nat.le_of_ble_eq_true rfl⟩ h (fun r5 s6 h => ?_)
      refine g_istore C 16 [(4, .int r5), (0, .ref (ad 0)), (1, .int l1), (2, .int l2), (3, .int l3)] rfl (by decide) rfl ?_
      refine g_aload_n C 17 1 rfl rfl ?_
      refine g_getr (b := 4) C 18 rfl flX9_21 (hZ.at (i := 0) rfl) rfl ?_
      refine g_iload_n C 19 2 rfl rfl ?_
      refine g_iload_n C 20 3 rfl rfl ?_
      refine g_iload_n C 21 4 rfl rfl ?_
      refine g_callVv C 22 [.int l1, .int l2, .int l3] [] rfl (M_X0_putDoor hZ 4 (Or.inl rfl) l1 l2 l3) cnX9_163 cwX0_putDoor ciX0_putDoor (hZ.at (i := 4) rfl) rfl rfl rfl rfl (Nat.le_of_ble_eq_true rfl) ⟨Nat.le_of_ble_eq_true rfl, Nat.le_of_ble_eq_true rfl⟩ h (fun r7 s8 h => ?_)
      refine g_iload C 23 0 rfl rfl ?_
      exact g_ireturn C 24 rfl h
    · refine g_ldc C 9 rfl kcX9_94 ?_
      exact g_ireturn C 10 rfl h
def T_X9_doorTold : List (Nat × Instr × Nat) := [(0, .iload_n 1, 1), (1, .iload_n 2, 1), (2, .invokestatic 157, 3), (5, .ifCond .eq 15, 3), (8, .aload_n 0, 1), (9, .getfield 21, 3), (12, .iload_n 1, 1), (13, .iload_n 2, 1), (14, .invokevirtual 160, 3), (17, .goto 5, 3), (20, .ldc 94, 2), (22, .ireturn, 1)]
theorem T_X9_doorTold_ok : gTb cX9_doorTold T_X9_doorTold = true := by decide +kernel
def F_X9_doorTold (Z : List gH) (l1 : Int32) (l2 : Int32) (σ : gS) : Option (Int32 × gS) := mCall (F_X9_areTwoRooms Z l1 l2 σ) (fun r1 s2 => if r1 = 0 then some ((-1000000001), s2) else mCall (F_X0_doorBetween Z 4 l1 l2 s2) (fun r3 s4 => some (r3, s4)))
set_option maxRecDepth 20000 in
set_option maxHeartbeats 4000000 in
theorem M_X9_doorTold {Z : List gH} (hZ : Lay Z) (l1 : Int32) (l2 : Int32) : gMet yX9_doorTold cX9_doorTold 3 (some .int) 4 Z (fun ad => [.ref (ad 0), .int l1, .int l2]) (F_X9_doorTold Z l1 l2) := by
  refine gMet_intro T_X9_doorTold T_X9_doorTold_ok rfl (fun _ => Nat.le_of_ble_eq_true rfl) (fun g ad σ z C h => ?_)
  show g 0 [(0, .ref (ad 0)), (1, .int l1), (2, .int l2)] [] σ
  rw [F_X9_doorTold] at h
  refine g_iload_n C 0 1 rfl rfl ?_
  refine g_iload_n C 1 2 rfl rfl ?_
  refine g_callSi C 2 [.int l1, .int l2] [] rfl (M_X9_areTwoRooms hZ l1 l2) cnX9_157 cwX9_areTwoRooms csX9_areTwoRooms rfl rfl rfl (Nat.le_of_ble_eq_true rfl) ⟨Nat.le_of_ble_eq_true rfl, Nat.le_of_ble_eq_true rfl⟩ h (fun r1 s2 h => ?_)
  refine g_if_eq C 3 20 rfl rfl h (fun h => ?_) (fun h => ?_)
  · refine g_ldc C 10 rfl kcX9_94 ?_
    exact g_ireturn C 11 rfl h
  · refine g_aload_n C 4 0 rfl rfl ?_
    refine g_getr (b := 4) C 5 rfl flX9_21 (hZ.at (i := 0) rfl) rfl ?_
    refine g_iload_n C 6 1 rfl rfl ?_
    refine g_iload_n C 7 2 rfl rfl ?_
    refine g_callVi C 8 [.int l1, .int l2] [] rfl (M_X0_doorBetween hZ 4 (Or.inl rfl) l1 l2) cnX9_160 cwX0_doorBetween ciX0_doorBetween (hZ.at (i := 4) rfl) rfl rfl rfl rfl (Nat.le_of_ble_eq_true rfl) ⟨Nat.le_of_ble_eq_true rfl, Nat.le_of_ble_eq_true rfl⟩ h (fun r3 s4 h => ?_)
    refine g_goto C 9 22 rfl rfl ?_
    exact g_ireturn C 11 rfl h
def T_X9_rule : List (Nat × Instr × Nat) := [(0, .iload_n 1, 1), (1, .ifCond .ne 31, 3), (4, .iload_n 2, 1), (5, .iconst 0, 1), (6, .bipush 100, 2), (8, .invokestatic 90, 3), (11, .ifCond .eq 21, 3), (14, .aload_n 0, 1), (15, .getfield 21, 3), (18, .getfield 167, 3), (21, .istore_n 3, 1), (22, .aload_n 0, 1), (23, .getfield 21, 3), (26, .iload_n 2, 1), (27, .putfield 167, 3), (30, .iload_n 3, 1), (31, .ireturn, 1), (32, .iload_n 1, 1), (33, .iconst 1, 1), (34, .if_icmp .ne 31, 3), (37, .iload_n 2, 1), (38, .iconst 0, 1), (39, .bipush 9, 2), (41, .invokestatic 90, 3), (44, .ifCond .eq 21, 3), (47, .aload_n 0, 1), (48, .getfield 21, 3), (51, .getfield 170, 3), (54, .istore_n 3, 1), (55, .aload_n 0, 1), (56, .getfield 21, 3), (59, .iload_n 2, 1), (60, .putfield 170, 3), (63, .iload_n 3, 1), (64, .ireturn, 1), (65, .ldc 94, 2), (67, .ireturn, 1)]
theorem T_X9_rule_ok : gTb cX9_rule T_X9_rule = true := by decide +kernel
def F_X9_rule_J32 (Z : List gH) (l1 : Int32) (l2 : Int32) (σ : gS) : Option (Int32 × gS) := if l1 = 1 then mCall (F_X9_within Z l2 0 9 σ) (fun r1 s2 => if r1 = 0 then some ((-1000000001), s2) else mLet ((s2 4 13)) (fun v3 => mLet (gu s2 4 13 l2) (fun s4 => some (v3, s4)))) else some ((-1000000001), σ)
def F_X9_rule (Z : List gH) (l1 : Int32) (l2 : Int32) (σ : gS) : Option (Int32 × gS) := if l1 = 0 then mCall (F_X9_within Z l2 0 100 σ) (fun r1 s2 => if r1 = 0 then F_X9_rule_J32 Z l1 l2 s2 else mLet ((s2 4 12)) (fun v3 => mLet (gu s2 4 12 l2) (fun s4 => some (v3, s4)))) else F_X9_rule_J32 Z l1 l2 σ
set_option maxRecDepth 20000 in
set_option maxHeartbeats 4000000 in
theorem C_F_X9_rule_J32 {g : Nat → List (Nat × Value) → List Value → gS → Prop} {Z : List gH} {ad : Nat → Nat} {z : Int32 × gS}  (C : gOk g T_X9_rule RX9 4 (some .int) 2 Z ad z) (hZ : Lay Z) (l1 : Int32) (l2 : Int32) (σ : gS) (h : F_X9_rule_J32 Z l1 l2  σ = some z) : g 32 [(0, .ref (ad 0)), (1, .int l1), (2, .int l2)] [] σ := by
  rw [F_X9_rule_J32] at h
  refine g_iload_n C 17 1 rfl rfl ?_
  refine g_iconst (v := 1) C 18 rfl rfl ?_
  refine g_icmp_ne C 19 65 rfl rfl h (fun h => ?_) (fun h => ?_)
  · refine g_ldc C 35 rfl kcX9_94 ?_
    exact g_ireturn C 36 rfl h
  · refine g_iload_n C 20 2 rfl rfl ?_
    refine g_iconst (v := 0) C 21 rfl rfl ?_
    refine g_bipush (v := 9) C 22 rfl rfl ?_
    refine g_callSi C 23 [.int l2, .int 0, .int 9] [] rfl (M_X9_within hZ l2 0 9) cnX9_90 cwX9_within csX9_within rfl rfl rfl (Nat.le_of_ble_eq_true rfl) ⟨Nat.le_of_ble_eq_true rfl, Nat.le_of_ble_eq_true rfl⟩ h (fun r1 s2 h => ?_)
    refine g_if_eq C 24 65 rfl rfl h (fun h => ?_) (fun h => ?_)
    · refine g_ldc C 35 rfl kcX9_94 ?_
      exact g_ireturn C 36 rfl h
    · refine g_aload_n C 25 0 rfl rfl ?_
      refine g_getr (b := 4) C 26 rfl flX9_21 (hZ.at (i := 0) rfl) rfl ?_
      refine g_geti C 27 rfl flX9_170 (hZ.at (i := 4) rfl) rfl ?_
      refine g_let h (fun v3 h => ?_)
      refine g_istore_n C 28 [(3, .int v3), (0, .ref (ad 0)), (1, .int l1), (2, .int l2)] rfl (by decide) rfl ?_
      refine g_aload_n C 29 1 rfl rfl ?_
      refine g_getr (b := 4) C 30 rfl flX9_21 (hZ.at (i := 0) rfl) rfl ?_
      refine g_iload_n C 31 3 rfl rfl ?_
      refine g_put C 32 rfl fpX9_170 (hZ.at (i := 4) rfl) rfl rfl rfl h (fun s4 h => ?_)
      refine g_iload_n C 33 0 rfl rfl ?_
      exact g_ireturn C 34 rfl h
set_option maxRecDepth 20000 in
set_option maxHeartbeats 4000000 in
theorem M_X9_rule {Z : List gH} (hZ : Lay Z) (l1 : Int32) (l2 : Int32) : gMet yX9_rule cX9_rule 4 (some .int) 2 Z (fun ad => [.ref (ad 0), .int l1, .int l2]) (F_X9_rule Z l1 l2) := by
  refine gMet_intro T_X9_rule T_X9_rule_ok rfl (fun _ => Nat.le_of_ble_eq_true rfl) (fun g ad σ z C h => ?_)
  show g 0 [(0, .ref (ad 0)), (1, .int l1), (2, .int l2)] [] σ
  rw [F_X9_rule] at h
  refine g_iload_n C 0 1 rfl rfl ?_
  refine g_if_ne C 1 32 rfl rfl h (fun h => ?_) (fun h => ?_)
  · exact C_F_X9_rule_J32 C hZ _ _ _ h
  · refine g_iload_n C 2 2 rfl rfl ?_
    refine g_iconst (v := 0) C 3 rfl rfl ?_
    refine g_bipush (v := 100) C 4 rfl rfl ?_
    refine g_callSi C 5 [.int l2, .int 0, .int 100] [] rfl (M_X9_within hZ l2 0 100) cnX9_90 cwX9_within csX9_within rfl rfl rfl (Nat.le_of_ble_eq_true rfl) ⟨Nat.le_of_ble_eq_true rfl, Nat.le_of_ble_eq_true rfl⟩ h (fun r1 s2 h => ?_)
    refine g_if_eq C 6 32 rfl rfl h (fun h => ?_) (fun h => ?_)
    · exact C_F_X9_rule_J32 C hZ _ _ _ h
    · refine g_aload_n C 7 0 rfl rfl ?_
      refine g_getr (b := 4) C 8 rfl flX9_21 (hZ.at (i := 0) rfl) rfl ?_
      refine g_geti C 9 rfl flX9_167 (hZ.at (i := 4) rfl) rfl ?_
      refine g_let h (fun v3 h => ?_)
      refine g_istore_n C 10 [(3, .int v3), (0, .ref (ad 0)), (1, .int l1), (2, .int l2)] rfl (by decide) rfl ?_
      refine g_aload_n C 11 1 rfl rfl ?_
      refine g_getr (b := 4) C 12 rfl flX9_21 (hZ.at (i := 0) rfl) rfl ?_
      refine g_iload_n C 13 3 rfl rfl ?_
      refine g_put C 14 rfl fpX9_167 (hZ.at (i := 4) rfl) rfl rfl rfl h (fun s4 h => ?_)
      refine g_iload_n C 15 0 rfl rfl ?_
      exact g_ireturn C 16 rfl h
def T_X9_visitor : List (Nat × Instr × Nat) := [(0, .iload_n 1, 1), (1, .iconst 0, 1), (2, .sipush 255, 3), (5, .invokestatic 90, 3), (8, .ifCond .ne 6, 3), (11, .ldc 94, 2), (13, .ireturn, 1), (14, .aload_n 0, 1), (15, .getfield 21, 3), (18, .getfield 173, 3), (21, .bipush 6, 2), (23, .if_icmp .lt 6, 3), (26, .ldc 98, 2), (28, .ireturn, 1), (29, .aload_n 0, 1), (30, .getfield 21, 3), (33, .getfield 176, 3), (36, .aload_n 0, 1), (37, .getfield 21, 3), (40, .getfield 173, 3), (43, .iload_n 1, 1), (44, .iastore, 1), (45, .aload_n 0, 1), (46, .getfield 21, 3), (49, .dup, 1), (50, .getfield 173, 3), (53, .iconst 1, 1), (54, .iadd, 1), (55, .putfield 173, 3), (58, .aload_n 0, 1), (59, .getfield 21, 3), (62, .getfield 173, 3), (65, .iconst 1, 1), (66, .isub, 1), (67, .ireturn, 1)]
theorem T_X9_visitor_ok : gTb cX9_visitor T_X9_visitor = true := by decide +kernel
def F_X9_visitor (Z : List gH) (l1 : Int32) (σ : gS) : Option (Int32 × gS) := mCall (F_X9_within Z l1 0 255 σ) (fun r1 s2 => if r1 = 0 then some ((-1000000001), s2) else if (s2 4 10) < 6 then mIn 6 (s2 4 10) (mLet (gu s2 11 (nn (s2 4 10)) l1) (fun s3 => mLet (gu s3 4 10 ((s3 4 10) + 1)) (fun s4 => some (((s4 4 10) - 1), s4)))) else some ((-1000000003), s2))
set_option maxRecDepth 20000 in
set_option maxHeartbeats 4000000 in
theorem M_X9_visitor {Z : List gH} (hZ : Lay Z) (l1 : Int32) : gMet yX9_visitor cX9_visitor 2 (some .int) 2 Z (fun ad => [.ref (ad 0), .int l1]) (F_X9_visitor Z l1) := by
  refine gMet_intro T_X9_visitor T_X9_visitor_ok rfl (fun _ => Nat.le_of_ble_eq_true rfl) (fun g ad σ z C h => ?_)
  show g 0 [(0, .ref (ad 0)), (1, .int l1)] [] σ
  rw [F_X9_visitor] at h
  refine g_iload_n C 0 1 rfl rfl ?_
  refine g_iconst (v := 0) C 1 rfl rfl ?_
  refine g_sipush (v := 255) C 2 rfl rfl ?_
  refine g_callSi C 3 [.int l1, .int 0, .int 255] [] rfl (M_X9_within hZ l1 0 255) cnX9_90 cwX9_within csX9_within rfl rfl rfl (Nat.le_of_ble_eq_true rfl) ⟨Nat.le_of_ble_eq_true rfl, Nat.le_of_ble_eq_true rfl⟩ h (fun r1 s2 h => ?_)
  refine g_if_ne C 4 14 rfl rfl h (fun h => ?_) (fun h => ?_)
  · refine g_aload_n C 7 0 rfl rfl ?_
    refine g_getr (b := 4) C 8 rfl flX9_21 (hZ.at (i := 0) rfl) rfl ?_
    refine g_geti C 9 rfl flX9_173 (hZ.at (i := 4) rfl) rfl ?_
    refine g_bipush (v := 6) C 10 rfl rfl ?_
    refine g_icmp_lt C 11 29 rfl rfl h (fun h => ?_) (fun h => ?_)
    · refine g_aload_n C 14 0 rfl rfl ?_
      refine g_getr (b := 4) C 15 rfl flX9_21 (hZ.at (i := 0) rfl) rfl ?_
      refine g_getr (b := 11) C 16 rfl flX9_176 (hZ.at (i := 4) rfl) rfl ?_
      refine g_aload_n C 17 0 rfl rfl ?_
      refine g_getr (b := 4) C 18 rfl flX9_21 (hZ.at (i := 0) rfl) rfl ?_
      refine g_geti C 19 rfl flX9_173 (hZ.at (i := 4) rfl) rfl ?_
      refine g_iload_n C 20 1 rfl rfl ?_
      refine g_iast C 21 rfl (hZ.at (i := 11) rfl) h (fun s3 h => ?_)
      refine g_aload_n C 22 0 rfl rfl ?_
      refine g_getr (b := 4) C 23 rfl flX9_21 (hZ.at (i := 0) rfl) rfl ?_
      refine g_dup C 24 rfl rfl ?_
      refine g_geti C 25 rfl flX9_173 (hZ.at (i := 4) rfl) rfl ?_
      refine g_iconst (v := 1) C 26 rfl rfl ?_
      refine g_iadd C 27 rfl ?_
      refine g_put C 28 rfl fpX9_173 (hZ.at (i := 4) rfl) rfl rfl rfl h (fun s4 h => ?_)
      refine g_aload_n C 29 0 rfl rfl ?_
      refine g_getr (b := 4) C 30 rfl flX9_21 (hZ.at (i := 0) rfl) rfl ?_
      refine g_geti C 31 rfl flX9_173 (hZ.at (i := 4) rfl) rfl ?_
      refine g_iconst (v := 1) C 32 rfl rfl ?_
      refine g_isub C 33 rfl ?_
      exact g_ireturn C 34 rfl h
    · refine g_ldc C 12 rfl kcX9_98 ?_
      exact g_ireturn C 13 rfl h
  · refine g_ldc C 5 rfl kcX9_94 ?_
    exact g_ireturn C 6 rfl h
def T_X9_isVisitor : List (Nat × Instr × Nat) := [(0, .iload_n 1, 1), (1, .iconst 0, 1), (2, .aload_n 0, 1), (3, .getfield 21, 3), (6, .getfield 173, 3), (9, .iconst 1, 1), (10, .isub, 1), (11, .invokestatic 90, 3), (14, .ireturn, 1)]
theorem T_X9_isVisitor_ok : gTb cX9_isVisitor T_X9_isVisitor = true := by decide +kernel
def F_X9_isVisitor (Z : List gH) (l1 : Int32) (σ : gS) : Option (Int32 × gS) := mCall (F_X9_within Z l1 0 ((σ 4 10) - 1) σ) (fun r1 s2 => mZ r1 s2)
set_option maxRecDepth 20000 in
set_option maxHeartbeats 4000000 in
theorem M_X9_isVisitor {Z : List gH} (hZ : Lay Z) (l1 : Int32) : gMet yX9_isVisitor cX9_isVisitor 2 (some .boolean) 2 Z (fun ad => [.ref (ad 0), .int l1]) (F_X9_isVisitor Z l1) := by
  refine gMet_intro T_X9_isVisitor T_X9_isVisitor_ok rfl (fun _ => Nat.le_of_ble_eq_true rfl) (fun g ad σ z C h => ?_)
  show g 0 [(0, .ref (ad 0)), (1, .int l1)] [] σ
  rw [F_X9_isVisitor] at h
  refine g_iload_n C 0 1 rfl rfl ?_
  refine g_iconst (v := 0) C 1 rfl rfl ?_
  refine g_aload_n C 2 0 rfl rfl ?_
  refine g_getr (b := 4) C 3 rfl flX9_21 (hZ.at (i := 0) rfl) rfl ?_
  refine g_geti C 4 rfl flX9_173 (hZ.at (i := 4) rfl) rfl ?_
  refine g_iconst (v := 1) C 5 rfl rfl ?_
  refine g_isub C 6 rfl ?_
  refine g_callSi C 7 [.int l1, .int 0, .int ((σ 4 10) - 1)] [] rfl (M_X9_within hZ l1 0 ((σ 4 10) - 1)) cnX9_90 cwX9_within csX9_within rfl rfl rfl (Nat.le_of_ble_eq_true rfl) ⟨Nat.le_of_ble_eq_true rfl, Nat.le_of_ble_eq_true rfl⟩ h (fun r1 s2 h => ?_)
  exact g_zreturn C 8 rfl h
def T_X9_likes : List (Nat × Instr × Nat) := [(0, .aload_n 0, 1), (1, .iload_n 1, 1), (2, .invokevirtual 179, 3), (5, .ifCond .eq 21, 3), (8, .aload_n 0, 1), (9, .getfield 21, 3), (12, .getfield 176, 3), (15, .iload_n 1, 1), (16, .iload_n 2, 1), (17, .sipush 255, 3), (20, .invokestatic 139, 3), (23, .goto 5, 3), (26, .ldc 94, 2), (28, .ireturn, 1)]
theorem T_X9_likes_ok : gTb cX9_likes T_X9_likes = true := by decide +kernel
def F_X9_likes (Z : List gH) (l1 : Int32) (l2 : Int32) (σ : gS) : Option (Int32 × gS) := mCall (F_X9_isVisitor Z l1 σ) (fun r1 s2 => if r1 = 0 then some ((-1000000001), s2) else mCall (F_X9_replaced Z 11 l1 l2 255 s2) (fun r3 s4 => some (r3, s4)))
set_option maxRecDepth 20000 in
set_option maxHeartbeats 4000000 in
theorem M_X9_likes {Z : List gH} (hZ : Lay Z) (l1 : Int32) (l2 : Int32) : gMet yX9_likes cX9_likes 3 (some .int) 3 Z (fun ad => [.ref (ad 0), .int l1, .int l2]) (F_X9_likes Z l1 l2) := by
  refine gMet_intro T_X9_likes T_X9_likes_ok rfl (fun _ => Nat.le_of_ble_eq_true rfl) (fun g ad σ z C h => ?_)
  show g 0 [(0, .ref (ad 0)), (1, .int l1), (2, .int l2)] [] σ
  rw [F_X9_likes] at h
  refine g_aload_n C 0 0 rfl rfl ?_
  refine g_iload_n C 1 1 rfl rfl ?_
  refine g_callVi C 2 [.int l1] [] rfl (M_X9_isVisitor hZ l1) cnX9_179 cwX9_isVisitor ciX9_isVisitor (hZ.at (i := 0) rfl) rfl rfl rfl rfl (Nat.le_of_ble_eq_true rfl) ⟨Nat.le_of_ble_eq_true rfl, Nat.le_of_ble_eq_true rfl⟩ h (fun r1 s2 h => ?_)
  refine g_if_eq C 3 26 rfl rfl h (fun h => ?_) (fun h => ?_)
  · refine g_ldc C 12 rfl kcX9_94 ?_
    exact g_ireturn C 13 rfl h
  · refine g_aload_n C 4 0 rfl rfl ?_
    refine g_getr (b := 4) C 5 rfl flX9_21 (hZ.at (i := 0) rfl) rfl ?_
    refine g_getr (b := 11) C 6 rfl flX9_176 (hZ.at (i := 4) rfl) rfl ?_
    refine g_iload_n C 7 1 rfl rfl ?_
    refine g_iload_n C 8 2 rfl rfl ?_
    refine g_sipush (v := 255) C 9 rfl rfl ?_
    refine g_callSi C 10 [.ref (ad 11), .int l1, .int l2, .int 255] [] rfl (M_X9_replaced hZ 11 (ia_of (hZ.at (i := 11) rfl)) l1 l2 255) cnX9_139 cwX9_replaced csX9_replaced rfl rfl rfl (Nat.le_of_ble_eq_true rfl) ⟨Nat.le_of_ble_eq_true rfl, Nat.le_of_ble_eq_true rfl⟩ h (fun r3 s4 h => ?_)
    refine g_goto C 11 28 rfl rfl ?_
    exact g_ireturn C 13 rfl h
def T_X9_seats : List (Nat × Instr × Nat) := [(0, .iload_n 1, 1), (1, .iconst (-1), 1), (2, .if_icmp .eq 14, 3), (5, .aload_n 0, 1), (6, .iload_n 1, 1), (7, .invokevirtual 179, 3), (10, .ifCond .ne 6, 3), (13, .ldc 94, 2), (15, .ireturn, 1), (16, .aload_n 0, 1), (17, .getfield 34, 3), (20, .aload_n 0, 1), (21, .getfield 21, 3), (24, .invokevirtual 182, 3), (27, .istore_n 2, 1), (28, .iload_n 1, 1), (29, .iconst (-1), 1), (30, .if_icmp .ne 7, 3), (33, .iload_n 2, 1), (34, .goto 12, 3), (37, .aload_n 0, 1), (38, .getfield 34, 3), (41, .getfield 186, 3), (44, .iload_n 1, 1), (45, .iaload, 1), (46, .ireturn, 1)]
theorem T_X9_seats_ok : gTb cX9_seats T_X9_seats = true := by decide +kernel
def F_X9_seats_J16 (Z : List gH) (l1 : Int32) (σ : gS) : Option (Int32 × gS) := mCall (F_X4_seatAll Z 4 σ) (fun r1 s2 => if l1 = (-1) then some (r1, s2) else mIn 6 l1 (some ((s2 33 (nn l1)), s2)))
def F_X9_seats (Z : List gH) (l1 : Int32) (σ : gS) : Option (Int32 × gS) := if l1 = (-1) then F_X9_seats_J16 Z l1 σ else mCall (F_X9_isVisitor Z l1 σ) (fun r1 s2 => if r1 = 0 then some ((-1000000001), s2) else F_X9_seats_J16 Z l1 s2)
set_option maxRecDepth 20000 in
set_option maxHeartbeats 4000000 in
theorem C_F_X9_seats_J16 {g : Nat → List (Nat × Value) → List Value → gS → Prop} {Z : List gH} {ad : Nat → Nat} {z : Int32 × gS}  (C : gOk g T_X9_seats RX9 3 (some .int) 5 Z ad z) (hZ : Lay Z) (l1 : Int32) (σ : gS) (h : F_X9_seats_J16 Z l1  σ = some z) : g 16 [(0, .ref (ad 0)), (1, .int l1)] [] σ := by
  rw [F_X9_seats_J16] at h
  refine g_aload_n C 9 0 rfl rfl ?_
  refine g_getr (b := 31) C 10 rfl flX9_34 (hZ.at (i := 0) rfl) rfl ?_
  refine g_aload_n C 11 0 rfl rfl ?_
  refine g_getr (b := 4) C 12 rfl flX9_21 (hZ.at (i := 0) rfl) rfl ?_
  refine g_callVi C 13 [.ref (ad 4)] [] rfl (M_X4_seatAll hZ 4 (Or.inl rfl)) cnX9_182 cwX4_seatAll ciX4_seatAll (hZ.at (i := 31) rfl) rfl rfl rfl rfl (Nat.le_of_ble_eq_true rfl) ⟨Nat.le_of_ble_eq_true rfl, Nat.le_of_ble_eq_true rfl⟩ h (fun r1 s2 h => ?_)
  refine g_istore_n C 14 [(2, .int r1), (0, .ref (ad 0)), (1, .int l1)] rfl (by decide) rfl ?_
  refine g_iload_n C 15 2 rfl rfl ?_
  refine g_iconst (v := (-1)) C 16 rfl rfl ?_
  refine g_icmp_ne C 17 37 rfl rfl h (fun h => ?_) (fun h => ?_)
  · refine g_aload_n C 20 1 rfl rfl ?_
    refine g_getr (b := 31) C 21 rfl flX9_34 (hZ.at (i := 0) rfl) rfl ?_
    refine g_getr (b := 33) C 22 rfl flX9_186 (hZ.at (i := 31) rfl) rfl ?_
    refine g_iload_n C 23 2 rfl rfl ?_
    refine g_iald C 24 rfl (hZ.at (i := 33) rfl) h (fun h => ?_)
    exact g_ireturn C 25 rfl h
  · refine g_iload_n C 18 0 rfl rfl ?_
    refine g_goto C 19 46 rfl rfl ?_
    exact g_ireturn C 25 rfl h
set_option maxRecDepth 20000 in
set_option maxHeartbeats 4000000 in
theorem M_X9_seats {Z : List gH} (hZ : Lay Z) (l1 : Int32) : gMet yX9_seats cX9_seats 3 (some .int) 5 Z (fun ad => [.ref (ad 0), .int l1]) (F_X9_seats Z l1) := by
  refine gMet_intro T_X9_seats T_X9_seats_ok rfl (fun _ => Nat.le_of_ble_eq_true rfl) (fun g ad σ z C h => ?_)
  show g 0 [(0, .ref (ad 0)), (1, .int l1)] [] σ
  rw [F_X9_seats] at h
  refine g_iload_n C 0 1 rfl rfl ?_
  refine g_iconst (v := (-1)) C 1 rfl rfl ?_
  refine g_icmp_eq C 2 16 rfl rfl h (fun h => ?_) (fun h => ?_)
  · exact C_F_X9_seats_J16 C hZ _ _ h
  · refine g_aload_n C 3 0 rfl rfl ?_
    refine g_iload_n C 4 1 rfl rfl ?_
    refine g_callVi C 5 [.int l1] [] rfl (M_X9_isVisitor hZ l1) cnX9_179 cwX9_isVisitor ciX9_isVisitor (hZ.at (i := 0) rfl) rfl rfl rfl rfl (Nat.le_of_ble_eq_true rfl) ⟨Nat.le_of_ble_eq_true rfl, Nat.le_of_ble_eq_true rfl⟩ h (fun r1 s2 h => ?_)
    refine g_if_ne C 6 16 rfl rfl h (fun h => ?_) (fun h => ?_)
    · exact C_F_X9_seats_J16 C hZ _ _ h
    · refine g_ldc C 7 rfl kcX9_94 ?_
      exact g_ireturn C 8 rfl h
def T_X9_way : List (Nat × Instr × Nat) := [(0, .iload_n 1, 1), (1, .invokestatic 87, 3), (4, .ifCond .eq 10, 3), (7, .iload_n 2, 1), (8, .invokestatic 87, 3), (11, .ifCond .ne 6, 3), (14, .ldc 94, 2), (16, .ireturn, 1), (17, .iconst 1, 1), (18, .iload_n 1, 1), (19, .ishl, 1), (20, .istore_n 3, 1), (21, .iconst 0, 1), (22, .istore 4, 2), (24, .iload 4, 2), (26, .bipush 8, 2), (28, .if_icmp .ge 30, 3), (31, .iload_n 3, 1), (32, .iload_n 2, 1), (33, .ishr, 1), (34, .iconst 1, 1), (35, .iand, 1), (36, .iconst 1, 1), (37, .if_icmp .ne 6, 3), (40, .iload 4, 2), (42, .ireturn, 1), (43, .aload_n 0, 1), (44, .getfield 21, 3), (47, .iload_n 3, 1), (48, .invokevirtual 189, 3), (51, .istore_n 3, 1), (52, .iinc 4 1, 3), (55, .goto (-31), 3), (58, .ldc 192, 2), (60, .ireturn, 1)]
theorem T_X9_way_ok : gTb cX9_way T_X9_way = true := by decide +kernel
def F_X9_way_L24 (Z : List gH) (l2 : Int32) : Nat → Int32 → Int32 → gS → Option (Int32 × gS)
  | 0, _, _, _ => none
  | n + 1, l3, l4, σ => if 8 ≤ l4 then some ((-1000000005), σ) else if ((l3 >>> (l2 &&& 31)) &&& 1) = 1 then some (l4, σ) else mCall (F_X0_reachedNext Z 4 l3 σ) (fun r1 s2 => F_X9_way_L24 Z l2 n r1 (l4 + 1) s2)
def F_X9_way (Z : List gH) (l1 : Int32) (l2 : Int32) (σ : gS) : Option (Int32 × gS) := mCall (F_X9_isRoom Z l1 σ) (fun r1 s2 => if r1 = 0 then some ((-1000000001), s2) else mCall (F_X9_isRoom Z l2 s2) (fun r3 s4 => if r3 = 0 then some ((-1000000001), s4) else mLet ((1 <<< (l1 &&& 31))) (fun v5 => F_X9_way_L24 Z l2 mFuel v5 0 s4)))
set_option maxRecDepth 20000 in
set_option maxHeartbeats 4000000 in
theorem C_F_X9_way_L24 {g : Nat → List (Nat × Value) → List Value → gS → Prop} {Z : List gH} {ad : Nat → Nat} {z : Int32 × gS}  (C : gOk g T_X9_way RX9 5 (some .int) 3 Z ad z) (hZ : Lay Z) (l2 : Int32) : ∀ (n : Nat) (l3 : Int32) (l4 : Int32) (σ : gS), F_X9_way_L24 Z l2 n l3 l4 σ = some z → g 24 [(0, .ref (ad 0)), (2, .int l2), (3, .int l3), (4, .int l4)] [] σ := by
  intro n
  induction n with
  | zero => intro l3 l4 σ h; cases h
  | succ n ih =>
    intro l3 l4 σ h
    rw [F_X9_way_L24] at h
    refine g_iload C 14 3 rfl rfl ?_
    refine g_bipush (v := 8) C 15 rfl rfl ?_
    refine g_icmp_ge C 16 58 rfl rfl h (fun h => ?_) (fun h => ?_)
    · refine g_ldc C 33 rfl kcX9_192 ?_
      exact g_ireturn C 34 rfl h
    · refine g_iload_n C 17 2 rfl rfl ?_
      refine g_iload_n C 18 1 rfl rfl ?_
      refine g_ishr C 19 rfl ?_
      refine g_iconst (v := 1) C 20 rfl rfl ?_
      refine g_iand C 21 rfl ?_
      refine g_iconst (v := 1) C 22 rfl rfl ?_
      refine g_icmp_ne C 23 43 rfl rfl h (fun h => ?_) (fun h => ?_)
      · refine g_aload_n C 26 0 rfl rfl ?_
        refine g_getr (b := 4) C 27 rfl flX9_21 (hZ.at (i := 0) rfl) rfl ?_
        refine g_iload_n C 28 2 rfl rfl ?_
        refine g_callVi C 29 [.int l3] [] rfl (M_X0_reachedNext hZ 4 (Or.inl rfl) l3) cnX9_189 cwX0_reachedNext ciX0_reachedNext (hZ.at (i := 4) rfl) rfl rfl rfl rfl (Nat.le_of_ble_eq_true rfl) ⟨Nat.le_of_ble_eq_true rfl, Nat.le_of_ble_eq_true rfl⟩ h (fun r1 s2 h => ?_)
        refine g_istore_n C 30 [(3, .int r1), (0, .ref (ad 0)), (2, .int l2), (4, .int l4)] rfl (by decide) rfl ?_
        refine g_iinc C 31 3 (l4 + 1) [(4, .int (l4 + 1)), (3, .int r1), (0, .ref (ad 0)), (2, .int l2)] rfl rfl (by decide) rfl rfl ?_
        refine g_goto C 32 24 rfl rfl ?_
        refine g_sub C [2, 3, 1, 0] [(0, .ref (ad 0)), (2, .int l2), (3, .int r1), (4, .int (l4 + 1))] rfl ?_
        exact ih _ _ _ h
      · refine g_iload C 24 3 rfl rfl ?_
        exact g_ireturn C 25 rfl h
set_option maxRecDepth 20000 in
set_option maxHeartbeats 4000000 in
theorem M_X9_way {Z : List gH} (hZ : Lay Z) (l1 : Int32) (l2 : Int32) : gMet yX9_way cX9_way 5 (some .int) 3 Z (fun ad => [.ref (ad 0), .int l1, .int l2]) (F_X9_way Z l1 l2) := by
  refine gMet_intro T_X9_way T_X9_way_ok rfl (fun _ => Nat.le_of_ble_eq_true rfl) (fun g ad σ z C h => ?_)
  show g 0 [(0, .ref (ad 0)), (1, .int l1), (2, .int l2)] [] σ
  rw [F_X9_way] at h
  refine g_iload_n C 0 1 rfl rfl ?_
  refine g_callSi C 1 [.int l1] [] rfl (M_X9_isRoom hZ l1) cnX9_87 cwX9_isRoom csX9_isRoom rfl rfl rfl (Nat.le_of_ble_eq_true rfl) ⟨Nat.le_of_ble_eq_true rfl, Nat.le_of_ble_eq_true rfl⟩ h (fun r1 s2 h => ?_)
  refine g_if_eq C 2 14 rfl rfl h (fun h => ?_) (fun h => ?_)
  · refine g_ldc C 6 rfl kcX9_94 ?_
    exact g_ireturn C 7 rfl h
  · refine g_iload_n C 3 2 rfl rfl ?_
    refine g_callSi C 4 [.int l2] [] rfl (M_X9_isRoom hZ l2) cnX9_87 cwX9_isRoom csX9_isRoom rfl rfl rfl (Nat.le_of_ble_eq_true rfl) ⟨Nat.le_of_ble_eq_true rfl, Nat.le_of_ble_eq_true rfl⟩ h (fun r3 s4 h => ?_)
    refine g_if_ne C 5 17 rfl rfl h (fun h => ?_) (fun h => ?_)
    · refine g_iconst (v := 1) C 8 rfl rfl ?_
      refine g_iload_n C 9 1 rfl rfl ?_
      refine g_ishl C 10 rfl ?_
      refine g_let h (fun v5 h => ?_)
      refine g_istore_n C 11 [(3, .int v5), (0, .ref (ad 0)), (1, .int l1), (2, .int l2)] rfl (by decide) rfl ?_
      refine g_iconst (v := 0) C 12 rfl rfl ?_
      refine g_istore C 13 [(4, .int 0), (3, .int v5), (0, .ref (ad 0)), (1, .int l1), (2, .int l2)] rfl (by decide) rfl ?_
      refine g_sub C [2, 4, 1, 0] [(0, .ref (ad 0)), (2, .int l2), (3, .int v5), (4, .int 0)] rfl ?_
      exact C_F_X9_way_L24 C hZ _ _ _ _ _ h
    · refine g_ldc C 6 rfl kcX9_94 ?_
      exact g_ireturn C 7 rfl h
def T_X9_minutes : List (Nat × Instr × Nat) := [(0, .iload_n 1, 1), (1, .iconst 1, 1), (2, .bipush 100, 2), (4, .invokestatic 90, 3), (7, .ifCond .ne 6, 3), (10, .ldc 94, 2), (12, .ireturn, 1), (13, .aload_n 0, 1), (14, .getfield 21, 3), (17, .getfield 193, 3), (20, .istore_n 2, 1), (21, .iload_n 1, 1), (22, .sipush 9999, 3), (25, .aload_n 0, 1), (26, .getfield 21, 3), (29, .getfield 196, 3), (32, .isub, 1), (33, .invokestatic 143, 3), (36, .istore_n 3, 1), (37, .iconst 0, 1), (38, .istore 4, 2), (40, .iload 4, 2), (42, .iload_n 3, 1), (43, .if_icmp .ge 16, 3), (46, .aload_n 0, 1), (47, .getfield 21, 3), (50, .invokevirtual 199, 3), (53, .iinc 4 1, 3), (56, .goto (-16), 3), (59, .aload_n 0, 1), (60, .getfield 21, 3), (63, .getfield 193, 3), (66, .iload_n 2, 1), (67, .isub, 1), (68, .ireturn, 1)]
theorem T_X9_minutes_ok : gTb cX9_minutes T_X9_minutes = true := by decide +kernel
def F_X9_minutes_L40 (Z : List gH) : Nat → Int32 → Int32 → Int32 → gS → Option (Int32 × gS)
  | 0, _, _, _, _ => none
  | n + 1, l2, l3, l4, σ => if l3 ≤ l4 then some (((σ 4 14) - l2), σ) else mCall (F_X0_passMinute Z 4 σ) (fun r1 s2 => F_X9_minutes_L40 Z n l2 l3 (l4 + 1) s2)
def F_X9_minutes (Z : List gH) (l1 : Int32) (σ : gS) : Option (Int32 × gS) := mCall (F_X9_within Z l1 1 100 σ) (fun r1 s2 => if r1 = 0 then some ((-1000000001), s2) else mLet ((s2 4 14)) (fun v3 => mLet ((mMin l1 (9999 - (s2 4 17)))) (fun v4 => F_X9_minutes_L40 Z mFuel v3 v4 0 s2)))
set_option maxRecDepth 20000 in
set_option maxHeartbeats 4000000 in
theorem C_F_X9_minutes_L40 {g : Nat → List (Nat × Value) → List Value → gS → Prop} {Z : List gH} {ad : Nat → Nat} {z : Int32 × gS}  (C : gOk g T_X9_minutes RX9 5 (some .int) 7 Z ad z) (hZ : Lay Z) : ∀ (n : Nat) (l2 : Int32) (l3 : Int32) (l4 : Int32) (σ : gS), F_X9_minutes_L40 Z n l2 l3 l4 σ = some z → g 40 [(0, .ref (ad 0)), (2, .int l2), (3, .int l3), (4, .int l4)] [] σ := by
  intro n
  induction n with
  | zero => intro l2 l3 l4 σ h; cases h
  | succ n ih =>
    intro l2 l3 l4 σ h
    rw [F_X9_minutes_L40] at h
    refine g_iload C 21 3 rfl rfl ?_
    refine g_iload_n C 22 2 rfl rfl ?_
    refine g_icmp_ge C 23 59 rfl rfl h (fun h => ?_) (fun h => ?_)
    · refine g_aload_n C 29 0 rfl rfl ?_
      refine g_getr (b := 4) C 30 rfl flX9_21 (hZ.at (i := 0) rfl) rfl ?_
      refine g_geti C 31 rfl flX9_193 (hZ.at (i := 4) rfl) rfl ?_
      refine g_iload_n C 32 1 rfl rfl ?_
      refine g_isub C 33 rfl ?_
      exact g_ireturn C 34 rfl h
    · refine g_aload_n C 24 0 rfl rfl ?_
      refine g_getr (b := 4) C 25 rfl flX9_21 (hZ.at (i := 0) rfl) rfl ?_
      refine g_callVv C 26 [] [] rfl (M_X0_passMinute hZ 4 (Or.inl rfl)) cnX9_199 cwX0_passMinute ciX0_passMinute (hZ.at (i := 4) rfl) rfl rfl rfl rfl (Nat.le_of_ble_eq_true rfl) ⟨Nat.le_of_ble_eq_true rfl, Nat.le_of_ble_eq_true rfl⟩ h (fun r1 s2 h => ?_)
      refine g_iinc C 27 3 (l4 + 1) [(4, .int (l4 + 1)), (0, .ref (ad 0)), (2, .int l2), (3, .int l3)] rfl rfl (by decide) rfl rfl ?_
      refine g_goto C 28 40 rfl rfl ?_
      refine g_sub C [1, 2, 3, 0] [(0, .ref (ad 0)), (2, .int l2), (3, .int l3), (4, .int (l4 + 1))] rfl ?_
      exact ih _ _ _ _ h
set_option maxRecDepth 20000 in
set_option maxHeartbeats 4000000 in
theorem M_X9_minutes {Z : List gH} (hZ : Lay Z) (l1 : Int32) : gMet yX9_minutes cX9_minutes 5 (some .int) 7 Z (fun ad => [.ref (ad 0), .int l1]) (F_X9_minutes Z l1) := by
  refine gMet_intro T_X9_minutes T_X9_minutes_ok rfl (fun _ => Nat.le_of_ble_eq_true rfl) (fun g ad σ z C h => ?_)
  show g 0 [(0, .ref (ad 0)), (1, .int l1)] [] σ
  rw [F_X9_minutes] at h
  refine g_iload_n C 0 1 rfl rfl ?_
  refine g_iconst (v := 1) C 1 rfl rfl ?_
  refine g_bipush (v := 100) C 2 rfl rfl ?_
  refine g_callSi C 3 [.int l1, .int 1, .int 100] [] rfl (M_X9_within hZ l1 1 100) cnX9_90 cwX9_within csX9_within rfl rfl rfl (Nat.le_of_ble_eq_true rfl) ⟨Nat.le_of_ble_eq_true rfl, Nat.le_of_ble_eq_true rfl⟩ h (fun r1 s2 h => ?_)
  refine g_if_ne C 4 13 rfl rfl h (fun h => ?_) (fun h => ?_)
  · refine g_aload_n C 7 0 rfl rfl ?_
    refine g_getr (b := 4) C 8 rfl flX9_21 (hZ.at (i := 0) rfl) rfl ?_
    refine g_geti C 9 rfl flX9_193 (hZ.at (i := 4) rfl) rfl ?_
    refine g_let h (fun v3 h => ?_)
    refine g_istore_n C 10 [(2, .int v3), (0, .ref (ad 0)), (1, .int l1)] rfl (by decide) rfl ?_
    refine g_iload_n C 11 2 rfl rfl ?_
    refine g_sipush (v := 9999) C 12 rfl rfl ?_
    refine g_aload_n C 13 1 rfl rfl ?_
    refine g_getr (b := 4) C 14 rfl flX9_21 (hZ.at (i := 0) rfl) rfl ?_
    refine g_geti C 15 rfl flX9_196 (hZ.at (i := 4) rfl) rfl ?_
    refine g_isub C 16 rfl ?_
    refine g_mmin C 17 rfl cnX9_143 wm_min ⟨Nat.le_of_ble_eq_true rfl, Nat.le_of_ble_eq_true rfl⟩ ?_
    refine g_let h (fun v4 h => ?_)
    refine g_istore_n C 18 [(3, .int v4), (2, .int v3), (0, .ref (ad 0)), (1, .int l1)] rfl (by decide) rfl ?_
    refine g_iconst (v := 0) C 19 rfl rfl ?_
    refine g_istore C 20 [(4, .int 0), (3, .int v4), (2, .int v3), (0, .ref (ad 0)), (1, .int l1)] rfl (by decide) rfl ?_
    refine g_sub C [3, 2, 1, 0] [(0, .ref (ad 0)), (2, .int v3), (3, .int v4), (4, .int 0)] rfl ?_
    exact C_F_X9_minutes_L40 C hZ _ _ _ _ _ h
  · refine g_ldc C 5 rfl kcX9_94 ?_
    exact g_ireturn C 6 rfl h
def T_X9_house : List (Nat × Instr × Nat) := [(0, .iload_n 1, 1), (1, .tableswitch 87 0 5 #[39, 47, 55, 63, 71, 79], 39), (40, .aload_n 0, 1), (41, .getfield 21, 3), (44, .getfield 193, 3), (47, .ireturn, 1), (48, .aload_n 0, 1), (49, .getfield 21, 3), (52, .getfield 202, 3), (55, .ireturn, 1), (56, .aload_n 0, 1), (57, .getfield 21, 3), (60, .getfield 205, 3), (63, .ireturn, 1), (64, .aload_n 0, 1), (65, .getfield 21, 3), (68, .invokevirtual 208, 3), (71, .ireturn, 1), (72, .aload_n 0, 1), (73, .getfield 21, 3), (76, .invokevirtual 212, 3), (79, .ireturn, 1), (80, .aload_n 0, 1), (81, .getfield 21, 3), (84, .getfield 173, 3), (87, .ireturn, 1), (88, .ldc 94, 2), (90, .ireturn, 1)]
theorem T_X9_house_ok : gTb cX9_house T_X9_house = true := by decide +kernel
def F_X9_house (Z : List gH) (l1 : Int32) (σ : gS) : Option (Int32 × gS) := if l1 = 0 then some ((σ 4 14), σ) else if l1 = 1 then some ((σ 4 15), σ) else if l1 = 2 then some ((σ 4 16), σ) else if l1 = 3 then mCall (F_X0_litSet Z 4 σ) (fun r1 s2 => some (r1, s2)) else if l1 = 4 then mCall (F_X0_heatTogether Z 4 σ) (fun r3 s4 => some (r3, s4)) else if l1 = 5 then some ((σ 4 10), σ) else some ((-1000000001), σ)
set_option maxRecDepth 20000 in
set_option maxHeartbeats 4000000 in
theorem M_X9_house {Z : List gH} (hZ : Lay Z) (l1 : Int32) : gMet yX9_house cX9_house 2 (some .int) 2 Z (fun ad => [.ref (ad 0), .int l1]) (F_X9_house Z l1) := by
  refine gMet_intro T_X9_house T_X9_house_ok rfl (fun _ => Nat.le_of_ble_eq_true rfl) (fun g ad σ z C h => ?_)
  show g 0 [(0, .ref (ad 0)), (1, .int l1)] [] σ
  rw [F_X9_house] at h
  refine g_iload_n C 0 1 rfl rfl ?_
  by_cases hx0_0 : l1 = 0
  · rw [if_pos hx0_0] at h
    refine g_tblAt C 1 0 hx0_0 40 rfl (by decide) (by decide) rfl rfl ?_
    refine g_aload_n C 2 0 rfl rfl ?_
    refine g_getr (b := 4) C 3 rfl flX9_21 (hZ.at (i := 0) rfl) rfl ?_
    refine g_geti C 4 rfl flX9_193 (hZ.at (i := 4) rfl) rfl ?_
    exact g_ireturn C 5 rfl h
  · rw [if_neg hx0_0] at h
    by_cases hx0_1 : l1 = 1
    · rw [if_pos hx0_1] at h
      refine g_tblAt C 1 1 hx0_1 48 rfl (by decide) (by decide) rfl rfl ?_
      refine g_aload_n C 6 0 rfl rfl ?_
      refine g_getr (b := 4) C 7 rfl flX9_21 (hZ.at (i := 0) rfl) rfl ?_
      refine g_geti C 8 rfl flX9_202 (hZ.at (i := 4) rfl) rfl ?_
      exact g_ireturn C 9 rfl h
    · rw [if_neg hx0_1] at h
      by_cases hx0_2 : l1 = 2
      · rw [if_pos hx0_2] at h
        refine g_tblAt C 1 2 hx0_2 56 rfl (by decide) (by decide) rfl rfl ?_
        refine g_aload_n C 10 0 rfl rfl ?_
        refine g_getr (b := 4) C 11 rfl flX9_21 (hZ.at (i := 0) rfl) rfl ?_
        refine g_geti C 12 rfl flX9_205 (hZ.at (i := 4) rfl) rfl ?_
        exact g_ireturn C 13 rfl h
      · rw [if_neg hx0_2] at h
        by_cases hx0_3 : l1 = 3
        · rw [if_pos hx0_3] at h
          refine g_tblAt C 1 3 hx0_3 64 rfl (by decide) (by decide) rfl rfl ?_
          refine g_aload_n C 14 0 rfl rfl ?_
          refine g_getr (b := 4) C 15 rfl flX9_21 (hZ.at (i := 0) rfl) rfl ?_
          refine g_callVi C 16 [] [] rfl (M_X0_litSet hZ 4 (Or.inl rfl)) cnX9_208 cwX0_litSet ciX0_litSet (hZ.at (i := 4) rfl) rfl rfl rfl rfl (Nat.le_of_ble_eq_true rfl) ⟨Nat.le_of_ble_eq_true rfl, Nat.le_of_ble_eq_true rfl⟩ h (fun r1 s2 h => ?_)
          exact g_ireturn C 17 rfl h
        · rw [if_neg hx0_3] at h
          by_cases hx2_4 : l1 = 4
          · rw [if_pos hx2_4] at h
            refine g_tblAt C 1 4 hx2_4 72 rfl (by decide) (by decide) rfl rfl ?_
            refine g_aload_n C 18 0 rfl rfl ?_
            refine g_getr (b := 4) C 19 rfl flX9_21 (hZ.at (i := 0) rfl) rfl ?_
            refine g_callVi C 20 [] [] rfl (M_X0_heatTogether hZ 4 (Or.inl rfl)) cnX9_212 cwX0_heatTogether ciX0_heatTogether (hZ.at (i := 4) rfl) rfl rfl rfl rfl (Nat.le_of_ble_eq_true rfl) ⟨Nat.le_of_ble_eq_true rfl, Nat.le_of_ble_eq_true rfl⟩ h (fun r3 s4 h => ?_)
            exact g_ireturn C 21 rfl h
          · rw [if_neg hx2_4] at h
            by_cases hx4_5 : l1 = 5
            · rw [if_pos hx4_5] at h
              refine g_tblAt C 1 5 hx4_5 80 rfl (by decide) (by decide) rfl rfl ?_
              refine g_aload_n C 22 0 rfl rfl ?_
              refine g_getr (b := 4) C 23 rfl flX9_21 (hZ.at (i := 0) rfl) rfl ?_
              refine g_geti C 24 rfl flX9_173 (hZ.at (i := 4) rfl) rfl ?_
              exact g_ireturn C 25 rfl h
            · rw [if_neg hx4_5] at h
              refine g_tblOut C 1 88 rfl (by have e0 := i32ne hx0_0 0 rfl; have e1 := i32ne hx0_1 1 rfl; have e2 := i32ne hx0_2 2 rfl; have e3 := i32ne hx0_3 3 rfl; have e4 := i32ne hx2_4 4 rfl; have e5 := i32ne hx4_5 5 rfl; omega) rfl ?_
              refine g_ldc C 26 rfl kcX9_94 ?_
              exact g_ireturn C 27 rfl h
def T_X9_thinkOn : List (Nat × Instr × Nat) := [(0, .iconst 0, 1), (1, .istore_n 3, 1), (2, .iload_n 3, 1), (3, .iload_n 1, 1), (4, .if_icmp .ge 27, 3), (7, .aload_n 0, 1), (8, .getfield 28, 3), (11, .getfield 193, 3), (14, .iload_n 2, 1), (15, .if_icmp .ge 16, 3), (18, .aload_n 0, 1), (19, .getfield 28, 3), (22, .invokevirtual 199, 3), (25, .iinc 3 1, 3), (28, .goto (-26), 3), (31, .aload_n 0, 1), (32, .getfield 28, 3), (35, .getfield 193, 3), (38, .ireturn, 1)]
theorem T_X9_thinkOn_ok : gTb cX9_thinkOn T_X9_thinkOn = true := by decide +kernel
def F_X9_thinkOn_L2 (Z : List gH) (l1 : Int32) (l2 : Int32) : Nat → Int32 → gS → Option (Int32 × gS)
  | 0, _, _ => none
  | n + 1, l3, σ => if l1 ≤ l3 then some ((σ 22 14), σ) else if l2 ≤ (σ 22 14) then some ((σ 22 14), σ) else mCall (F_X0_passMinute Z 22 σ) (fun r1 s2 => F_X9_thinkOn_L2 Z l1 l2 n (l3 + 1) s2)
def F_X9_thinkOn (Z : List gH) (l1 : Int32) (l2 : Int32) (σ : gS) : Option (Int32 × gS) := F_X9_thinkOn_L2 Z l1 l2 mFuel 0 σ
set_option maxRecDepth 20000 in
set_option maxHeartbeats 4000000 in
theorem C_F_X9_thinkOn_L2 {g : Nat → List (Nat × Value) → List Value → gS → Prop} {Z : List gH} {ad : Nat → Nat} {z : Int32 × gS}  (C : gOk g T_X9_thinkOn RX9 4 (some .int) 7 Z ad z) (hZ : Lay Z) (l1 : Int32) (l2 : Int32) : ∀ (n : Nat) (l3 : Int32) (σ : gS), F_X9_thinkOn_L2 Z l1 l2 n l3 σ = some z → g 2 [(0, .ref (ad 0)), (1, .int l1), (2, .int l2), (3, .int l3)] [] σ := by
  intro n
  induction n with
  | zero => intro l3 σ h; cases h
  | succ n ih =>
    intro l3 σ h
    rw [F_X9_thinkOn_L2] at h
    refine g_iload_n C 2 3 rfl rfl ?_
    refine g_iload_n C 3 1 rfl rfl ?_
    refine g_icmp_ge C 4 31 rfl rfl h (fun h => ?_) (fun h => ?_)
    · refine g_aload_n C 15 0 rfl rfl ?_
      refine g_getr (b := 22) C 16 rfl flX9_28 (hZ.at (i := 0) rfl) rfl ?_
      refine g_geti C 17 rfl flX9_193 (hZ.at (i := 22) rfl) rfl ?_
      exact g_ireturn C 18 rfl h
    · refine g_aload_n C 5 0 rfl rfl ?_
      refine g_getr (b := 22) C 6 rfl flX9_28 (hZ.at (i := 0) rfl) rfl ?_
      refine g_geti C 7 rfl flX9_193 (hZ.at (i := 22) rfl) rfl ?_
      refine g_iload_n C 8 2 rfl rfl ?_
      refine g_icmp_ge C 9 31 rfl rfl h (fun h => ?_) (fun h => ?_)
      · refine g_aload_n C 15 0 rfl rfl ?_
        refine g_getr (b := 22) C 16 rfl flX9_28 (hZ.at (i := 0) rfl) rfl ?_
        refine g_geti C 17 rfl flX9_193 (hZ.at (i := 22) rfl) rfl ?_
        exact g_ireturn C 18 rfl h
      · refine g_aload_n C 10 0 rfl rfl ?_
        refine g_getr (b := 22) C 11 rfl flX9_28 (hZ.at (i := 0) rfl) rfl ?_
        refine g_callVv C 12 [] [] rfl (M_X0_passMinute hZ 22 (Or.inr (Or.inr rfl))) cnX9_199 cwX0_passMinute ciX0_passMinute (hZ.at (i := 22) rfl) rfl rfl rfl rfl (Nat.le_of_ble_eq_true rfl) ⟨Nat.le_of_ble_eq_true rfl, Nat.le_of_ble_eq_true rfl⟩ h (fun r1 s2 h => ?_)
        refine g_iinc C 13 3 (l3 + 1) [(3, .int (l3 + 1)), (0, .ref (ad 0)), (1, .int l1), (2, .int l2)] rfl rfl (by decide) rfl rfl ?_
        refine g_goto C 14 2 rfl rfl ?_
        refine g_sub C [1, 2, 3, 0] [(0, .ref (ad 0)), (1, .int l1), (2, .int l2), (3, .int (l3 + 1))] rfl ?_
        exact ih _ _ h
set_option maxRecDepth 20000 in
set_option maxHeartbeats 4000000 in
theorem M_X9_thinkOn {Z : List gH} (hZ : Lay Z) (l1 : Int32) (l2 : Int32) : gMet yX9_thinkOn cX9_thinkOn 4 (some .int) 7 Z (fun ad => [.ref (ad 0), .int l1, .int l2]) (F_X9_thinkOn Z l1 l2) := by
  refine gMet_intro T_X9_thinkOn T_X9_thinkOn_ok rfl (fun _ => Nat.le_of_ble_eq_true rfl) (fun g ad σ z C h => ?_)
  show g 0 [(0, .ref (ad 0)), (1, .int l1), (2, .int l2)] [] σ
  rw [F_X9_thinkOn] at h
  refine g_iconst (v := 0) C 0 rfl rfl ?_
  refine g_istore_n C 1 [(3, .int 0), (0, .ref (ad 0)), (1, .int l1), (2, .int l2)] rfl (by decide) rfl ?_
  refine g_sub C [1, 2, 3, 0] [(0, .ref (ad 0)), (1, .int l1), (2, .int l2), (3, .int 0)] rfl ?_
  exact C_F_X9_thinkOn_L2 C hZ _ _ _ _ _ h
def T_X9_behind : List (Nat × Instr × Nat) := [(0, .iload_n 1, 1), (1, .iconst 0, 1), (2, .bipush 100, 2), (4, .invokestatic 90, 3), (7, .ifCond .eq 13, 3), (10, .iload_n 2, 1), (11, .iconst 0, 1), (12, .bipush 11, 2), (14, .invokestatic 90, 3), (17, .ifCond .ne 6, 3), (20, .ldc 94, 2), (22, .ireturn, 1), (23, .aload_n 0, 1), (24, .getfield 28, 3), (27, .aload_n 0, 1), (28, .getfield 21, 3), (31, .invokevirtual 215, 3), (34, .aload_n 0, 1), (35, .iload_n 1, 1), (36, .ldc 219, 2), (38, .invokevirtual 220, 3), (41, .pop, 1), (42, .iload_n 2, 1), (43, .tableswitch 61 0 3 #[29, 37, 45, 53], 29), (72, .aload_n 0, 1), (73, .getfield 28, 3), (76, .getfield 193, 3), (79, .ireturn, 1), (80, .aload_n 0, 1), (81, .getfield 28, 3), (84, .getfield 202, 3), (87, .ireturn, 1), (88, .aload_n 0, 1), (89, .getfield 28, 3), (92, .invokevirtual 208, 3), (95, .ireturn, 1), (96, .aload_n 0, 1), (97, .getfield 28, 3), (100, .invokevirtual 212, 3), (103, .ireturn, 1), (104, .aload_n 0, 1), (105, .getfield 28, 3), (108, .getfield 154, 3), (111, .iload_n 2, 1), (112, .iconst 4, 1), (113, .isub, 1), (114, .iaload, 1), (115, .ireturn, 1)]
theorem T_X9_behind_ok : gTb cX9_behind T_X9_behind = true := by decide +kernel
def F_X9_behind (Z : List gH) (l1 : Int32) (l2 : Int32) (σ : gS) : Option (Int32 × gS) := mCall (F_X9_within Z l1 0 100 σ) (fun r1 s2 => if r1 = 0 then some ((-1000000001), s2) else mCall (F_X9_within Z l2 0 11 s2) (fun r3 s4 => if r3 = 0 then some ((-1000000001), s4) else mCall (F_X0_becomeAs Z 22 4 s4) (fun r5 s6 => mCall (F_X9_thinkOn Z l1 2147483647 s6) (fun r7 s8 => if l2 = 0 then some ((s8 22 14), s8) else if l2 = 1 then some ((s8 22 15), s8) else if l2 = 2 then mCall (F_X0_litSet Z 22 s8) (fun r9 s10 => some (r9, s10)) else if l2 = 3 then mCall (F_X0_heatTogether Z 22 s8) (fun r11 s12 => some (r11, s12)) else mIn 8 (l2 - 4) (some ((s8 27 (nn (l2 - 4))), s8))))))
set_option maxRecDepth 20000 in
set_option maxHeartbeats 4000000 in
theorem M_X9_behind {Z : List gH} (hZ : Lay Z) (l1 : Int32) (l2 : Int32) : gMet yX9_behind cX9_behind 3 (some .int) 8 Z (fun ad => [.ref (ad 0), .int l1, .int l2]) (F_X9_behind Z l1 l2) := by
  refine gMet_intro T_X9_behind T_X9_behind_ok rfl (fun _ => Nat.le_of_ble_eq_true rfl) (fun g ad σ z C h => ?_)
  show g 0 [(0, .ref (ad 0)), (1, .int l1), (2, .int l2)] [] σ
  rw [F_X9_behind] at h
  refine g_iload_n C 0 1 rfl rfl ?_
  refine g_iconst (v := 0) C 1 rfl rfl ?_
  refine g_bipush (v := 100) C 2 rfl rfl ?_
  refine g_callSi C 3 [.int l1, .int 0, .int 100] [] rfl (M_X9_within hZ l1 0 100) cnX9_90 cwX9_within csX9_within rfl rfl rfl (Nat.le_of_ble_eq_true rfl) ⟨Nat.le_of_ble_eq_true rfl, Nat.le_of_ble_eq_true rfl⟩ h (fun r1 s2 h => ?_)
  refine g_if_eq C 4 20 rfl rfl h (fun h => ?_) (fun h => ?_)
  · refine g_ldc C 10 rfl kcX9_94 ?_
    exact g_ireturn C 11 rfl h
  · refine g_iload_n C 5 2 rfl rfl ?_
    refine g_iconst (v := 0) C 6 rfl rfl ?_
    refine g_bipush (v := 11) C 7 rfl rfl ?_
    refine g_callSi C 8 [.int l2, .int 0, .int 11] [] rfl (M_X9_within hZ l2 0 11) cnX9_90 cwX9_within csX9_within rfl rfl rfl (Nat.le_of_ble_eq_true rfl) ⟨Nat.le_of_ble_eq_true rfl, Nat.le_of_ble_eq_true rfl⟩ h (fun r3 s4 h => ?_)
    refine g_if_ne C 9 23 rfl rfl h (fun h => ?_) (fun h => ?_)
    · refine g_aload_n C 12 0 rfl rfl ?_
      refine g_getr (b := 22) C 13 rfl flX9_28 (hZ.at (i := 0) rfl) rfl ?_
      refine g_aload_n C 14 0 rfl rfl ?_
      refine g_getr (b := 4) C 15 rfl flX9_21 (hZ.at (i := 0) rfl) rfl ?_
      refine g_callVv C 16 [.ref (ad 4)] [] rfl (M_X0_becomeAs hZ 22 (Or.inr (Or.inr rfl)) 4 (Or.inl rfl)) cnX9_215 cwX0_becomeAs ciX0_becomeAs (hZ.at (i := 22) rfl) rfl rfl rfl rfl (Nat.le_of_ble_eq_true rfl) ⟨Nat.le_of_ble_eq_true rfl, Nat.le_of_ble_eq_true rfl⟩ h (fun r5 s6 h => ?_)
      refine g_aload_n C 17 0 rfl rfl ?_
      refine g_iload_n C 18 1 rfl rfl ?_
      refine g_ldc C 19 rfl kcX9_219 ?_
      refine g_callVi C 20 [.int l1, .int 2147483647] [] rfl (M_X9_thinkOn hZ l1 2147483647) cnX9_220 cwX9_thinkOn ciX9_thinkOn (hZ.at (i := 0) rfl) rfl rfl rfl rfl (Nat.le_of_ble_eq_true rfl) ⟨Nat.le_of_ble_eq_true rfl, Nat.le_of_ble_eq_true rfl⟩ h (fun r7 s8 h => ?_)
      refine g_pop C 21 rfl rfl ?_
      refine g_iload_n C 22 2 rfl rfl ?_
      by_cases hx8_0 : l2 = 0
      · rw [if_pos hx8_0] at h
        refine g_tblAt C 23 0 hx8_0 72 rfl (by decide) (by decide) rfl rfl ?_
        refine g_aload_n C 24 0 rfl rfl ?_
        refine g_getr (b := 22) C 25 rfl flX9_28 (hZ.at (i := 0) rfl) rfl ?_
        refine g_geti C 26 rfl flX9_193 (hZ.at (i := 22) rfl) rfl ?_
        exact g_ireturn C 27 rfl h
      · rw [if_neg hx8_0] at h
        by_cases hx8_1 : l2 = 1
        · rw [if_pos hx8_1] at h
          refine g_tblAt C 23 1 hx8_1 80 rfl (by decide) (by decide) rfl rfl ?_
          refine g_aload_n C 28 0 rfl rfl ?_
          refine g_getr (b := 22) C 29 rfl flX9_28 (hZ.at (i := 0) rfl) rfl ?_
          refine g_geti C 30 rfl flX9_202 (hZ.at (i := 22) rfl) rfl ?_
          exact g_ireturn C 31 rfl h
        · rw [if_neg hx8_1] at h
          by_cases hx8_2 : l2 = 2
          · rw [if_pos hx8_2] at h
            refine g_tblAt C 23 2 hx8_2 88 rfl (by decide) (by decide) rfl rfl ?_
            refine g_aload_n C 32 0 rfl rfl ?_
            refine g_getr (b := 22) C 33 rfl flX9_28 (hZ.at (i := 0) rfl) rfl ?_
            refine g_callVi C 34 [] [] rfl (M_X0_litSet hZ 22 (Or.inr (Or.inr rfl))) cnX9_208 cwX0_litSet ciX0_litSet (hZ.at (i := 22) rfl) rfl rfl rfl rfl (Nat.le_of_ble_eq_true rfl) ⟨Nat.le_of_ble_eq_true rfl, Nat.le_of_ble_eq_true rfl⟩ h (fun r9 s10 h => ?_)
            exact g_ireturn C 35 rfl h
          · rw [if_neg hx8_2] at h
            by_cases hx10_3 : l2 = 3
            · rw [if_pos hx10_3] at h
              refine g_tblAt C 23 3 hx10_3 96 rfl (by decide) (by decide) rfl rfl ?_
              refine g_aload_n C 36 0 rfl rfl ?_
              refine g_getr (b := 22) C 37 rfl flX9_28 (hZ.at (i := 0) rfl) rfl ?_
              refine g_callVi C 38 [] [] rfl (M_X0_heatTogether hZ 22 (Or.inr (Or.inr rfl))) cnX9_212 cwX0_heatTogether ciX0_heatTogether (hZ.at (i := 22) rfl) rfl rfl rfl rfl (Nat.le_of_ble_eq_true rfl) ⟨Nat.le_of_ble_eq_true rfl, Nat.le_of_ble_eq_true rfl⟩ h (fun r11 s12 h => ?_)
              exact g_ireturn C 39 rfl h
            · rw [if_neg hx10_3] at h
              refine g_tblOut C 23 104 rfl (by have e0 := i32ne hx8_0 0 rfl; have e1 := i32ne hx8_1 1 rfl; have e2 := i32ne hx8_2 2 rfl; have e3 := i32ne hx10_3 3 rfl; omega) rfl ?_
              refine g_aload_n C 40 0 rfl rfl ?_
              refine g_getr (b := 22) C 41 rfl flX9_28 (hZ.at (i := 0) rfl) rfl ?_
              refine g_getr (b := 27) C 42 rfl flX9_154 (hZ.at (i := 22) rfl) rfl ?_
              refine g_iload_n C 43 2 rfl rfl ?_
              refine g_iconst (v := 4) C 44 rfl rfl ?_
              refine g_isub C 45 rfl ?_
              refine g_iald C 46 rfl (hZ.at (i := 27) rfl) h (fun h => ?_)
              exact g_ireturn C 47 rfl h
    · refine g_ldc C 10 rfl kcX9_94 ?_
      exact g_ireturn C 11 rfl h
def T_X9_out : List (Nat × Instr × Nat) := [(0, .aload_n 0, 1), (1, .getfield 28, 3), (4, .aload_n 0, 1), (5, .getfield 21, 3), (8, .invokevirtual 215, 3), (11, .iconst 0, 1), (12, .istore_n 1, 1), (13, .iload_n 1, 1), (14, .sipush 200, 3), (17, .if_icmp .gt 28, 3), (20, .aload_n 0, 1), (21, .getfield 28, 3), (24, .invokevirtual 208, 3), (27, .ifCond .ne 5, 3), (30, .iload_n 1, 1), (31, .ireturn, 1), (32, .aload_n 0, 1), (33, .getfield 28, 3), (36, .invokevirtual 199, 3), (39, .iinc 1 1, 3), (42, .goto (-29), 3), (45, .ldc 192, 2), (47, .ireturn, 1)]
theorem T_X9_out_ok : gTb cX9_out T_X9_out = true := by decide +kernel
def F_X9_out_L13 (Z : List gH) : Nat → Int32 → gS → Option (Int32 × gS)
  | 0, _, _ => none
  | n + 1, l1, σ => if 200 < l1 then some ((-1000000005), σ) else mCall (F_X0_litSet Z 22 σ) (fun r1 s2 => if r1 = 0 then some (l1, s2) else mCall (F_X0_passMinute Z 22 s2) (fun r3 s4 => F_X9_out_L13 Z n (l1 + 1) s4))
def F_X9_out (Z : List gH) (σ : gS) : Option (Int32 × gS) := mCall (F_X0_becomeAs Z 22 4 σ) (fun r1 s2 => F_X9_out_L13 Z mFuel 0 s2)
set_option maxRecDepth 20000 in
set_option maxHeartbeats 4000000 in
theorem C_F_X9_out_L13 {g : Nat → List (Nat × Value) → List Value → gS → Prop} {Z : List gH} {ad : Nat → Nat} {z : Int32 × gS}  (C : gOk g T_X9_out RX9 2 (some .int) 7 Z ad z) (hZ : Lay Z) : ∀ (n : Nat) (l1 : Int32) (σ : gS), F_X9_out_L13 Z n l1 σ = some z → g 13 [(0, .ref (ad 0)), (1, .int l1)] [] σ := by
  intro n
  induction n with
  | zero => intro l1 σ h; cases h
  | succ n ih =>
    intro l1 σ h
    rw [F_X9_out_L13] at h
    refine g_iload_n C 7 1 rfl rfl ?_
    refine g_sipush (v := 200) C 8 rfl rfl ?_
    refine g_icmp_gt C 9 45 rfl rfl h (fun h => ?_) (fun h => ?_)
    · refine g_ldc C 21 rfl kcX9_192 ?_
      exact g_ireturn C 22 rfl h
    · refine g_aload_n C 10 0 rfl rfl ?_
      refine g_getr (b := 22) C 11 rfl flX9_28 (hZ.at (i := 0) rfl) rfl ?_
      refine g_callVi C 12 [] [] rfl (M_X0_litSet hZ 22 (Or.inr (Or.inr rfl))) cnX9_208 cwX0_litSet ciX0_litSet (hZ.at (i := 22) rfl) rfl rfl rfl rfl (Nat.le_of_ble_eq_true rfl) ⟨Nat.le_of_ble_eq_true rfl, Nat.le_of_ble_eq_true rfl⟩ h (fun r1 s2 h => ?_)
      refine g_if_ne C 13 32 rfl rfl h (fun h => ?_) (fun h => ?_)
      · refine g_aload_n C 16 0 rfl rfl ?_
        refine g_getr (b := 22) C 17 rfl flX9_28 (hZ.at (i := 0) rfl) rfl ?_
        refine g_callVv C 18 [] [] rfl (M_X0_passMinute hZ 22 (Or.inr (Or.inr rfl))) cnX9_199 cwX0_passMinute ciX0_passMinute (hZ.at (i := 22) rfl) rfl rfl rfl rfl (Nat.le_of_ble_eq_true rfl) ⟨Nat.le_of_ble_eq_true rfl, Nat.le_of_ble_eq_true rfl⟩ h (fun r3 s4 h => ?_)
        refine g_iinc C 19 1 (l1 + 1) [(1, .int (l1 + 1)), (0, .ref (ad 0))] rfl rfl (by decide) rfl rfl ?_
        refine g_goto C 20 13 rfl rfl ?_
        refine g_sub C [1, 0] [(0, .ref (ad 0)), (1, .int (l1 + 1))] rfl ?_
        exact ih _ _ h
      · refine g_iload_n C 14 1 rfl rfl ?_
        exact g_ireturn C 15 rfl h
set_option maxRecDepth 20000 in
set_option maxHeartbeats 4000000 in
theorem M_X9_out {Z : List gH} (hZ : Lay Z) : gMet yX9_out cX9_out 2 (some .int) 7 Z (fun ad => [.ref (ad 0)]) (F_X9_out Z) := by
  refine gMet_intro T_X9_out T_X9_out_ok rfl (fun _ => Nat.le_of_ble_eq_true rfl) (fun g ad σ z C h => ?_)
  show g 0 [(0, .ref (ad 0))] [] σ
  rw [F_X9_out] at h
  refine g_aload_n C 0 0 rfl rfl ?_
  refine g_getr (b := 22) C 1 rfl flX9_28 (hZ.at (i := 0) rfl) rfl ?_
  refine g_aload_n C 2 0 rfl rfl ?_
  refine g_getr (b := 4) C 3 rfl flX9_21 (hZ.at (i := 0) rfl) rfl ?_
  refine g_callVv C 4 [.ref (ad 4)] [] rfl (M_X0_becomeAs hZ 22 (Or.inr (Or.inr rfl)) 4 (Or.inl rfl)) cnX9_215 cwX0_becomeAs ciX0_becomeAs (hZ.at (i := 22) rfl) rfl rfl rfl rfl (Nat.le_of_ble_eq_true rfl) ⟨Nat.le_of_ble_eq_true rfl, Nat.le_of_ble_eq_true rfl⟩ h (fun r1 s2 h => ?_)
  refine g_iconst (v := 0) C 5 rfl rfl ?_
  refine g_istore_n C 6 [(1, .int 0), (0, .ref (ad 0))] rfl (by decide) rfl ?_
  refine g_sub C [1, 0] [(0, .ref (ad 0)), (1, .int 0)] rfl ?_
  exact C_F_X9_out_L13 C hZ _ _ _ h
def T_X9_hot : List (Nat × Instr × Nat) := [(0, .iload_n 1, 1), (1, .invokestatic 87, 3), (4, .ifCond .ne 6, 3), (7, .ldc 94, 2), (9, .ireturn, 1), (10, .aload_n 0, 1), (11, .getfield 28, 3), (14, .aload_n 0, 1), (15, .getfield 21, 3), (18, .invokevirtual 215, 3), (21, .iconst 0, 1), (22, .istore_n 2, 1), (23, .iload_n 2, 1), (24, .sipush 200, 3), (27, .if_icmp .gt 32, 3), (30, .aload_n 0, 1), (31, .getfield 28, 3), (34, .getfield 154, 3), (37, .iload_n 1, 1), (38, .iaload, 1), (39, .bipush 50, 2), (41, .if_icmp .lt 5, 3), (44, .iload_n 2, 1), (45, .ireturn, 1), (46, .aload_n 0, 1), (47, .getfield 28, 3), (50, .invokevirtual 199, 3), (53, .iinc 2 1, 3), (56, .goto (-33), 3), (59, .ldc 192, 2), (61, .ireturn, 1)]
theorem T_X9_hot_ok : gTb cX9_hot T_X9_hot = true := by decide +kernel
def F_X9_hot_L23 (Z : List gH) (l1 : Int32) : Nat → Int32 → gS → Option (Int32 × gS)
  | 0, _, _ => none
  | n + 1, l2, σ => if 200 < l2 then some ((-1000000005), σ) else mIn 8 l1 (if (σ 27 (nn l1)) < 50 then mCall (F_X0_passMinute Z 22 σ) (fun r1 s2 => F_X9_hot_L23 Z l1 n (l2 + 1) s2) else some (l2, σ))
def F_X9_hot (Z : List gH) (l1 : Int32) (σ : gS) : Option (Int32 × gS) := mCall (F_X9_isRoom Z l1 σ) (fun r1 s2 => if r1 = 0 then some ((-1000000001), s2) else mCall (F_X0_becomeAs Z 22 4 s2) (fun r3 s4 => F_X9_hot_L23 Z l1 mFuel 0 s4))
set_option maxRecDepth 20000 in
set_option maxHeartbeats 4000000 in
theorem C_F_X9_hot_L23 {g : Nat → List (Nat × Value) → List Value → gS → Prop} {Z : List gH} {ad : Nat → Nat} {z : Int32 × gS}  (C : gOk g T_X9_hot RX9 3 (some .int) 7 Z ad z) (hZ : Lay Z) (l1 : Int32) : ∀ (n : Nat) (l2 : Int32) (σ : gS), F_X9_hot_L23 Z l1 n l2 σ = some z → g 23 [(0, .ref (ad 0)), (1, .int l1), (2, .int l2)] [] σ := by
  intro n
  induction n with
  | zero => intro l2 σ h; cases h
  | succ n ih =>
    intro l2 σ h
    rw [F_X9_hot_L23] at h
    refine g_iload_n C 12 2 rfl rfl ?_
    refine g_sipush (v := 200) C 13 rfl rfl ?_
    refine g_icmp_gt C 14 59 rfl rfl h (fun h => ?_) (fun h => ?_)
    · refine g_ldc C 29 rfl kcX9_192 ?_
      exact g_ireturn C 30 rfl h
    · refine g_aload_n C 15 0 rfl rfl ?_
      refine g_getr (b := 22) C 16 rfl flX9_28 (hZ.at (i := 0) rfl) rfl ?_
      refine g_getr (b := 27) C 17 rfl flX9_154 (hZ.at (i := 22) rfl) rfl ?_
      refine g_iload_n C 18 1 rfl rfl ?_
      refine g_iald C 19 rfl (hZ.at (i := 27) rfl) h (fun h => ?_)
      refine g_bipush (v := 50) C 20 rfl rfl ?_
      refine g_icmp_lt C 21 46 rfl rfl h (fun h => ?_) (fun h => ?_)
      · refine g_aload_n C 24 0 rfl rfl ?_
        refine g_getr (b := 22) C 25 rfl flX9_28 (hZ.at (i := 0) rfl) rfl ?_
        refine g_callVv C 26 [] [] rfl (M_X0_passMinute hZ 22 (Or.inr (Or.inr rfl))) cnX9_199 cwX0_passMinute ciX0_passMinute (hZ.at (i := 22) rfl) rfl rfl rfl rfl (Nat.le_of_ble_eq_true rfl) ⟨Nat.le_of_ble_eq_true rfl, Nat.le_of_ble_eq_true rfl⟩ h (fun r1 s2 h => ?_)
        refine g_iinc C 27 2 (l2 + 1) [(2, .int (l2 + 1)), (0, .ref (ad 0)), (1, .int l1)] rfl rfl (by decide) rfl rfl ?_
        refine g_goto C 28 23 rfl rfl ?_
        refine g_sub C [1, 2, 0] [(0, .ref (ad 0)), (1, .int l1), (2, .int (l2 + 1))] rfl ?_
        exact ih _ _ h
      · refine g_iload_n C 22 2 rfl rfl ?_
        exact g_ireturn C 23 rfl h
set_option maxRecDepth 20000 in
set_option maxHeartbeats 4000000 in
theorem M_X9_hot {Z : List gH} (hZ : Lay Z) (l1 : Int32) : gMet yX9_hot cX9_hot 3 (some .int) 7 Z (fun ad => [.ref (ad 0), .int l1]) (F_X9_hot Z l1) := by
  refine gMet_intro T_X9_hot T_X9_hot_ok rfl (fun _ => Nat.le_of_ble_eq_true rfl) (fun g ad σ z C h => ?_)
  show g 0 [(0, .ref (ad 0)), (1, .int l1)] [] σ
  rw [F_X9_hot] at h
  refine g_iload_n C 0 1 rfl rfl ?_
  refine g_callSi C 1 [.int l1] [] rfl (M_X9_isRoom hZ l1) cnX9_87 cwX9_isRoom csX9_isRoom rfl rfl rfl (Nat.le_of_ble_eq_true rfl) ⟨Nat.le_of_ble_eq_true rfl, Nat.le_of_ble_eq_true rfl⟩ h (fun r1 s2 h => ?_)
  refine g_if_ne C 2 10 rfl rfl h (fun h => ?_) (fun h => ?_)
  · refine g_aload_n C 5 0 rfl rfl ?_
    refine g_getr (b := 22) C 6 rfl flX9_28 (hZ.at (i := 0) rfl) rfl ?_
    refine g_aload_n C 7 0 rfl rfl ?_
    refine g_getr (b := 4) C 8 rfl flX9_21 (hZ.at (i := 0) rfl) rfl ?_
    refine g_callVv C 9 [.ref (ad 4)] [] rfl (M_X0_becomeAs hZ 22 (Or.inr (Or.inr rfl)) 4 (Or.inl rfl)) cnX9_215 cwX0_becomeAs ciX0_becomeAs (hZ.at (i := 22) rfl) rfl rfl rfl rfl (Nat.le_of_ble_eq_true rfl) ⟨Nat.le_of_ble_eq_true rfl, Nat.le_of_ble_eq_true rfl⟩ h (fun r3 s4 h => ?_)
    refine g_iconst (v := 0) C 10 rfl rfl ?_
    refine g_istore_n C 11 [(2, .int 0), (0, .ref (ad 0)), (1, .int l1)] rfl (by decide) rfl ?_
    refine g_sub C [1, 2, 0] [(0, .ref (ad 0)), (1, .int l1), (2, .int 0)] rfl ?_
    exact C_F_X9_hot_L23 C hZ _ _ _ _ h
  · refine g_ldc C 3 rfl kcX9_94 ?_
    exact g_ireturn C 4 rfl h
def T_X9_shut : List (Nat × Instr × Nat) := [(0, .iload_n 1, 1), (1, .iconst 1, 1), (2, .bipush 60, 2), (4, .invokestatic 90, 3), (7, .ifCond .eq 12, 3), (10, .iload_n 2, 1), (11, .iconst 0, 1), (12, .iconst 2, 1), (13, .invokestatic 90, 3), (16, .ifCond .ne 6, 3), (19, .ldc 94, 2), (21, .ireturn, 1), (22, .ldc 192, 2), (24, .istore_n 3, 1), (25, .ldc 192, 2), (27, .istore 4, 2), (29, .ldc 219, 2), (31, .istore 5, 2), (33, .iconst 0, 1), (34, .istore 6, 2), (36, .iload 6, 2), (38, .bipush 8, 2), (40, .if_icmp .ge 93, 3), (43, .iload 6, 2), (45, .iconst 1, 1), (46, .iadd, 1), (47, .istore 7, 2), (49, .iload 7, 2), (51, .bipush 8, 2), (53, .if_icmp .ge 74, 3), (56, .aload_n 0, 1), (57, .getfield 21, 3), (60, .iload 6, 2), (62, .iload 7, 2), (64, .invokevirtual 160, 3), (67, .iconst 2, 1), (68, .if_icmp .ne 53, 3), (71, .aload_n 0, 1), (72, .getfield 28, 3), (75, .aload_n 0, 1), (76, .getfield 21, 3), (79, .invokevirtual 215, 3), (82, .aload_n 0, 1), (83, .getfield 28, 3), (86, .iload 6, 2), (88, .iload 7, 2), (90, .iconst 1, 1), (91, .invokevirtual 163, 3), (94, .aload_n 0, 1), (95, .iload_n 1, 1), (96, .iload 5, 2), (98, .invokevirtual 220, 3), (101, .istore 8, 2), (103, .iload 8, 2), (105, .iload 5, 2), (107, .if_icmp .ge 14, 3), (110, .iload 6, 2), (112, .istore_n 3, 1), (113, .iload 7, 2), (115, .istore 4, 2), (117, .iload 8, 2), (119, .istore 5, 2), (121, .iinc 7 1, 3), (124, .goto (-75), 3), (127, .iinc 6 1, 3), (130, .goto (-94), 3), (133, .iload_n 3, 1), (134, .ldc 192, 2), (136, .if_icmp .ne 6, 3), (139, .ldc 192, 2), (141, .ireturn, 1), (142, .iload_n 2, 1), (143, .ifCond .ne 7, 3), (146, .iload_n 3, 1), (147, .goto 15, 3), (150, .iload_n 2, 1), (151, .iconst 1, 1), (152, .if_icmp .ne 8, 3), (155, .iload 4, 2), (157, .goto 5, 3), (160, .iload 5, 2), (162, .ireturn, 1)]
theorem T_X9_shut_ok : gTb cX9_shut T_X9_shut = true := by decide +kernel
def F_X9_shut_L49 (Z : List gH) (k36 : Int32 → Int32 → Int32 → Int32 → gS → Option (Int32 × gS)) (l1 : Int32) (l2 : Int32) : Nat → Int32 → Int32 → Int32 → Int32 → Int32 → gS → Option (Int32 × gS)
  | 0, _, _, _, _, _, _ => none
  | n + 1, l3, l4, l5, l6, l7, σ => if 8 ≤ l7 then k36 l3 l4 l5 (l6 + 1) σ else mCall (F_X0_doorBetween Z 4 l6 l7 σ) (fun r1 s2 => if r1 = 2 then mCall (F_X0_becomeAs Z 22 4 s2) (fun r3 s4 => mCall (F_X0_putDoor Z 22 l6 l7 1 s4) (fun r5 s6 => mCall (F_X9_thinkOn Z l1 l5 s6) (fun r7 s8 => if l5 ≤ r7 then F_X9_shut_L49 Z k36 l1 l2 n l3 l4 l5 l6 (l7 + 1) s8 else F_X9_shut_L49 Z k36 l1 l2 n l6 l7 r7 l6 (l7 + 1) s8))) else F_X9_shut_L49 Z k36 l1 l2 n l3 l4 l5 l6 (l7 + 1) s2)
def F_X9_shut_L36 (Z : List gH) (l1 : Int32) (l2 : Int32) : Nat → Int32 → Int32 → Int32 → Int32 → gS → Option (Int32 × gS)
  | 0, _, _, _, _, _ => none
  | n + 1, l3, l4, l5, l6, σ => if 8 ≤ l6 then if l3 = (-1000000005) then some ((-1000000005), σ) else if l2 = 0 then some (l3, σ) else if l2 = 1 then some (l4, σ) else some (l5, σ) else mLet ((l6 + 1)) (fun v1 => F_X9_shut_L49 Z (F_X9_shut_L36 Z l1 l2 n) l1 l2 mFuel l3 l4 l5 l6 v1 σ)
def F_X9_shut (Z : List gH) (l1 : Int32) (l2 : Int32) (σ : gS) : Option (Int32 × gS) := mCall (F_X9_within Z l1 1 60 σ) (fun r1 s2 => if r1 = 0 then some ((-1000000001), s2) else mCall (F_X9_within Z l2 0 2 s2) (fun r3 s4 => if r3 = 0 then some ((-1000000001), s4) else F_X9_shut_L36 Z l1 l2 mFuel (-1000000005) (-1000000005) 2147483647 0 s4))
set_option maxRecDepth 20000 in
set_option maxHeartbeats 4000000 in
theorem C_F_X9_shut_L49 {g : Nat → List (Nat × Value) → List Value → gS → Prop} {Z : List gH} {ad : Nat → Nat} {z : Int32 × gS}  (C : gOk g T_X9_shut RX9 9 (some .int) 8 Z ad z) (hZ : Lay Z) {k36 : Int32 → Int32 → Int32 → Int32 → gS → Option (Int32 × gS)} (l1 : Int32) (l2 : Int32) (hk36 : ∀ (l3 : Int32) (l4 : Int32) (l5 : Int32) (l6 : Int32) (σ : gS), k36 l3 l4 l5 l6 σ = some z → g 36 [(0, .ref (ad 0)), (1, .int l1), (2, .int l2), (3, .int l3), (4, .int l4), (5, .int l5), (6, .int l6)] [] σ) : ∀ (n : Nat) (l3 : Int32) (l4 : Int32) (l5 : Int32) (l6 : Int32) (l7 : Int32) (σ : gS), F_X9_shut_L49 Z k36 l1 l2 n l3 l4 l5 l6 l7 σ = some z → g 49 [(0, .ref (ad 0)), (1, .int l1), (2, .int l2), (3, .int l3), (4, .int l4), (5, .int l5), (6, .int l6), (7, .int l7)] [] σ := by
  intro n
  induction n with
  | zero => intro l3 l4 l5 l6 l7 σ h; cases h
  | succ n ih =>
    intro l3 l4 l5 l6 l7 σ h
    rw [F_X9_shut_L49] at h
    refine g_iload C 27 7 rfl rfl ?_
    refine g_bipush (v := 8) C 28 rfl rfl ?_
    refine g_icmp_ge C 29 127 rfl rfl h (fun h => ?_) (fun h => ?_)
    · refine g_iinc C 64 6 (l6 + 1) [(6, .int (l6 + 1)), (0, .ref (ad 0)), (1, .int l1), (2, .int l2), (3, .int l3), (4, .int l4), (5, .int l5), (7, .int l7)] rfl rfl (by decide) rfl rfl ?_
      refine g_goto C 65 36 rfl rfl ?_
      refine g_sub C [1, 2, 3, 4, 5, 6, 0] [(0, .ref (ad 0)), (1, .int l1), (2, .int l2), (3, .int l3), (4, .int l4), (5, .int l5), (6, .int (l6 + 1))] rfl ?_
      exact hk36 _ _ _ _ _ h
    · refine g_aload_n C 30 0 rfl rfl ?_
      refine g_getr (b := 4) C 31 rfl flX9_21 (hZ.at (i := 0) rfl) rfl ?_
      refine g_iload C 32 6 rfl rfl ?_
      refine g_iload C 33 7 rfl rfl ?_
      refine g_callVi C 34 [.int l6, .int l7] [] rfl (M_X0_doorBetween hZ 4 (Or.inl rfl) l6 l7) cnX9_160 cwX0_doorBetween ciX0_doorBetween (hZ.at (i := 4) rfl) rfl rfl rfl rfl (Nat.le_of_ble_eq_true rfl) ⟨Nat.le_of_ble_eq_true rfl, Nat.le_of_ble_eq_true rfl⟩ h (fun r1 s2 h => ?_)
      refine g_iconst (v := 2) C 35 rfl rfl ?_
      refine g_icmp_ne C 36 121 rfl rfl h (fun h => ?_) (fun h => ?_)
      · refine g_iinc C 62 7 (l7 + 1) [(7, .int (l7 + 1)), (0, .ref (ad 0)), (1, .int l1), (2, .int l2), (3, .int l3), (4, .int l4), (5, .int l5), (6, .int l6)] rfl rfl (by decide) rfl rfl ?_
        refine g_goto C 63 49 rfl rfl ?_
        refine g_sub C [1, 2, 3, 4, 5, 6, 7, 0] [(0, .ref (ad 0)), (1, .int l1), (2, .int l2), (3, .int l3), (4, .int l4), (5, .int l5), (6, .int l6), (7, .int (l7 + 1))] rfl ?_
        exact ih _ _ _ _ _ _ h
      · refine g_aload_n C 37 0 rfl rfl ?_
        refine g_getr (b := 22) C 38 rfl flX9_28 (hZ.at (i := 0) rfl) rfl ?_
        refine g_aload_n C 39 0 rfl rfl ?_
        refine g_getr (b := 4) C 40 rfl flX9_21 (hZ.at (i := 0) rfl) rfl ?_
        refine g_callVv C 41 [.ref (ad 4)] [] rfl (M_X0_becomeAs hZ 22 (Or.inr (Or.inr rfl)) 4 (Or.inl rfl)) cnX9_215 cwX0_becomeAs ciX0_becomeAs (hZ.at (i := 22) rfl) rfl rfl rfl rfl (Nat.le_of_ble_eq_true rfl) ⟨Nat.le_of_ble_eq_true rfl, Nat.le_of_ble_eq_true rfl⟩ h (fun r3 s4 h => ?_)
        refine g_aload_n C 42 0 rfl rfl ?_
        refine g_getr (b := 22) C 43 rfl flX9_28 (hZ.at (i := 0) rfl) rfl ?_
        refine g_iload C 44 6 rfl rfl ?_
        refine g_iload C 45 7 rfl rfl ?_
        refine g_iconst (v := 1) C 46 rfl rfl ?_
        refine g_callVv C 47 [.int l6, .int l7, .int 1] [] rfl (M_X0_putDoor hZ 22 (Or.inr (Or.inr rfl)) l6 l7 1) cnX9_163 cwX0_putDoor ciX0_putDoor (hZ.at (i := 22) rfl) rfl rfl rfl rfl (Nat.le_of_ble_eq_true rfl) ⟨Nat.le_of_ble_eq_true rfl, Nat.le_of_ble_eq_true rfl⟩ h (fun r5 s6 h => ?_)
        refine g_aload_n C 48 0 rfl rfl ?_
        refine g_iload_n C 49 1 rfl rfl ?_
        refine g_iload C 50 5 rfl rfl ?_
        refine g_callVi C 51 [.int l1, .int l5] [] rfl (M_X9_thinkOn hZ l1 l5) cnX9_220 cwX9_thinkOn ciX9_thinkOn (hZ.at (i := 0) rfl) rfl rfl rfl rfl (Nat.le_of_ble_eq_true rfl) ⟨Nat.le_of_ble_eq_true rfl, Nat.le_of_ble_eq_true rfl⟩ h (fun r7 s8 h => ?_)
        refine g_istore C 52 [(8, .int r7), (0, .ref (ad 0)), (1, .int l1), (2, .int l2), (3, .int l3), (4, .int l4), (5, .int l5), (6, .int l6), (7, .int l7)] rfl (by decide) rfl ?_
        refine g_iload C 53 0 rfl rfl ?_
        refine g_iload C 54 6 rfl rfl ?_
        refine g_icmp_ge C 55 121 rfl rfl h (fun h => ?_) (fun h => ?_)
        · refine g_iinc C 62 8 (l7 + 1) [(7, .int (l7 + 1)), (8, .int r7), (0, .ref (ad 0)), (1, .int l1), (2, .int l2), (3, .int l3), (4, .int l4), (5, .int l5), (6, .int l6)] rfl rfl (by decide) rfl rfl ?_
          refine g_goto C 63 49 rfl rfl ?_
          refine g_sub C [2, 3, 4, 5, 6, 7, 8, 0] [(0, .ref (ad 0)), (1, .int l1), (2, .int l2), (3, .int l3), (4, .int l4), (5, .int l5), (6, .int l6), (7, .int (l7 + 1))] rfl ?_
          exact ih _ _ _ _ _ _ h
        · refine g_iload C 56 7 rfl rfl ?_
          refine g_istore_n C 57 [(3, .int l6), (8, .int r7), (0, .ref (ad 0)), (1, .int l1), (2, .int l2), (4, .int l4), (5, .int l5), (6, .int l6), (7, .int l7)] rfl (by decide) rfl ?_
          refine g_iload C 58 8 rfl rfl ?_
          refine g_istore C 59 [(4, .int l7), (3, .int l6), (8, .int r7), (0, .ref (ad 0)), (1, .int l1), (2, .int l2), (5, .int l5), (6, .int l6), (7, .int l7)] rfl (by decide) rfl ?_
          refine g_iload C 60 2 rfl rfl ?_
          refine g_istore C 61 [(5, .int r7), (4, .int l7), (3, .int l6), (8, .int r7), (0, .ref (ad 0)), (1, .int l1), (2, .int l2), (6, .int l6), (7, .int l7)] rfl (by decide) rfl ?_
          refine g_iinc C 62 8 (l7 + 1) [(7, .int (l7 + 1)), (5, .int r7), (4, .int l7), (3, .int l6), (8, .int r7), (0, .ref (ad 0)), (1, .int l1), (2, .int l2), (6, .int l6)] rfl rfl (by decide) rfl rfl ?_
          refine g_goto C 63 49 rfl rfl ?_
          refine g_sub C [5, 6, 7, 3, 2, 1, 8, 0] [(0, .ref (ad 0)), (1, .int l1), (2, .int l2), (3, .int l6), (4, .int l7), (5, .int r7), (6, .int l6), (7, .int (l7 + 1))] rfl ?_
          exact ih _ _ _ _ _ _ h
set_option maxRecDepth 20000 in
set_option maxHeartbeats 4000000 in
theorem C_F_X9_shut_L36 {g : Nat → List (Nat × Value) → List Value → gS → Prop} {Z : List gH} {ad : Nat → Nat} {z : Int32 × gS}  (C : gOk g T_X9_shut RX9 9 (some .int) 8 Z ad z) (hZ : Lay Z) (l1 : Int32) (l2 : Int32) : ∀ (n : Nat) (l3 : Int32) (l4 : Int32) (l5 : Int32) (l6 : Int32) (σ : gS), F_X9_shut_L36 Z l1 l2 n l3 l4 l5 l6 σ = some z → g 36 [(0, .ref (ad 0)), (1, .int l1), (2, .int l2), (3, .int l3), (4, .int l4), (5, .int l5), (6, .int l6)] [] σ := by
  intro n
  induction n with
  | zero => intro l3 l4 l5 l6 σ h; cases h
  | succ n ih =>
    intro l3 l4 l5 l6 σ h
    rw [F_X9_shut_L36] at h
    refine g_iload C 20 6 rfl rfl ?_
    refine g_bipush (v := 8) C 21 rfl rfl ?_
    refine g_icmp_ge C 22 133 rfl rfl h (fun h => ?_) (fun h => ?_)
    · refine g_iload_n C 66 3 rfl rfl ?_
      refine g_ldc C 67 rfl kcX9_192 ?_
      refine g_icmp_ne C 68 142 rfl rfl h (fun h => ?_) (fun h => ?_)
      · refine g_iload_n C 71 2 rfl rfl ?_
        refine g_if_ne C 72 150 rfl rfl h (fun h => ?_) (fun h => ?_)
        · refine g_iload_n C 75 2 rfl rfl ?_
          refine g_iconst (v := 1) C 76 rfl rfl ?_
          refine g_icmp_ne C 77 160 rfl rfl h (fun h => ?_) (fun h => ?_)
          · refine g_iload C 80 5 rfl rfl ?_
            exact g_ireturn C 81 rfl h
          · refine g_iload C 78 4 rfl rfl ?_
            refine g_goto C 79 162 rfl rfl ?_
            exact g_ireturn C 81 rfl h
        · refine g_iload_n C 73 3 rfl rfl ?_
          refine g_goto C 74 162 rfl rfl ?_
          exact g_ireturn C 81 rfl h
      · refine g_ldc C 69 rfl kcX9_192 ?_
        exact g_ireturn C 70 rfl h
    · refine g_iload C 23 6 rfl rfl ?_
      refine g_iconst (v := 1) C 24 rfl rfl ?_
      refine g_iadd C 25 rfl ?_
      refine g_let h (fun v1 h => ?_)
      refine g_istore C 26 [(7, .int v1), (0, .ref (ad 0)), (1, .int l1), (2, .int l2), (3, .int l3), (4, .int l4), (5, .int l5), (6, .int l6)] rfl (by decide) rfl ?_
      refine g_sub C [1, 2, 3, 4, 5, 6, 7, 0] [(0, .ref (ad 0)), (1, .int l1), (2, .int l2), (3, .int l3), (4, .int l4), (5, .int l5), (6, .int l6), (7, .int v1)] rfl ?_
      exact C_F_X9_shut_L49 C hZ _ _ ih _ _ _ _ _ _ _ h
set_option maxRecDepth 20000 in
set_option maxHeartbeats 4000000 in
theorem M_X9_shut {Z : List gH} (hZ : Lay Z) (l1 : Int32) (l2 : Int32) : gMet yX9_shut cX9_shut 9 (some .int) 8 Z (fun ad => [.ref (ad 0), .int l1, .int l2]) (F_X9_shut Z l1 l2) := by
  refine gMet_intro T_X9_shut T_X9_shut_ok rfl (fun _ => Nat.le_of_ble_eq_true rfl) (fun g ad σ z C h => ?_)
  show g 0 [(0, .ref (ad 0)), (1, .int l1), (2, .int l2)] [] σ
  rw [F_X9_shut] at h
  refine g_iload_n C 0 1 rfl rfl ?_
  refine g_iconst (v := 1) C 1 rfl rfl ?_
  refine g_bipush (v := 60) C 2 rfl rfl ?_
  refine g_callSi C 3 [.int l1, .int 1, .int 60] [] rfl (M_X9_within hZ l1 1 60) cnX9_90 cwX9_within csX9_within rfl rfl rfl (Nat.le_of_ble_eq_true rfl) ⟨Nat.le_of_ble_eq_true rfl, Nat.le_of_ble_eq_true rfl⟩ h (fun r1 s2 h => ?_)
  refine g_if_eq C 4 19 rfl rfl h (fun h => ?_) (fun h => ?_)
  · refine g_ldc C 10 rfl kcX9_94 ?_
    exact g_ireturn C 11 rfl h
  · refine g_iload_n C 5 2 rfl rfl ?_
    refine g_iconst (v := 0) C 6 rfl rfl ?_
    refine g_iconst (v := 2) C 7 rfl rfl ?_
    refine g_callSi C 8 [.int l2, .int 0, .int 2] [] rfl (M_X9_within hZ l2 0 2) cnX9_90 cwX9_within csX9_within rfl rfl rfl (Nat.le_of_ble_eq_true rfl) ⟨Nat.le_of_ble_eq_true rfl, Nat.le_of_ble_eq_true rfl⟩ h (fun r3 s4 h => ?_)
    refine g_if_ne C 9 22 rfl rfl h (fun h => ?_) (fun h => ?_)
    · refine g_ldc C 12 rfl kcX9_192 ?_
      refine g_istore_n C 13 [(3, .int (-1000000005)), (0, .ref (ad 0)), (1, .int l1), (2, .int l2)] rfl (by decide) rfl ?_
      refine g_ldc C 14 rfl kcX9_192 ?_
      refine g_istore C 15 [(4, .int (-1000000005)), (3, .int (-1000000005)), (0, .ref (ad 0)), (1, .int l1), (2, .int l2)] rfl (by decide) rfl ?_
      refine g_ldc C 16 rfl kcX9_219 ?_
      refine g_istore C 17 [(5, .int 2147483647), (4, .int (-1000000005)), (3, .int (-1000000005)), (0, .ref (ad 0)), (1, .int l1), (2, .int l2)] rfl (by decide) rfl ?_
      refine g_iconst (v := 0) C 18 rfl rfl ?_
      refine g_istore C 19 [(6, .int 0), (5, .int 2147483647), (4, .int (-1000000005)), (3, .int (-1000000005)), (0, .ref (ad 0)), (1, .int l1), (2, .int l2)] rfl (by decide) rfl ?_
      refine g_sub C [4, 5, 6, 3, 2, 1, 0] [(0, .ref (ad 0)), (1, .int l1), (2, .int l2), (3, .int (-1000000005)), (4, .int (-1000000005)), (5, .int 2147483647), (6, .int 0)] rfl ?_
      exact C_F_X9_shut_L36 C hZ _ _ _ _ _ _ _ _ h
    · refine g_ldc C 10 rfl kcX9_94 ?_
      exact g_ireturn C 11 rfl h
def T_X9_hired : List (Nat × Instr × Nat) := [(0, .iload_n 1, 1), (1, .iconst 1, 1), (2, .bipush 60, 2), (4, .invokestatic 90, 3), (7, .ifCond .eq 12, 3), (10, .iload_n 2, 1), (11, .iconst 0, 1), (12, .iconst 1, 1), (13, .invokestatic 90, 3), (16, .ifCond .ne 6, 3), (19, .ldc 94, 2), (21, .ireturn, 1), (22, .iconst 0, 1), (23, .istore_n 3, 1), (24, .iconst (-1), 1), (25, .istore 4, 2), (27, .iconst 0, 1), (28, .istore 5, 2), (30, .iload 5, 2), (32, .bipush 100, 2), (34, .if_icmp .gt 52, 3), (37, .aload_n 0, 1), (38, .getfield 28, 3), (41, .aload_n 0, 1), (42, .getfield 21, 3), (45, .invokevirtual 215, 3), (48, .aload_n 0, 1), (49, .getfield 28, 3), (52, .iload 5, 2), (54, .putfield 167, 3), (57, .aload_n 0, 1), (58, .iload_n 1, 1), (59, .ldc 219, 2), (61, .invokevirtual 220, 3), (64, .istore 6, 2), (66, .iload 6, 2), (68, .iload 4, 2), (70, .if_icmp .le 10, 3), (73, .iload 5, 2), (75, .istore_n 3, 1), (76, .iload 6, 2), (78, .istore 4, 2), (80, .iinc 5 10, 3), (83, .goto (-53), 3), (86, .iload_n 2, 1), (87, .ifCond .ne 7, 3), (90, .iload_n 3, 1), (91, .goto 5, 3), (94, .iload 4, 2), (96, .ireturn, 1)]
theorem T_X9_hired_ok : gTb cX9_hired T_X9_hired = true := by decide +kernel
def F_X9_hired_L30 (Z : List gH) (l1 : Int32) (l2 : Int32) : Nat → Int32 → Int32 → Int32 → gS → Option (Int32 × gS)
  | 0, _, _, _, _ => none
  | n + 1, l3, l4, l5, σ => if 100 < l5 then if l2 = 0 then some (l3, σ) else some (l4, σ) else mCall (F_X0_becomeAs Z 22 4 σ) (fun r1 s2 => mLet (gu s2 22 12 l5) (fun s3 => mCall (F_X9_thinkOn Z l1 2147483647 s3) (fun r4 s5 => if r4 ≤ l4 then F_X9_hired_L30 Z l1 l2 n l3 l4 (l5 + 10) s5 else F_X9_hired_L30 Z l1 l2 n l5 r4 (l5 + 10) s5)))
def F_X9_hired (Z : List gH) (l1 : Int32) (l2 : Int32) (σ : gS) : Option (Int32 × gS) := mCall (F_X9_within Z l1 1 60 σ) (fun r1 s2 => if r1 = 0 then some ((-1000000001), s2) else mCall (F_X9_within Z l2 0 1 s2) (fun r3 s4 => if r3 = 0 then some ((-1000000001), s4) else F_X9_hired_L30 Z l1 l2 mFuel 0 (-1) 0 s4))
set_option maxRecDepth 20000 in
set_option maxHeartbeats 4000000 in
theorem C_F_X9_hired_L30 {g : Nat → List (Nat × Value) → List Value → gS → Prop} {Z : List gH} {ad : Nat → Nat} {z : Int32 × gS}  (C : gOk g T_X9_hired RX9 7 (some .int) 8 Z ad z) (hZ : Lay Z) (l1 : Int32) (l2 : Int32) : ∀ (n : Nat) (l3 : Int32) (l4 : Int32) (l5 : Int32) (σ : gS), F_X9_hired_L30 Z l1 l2 n l3 l4 l5 σ = some z → g 30 [(0, .ref (ad 0)), (1, .int l1), (2, .int l2), (3, .int l3), (4, .int l4), (5, .int l5)] [] σ := by
  intro n
  induction n with
  | zero => intro l3 l4 l5 σ h; cases h
  | succ n ih =>
    intro l3 l4 l5 σ h
    rw [F_X9_hired_L30] at h
    refine g_iload C 18 5 rfl rfl ?_
    refine g_bipush (v := 100) C 19 rfl rfl ?_
    refine g_icmp_gt C 20 86 rfl rfl h (fun h => ?_) (fun h => ?_)
    · refine g_iload_n C 44 2 rfl rfl ?_
      refine g_if_ne C 45 94 rfl rfl h (fun h => ?_) (fun h => ?_)
      · refine g_iload C 48 4 rfl rfl ?_
        exact g_ireturn C 49 rfl h
      · refine g_iload_n C 46 3 rfl rfl ?_
        refine g_goto C 47 96 rfl rfl ?_
        exact g_ireturn C 49 rfl h
    · refine g_aload_n C 21 0 rfl rfl ?_
      refine g_getr (b := 22) C 22 rfl flX9_28 (hZ.at (i := 0) rfl) rfl ?_
      refine g_aload_n C 23 0 rfl rfl ?_
      refine g_getr (b := 4) C 24 rfl flX9_21 (hZ.at (i := 0) rfl) rfl ?_
      refine g_callVv C 25 [.ref (ad 4)] [] rfl (M_X0_becomeAs hZ 22 (Or.inr (Or.inr rfl)) 4 (Or.inl rfl)) cnX9_215 cwX0_becomeAs ciX0_becomeAs (hZ.at (i := 22) rfl) rfl rfl rfl rfl (Nat.le_of_ble_eq_true rfl) ⟨Nat.le_of_ble_eq_true rfl, Nat.le_of_ble_eq_true rfl⟩ h (fun r1 s2 h => ?_)
      refine g_aload_n C 26 0 rfl rfl ?_
      refine g_getr (b := 22) C 27 rfl flX9_28 (hZ.at (i := 0) rfl) rfl ?_
      refine g_iload C 28 5 rfl rfl ?_
      refine g_put C 29 rfl fpX9_167 (hZ.at (i := 22) rfl) rfl rfl rfl h (fun s3 h => ?_)
      refine g_aload_n C 30 0 rfl rfl ?_
      refine g_iload_n C 31 1 rfl rfl ?_
      refine g_ldc C 32 rfl kcX9_219 ?_
      refine g_callVi C 33 [.int l1, .int 2147483647] [] rfl (M_X9_thinkOn hZ l1 2147483647) cnX9_220 cwX9_thinkOn ciX9_thinkOn (hZ.at (i := 0) rfl) rfl rfl rfl rfl (Nat.le_of_ble_eq_true rfl) ⟨Nat.le_of_ble_eq_true rfl, Nat.le_of_ble_eq_true rfl⟩ h (fun r4 s5 h => ?_)
      refine g_istore C 34 [(6, .int r4), (0, .ref (ad 0)), (1, .int l1), (2, .int l2), (3, .int l3), (4, .int l4), (5, .int l5)] rfl (by decide) rfl ?_
      refine g_iload C 35 0 rfl rfl ?_
      refine g_iload C 36 5 rfl rfl ?_
      refine g_icmp_le C 37 80 rfl rfl h (fun h => ?_) (fun h => ?_)
      · refine g_iinc C 42 6 (l5 + 10) [(5, .int (l5 + 10)), (6, .int r4), (0, .ref (ad 0)), (1, .int l1), (2, .int l2), (3, .int l3), (4, .int l4)] rfl rfl (by decide) rfl rfl ?_
        refine g_goto C 43 30 rfl rfl ?_
        refine g_sub C [2, 3, 4, 5, 6, 0] [(0, .ref (ad 0)), (1, .int l1), (2, .int l2), (3, .int l3), (4, .int l4), (5, .int (l5 + 10))] rfl ?_
        exact ih _ _ _ _ h
      · refine g_iload C 38 6 rfl rfl ?_
        refine g_istore_n C 39 [(3, .int l5), (6, .int r4), (0, .ref (ad 0)), (1, .int l1), (2, .int l2), (4, .int l4), (5, .int l5)] rfl (by decide) rfl ?_
        refine g_iload C 40 1 rfl rfl ?_
        refine g_istore C 41 [(4, .int r4), (3, .int l5), (6, .int r4), (0, .ref (ad 0)), (1, .int l1), (2, .int l2), (5, .int l5)] rfl (by decide) rfl ?_
        refine g_iinc C 42 6 (l5 + 10) [(5, .int (l5 + 10)), (4, .int r4), (3, .int l5), (6, .int r4), (0, .ref (ad 0)), (1, .int l1), (2, .int l2)] rfl rfl (by decide) rfl rfl ?_
        refine g_goto C 43 30 rfl rfl ?_
        refine g_sub C [4, 5, 6, 2, 1, 0] [(0, .ref (ad 0)), (1, .int l1), (2, .int l2), (3, .int l5), (4, .int r4), (5, .int (l5 + 10))] rfl ?_
        exact ih _ _ _ _ h
set_option maxRecDepth 20000 in
set_option maxHeartbeats 4000000 in
theorem M_X9_hired {Z : List gH} (hZ : Lay Z) (l1 : Int32) (l2 : Int32) : gMet yX9_hired cX9_hired 7 (some .int) 8 Z (fun ad => [.ref (ad 0), .int l1, .int l2]) (F_X9_hired Z l1 l2) := by
  refine gMet_intro T_X9_hired T_X9_hired_ok rfl (fun _ => Nat.le_of_ble_eq_true rfl) (fun g ad σ z C h => ?_)
  show g 0 [(0, .ref (ad 0)), (1, .int l1), (2, .int l2)] [] σ
  rw [F_X9_hired] at h
  refine g_iload_n C 0 1 rfl rfl ?_
  refine g_iconst (v := 1) C 1 rfl rfl ?_
  refine g_bipush (v := 60) C 2 rfl rfl ?_
  refine g_callSi C 3 [.int l1, .int 1, .int 60] [] rfl (M_X9_within hZ l1 1 60) cnX9_90 cwX9_within csX9_within rfl rfl rfl (Nat.le_of_ble_eq_true rfl) ⟨Nat.le_of_ble_eq_true rfl, Nat.le_of_ble_eq_true rfl⟩ h (fun r1 s2 h => ?_)
  refine g_if_eq C 4 19 rfl rfl h (fun h => ?_) (fun h => ?_)
  · refine g_ldc C 10 rfl kcX9_94 ?_
    exact g_ireturn C 11 rfl h
  · refine g_iload_n C 5 2 rfl rfl ?_
    refine g_iconst (v := 0) C 6 rfl rfl ?_
    refine g_iconst (v := 1) C 7 rfl rfl ?_
    refine g_callSi C 8 [.int l2, .int 0, .int 1] [] rfl (M_X9_within hZ l2 0 1) cnX9_90 cwX9_within csX9_within rfl rfl rfl (Nat.le_of_ble_eq_true rfl) ⟨Nat.le_of_ble_eq_true rfl, Nat.le_of_ble_eq_true rfl⟩ h (fun r3 s4 h => ?_)
    refine g_if_ne C 9 22 rfl rfl h (fun h => ?_) (fun h => ?_)
    · refine g_iconst (v := 0) C 12 rfl rfl ?_
      refine g_istore_n C 13 [(3, .int 0), (0, .ref (ad 0)), (1, .int l1), (2, .int l2)] rfl (by decide) rfl ?_
      refine g_iconst (v := (-1)) C 14 rfl rfl ?_
      refine g_istore C 15 [(4, .int (-1)), (3, .int 0), (0, .ref (ad 0)), (1, .int l1), (2, .int l2)] rfl (by decide) rfl ?_
      refine g_iconst (v := 0) C 16 rfl rfl ?_
      refine g_istore C 17 [(5, .int 0), (4, .int (-1)), (3, .int 0), (0, .ref (ad 0)), (1, .int l1), (2, .int l2)] rfl (by decide) rfl ?_
      refine g_sub C [3, 4, 5, 2, 1, 0] [(0, .ref (ad 0)), (1, .int l1), (2, .int l2), (3, .int 0), (4, .int (-1)), (5, .int 0)] rfl ?_
      exact C_F_X9_hired_L30 C hZ _ _ _ _ _ _ _ h
    · refine g_ldc C 10 rfl kcX9_94 ?_
      exact g_ireturn C 11 rfl h
def T_X9_becomes : List (Nat × Instr × Nat) := [(0, .aload_n 0, 1), (1, .iload_n 1, 1), (2, .invokevirtual 103, 3), (5, .ifCond .eq 22, 3), (8, .iload_n 2, 1), (9, .iconst 1, 1), (10, .bipush 60, 2), (12, .invokestatic 90, 3), (15, .ifCond .eq 12, 3), (18, .iload_n 3, 1), (19, .iconst 0, 1), (20, .iconst 1, 1), (21, .invokestatic 90, 3), (24, .ifCond .ne 6, 3), (27, .ldc 94, 2), (29, .ireturn, 1), (30, .iconst 0, 1), (31, .istore 4, 2), (33, .ldc 219, 2), (35, .istore 5, 2), (37, .iconst 0, 1), (38, .istore 6, 2), (40, .iload 6, 2), (42, .bipush 6, 2), (44, .if_icmp .ge 55, 3), (47, .aload_n 0, 1), (48, .getfield 28, 3), (51, .aload_n 0, 1), (52, .getfield 21, 3), (55, .invokevirtual 215, 3), (58, .aload_n 0, 1), (59, .getfield 28, 3), (62, .getfield 106, 3), (65, .iload_n 1, 1), (66, .iload 6, 2), (68, .iastore, 1), (69, .aload_n 0, 1), (70, .iload_n 2, 1), (71, .iload 5, 2), (73, .invokevirtual 220, 3), (76, .istore 7, 2), (78, .iload 7, 2), (80, .iload 5, 2), (82, .if_icmp .ge 11, 3), (85, .iload 6, 2), (87, .istore 4, 2), (89, .iload 7, 2), (91, .istore 5, 2), (93, .iinc 6 1, 3), (96, .goto (-56), 3), (99, .iload_n 3, 1), (100, .ifCond .ne 8, 3), (103, .iload 4, 2), (105, .goto 5, 3), (108, .iload 5, 2), (110, .ireturn, 1)]
theorem T_X9_becomes_ok : gTb cX9_becomes T_X9_becomes = true := by decide +kernel
def F_X9_becomes_L40 (Z : List gH) (l1 : Int32) (l2 : Int32) (l3 : Int32) : Nat → Int32 → Int32 → Int32 → gS → Option (Int32 × gS)
  | 0, _, _, _, _ => none
  | n + 1, l4, l5, l6, σ => if 6 ≤ l6 then if l3 = 0 then some (l4, σ) else some (l5, σ) else mCall (F_X0_becomeAs Z 22 4 σ) (fun r1 s2 => mIn 12 l1 (mLet (gu s2 23 (nn l1) l6) (fun s3 => mCall (F_X9_thinkOn Z l2 l5 s3) (fun r4 s5 => if l5 ≤ r4 then F_X9_becomes_L40 Z l1 l2 l3 n l4 l5 (l6 + 1) s5 else F_X9_becomes_L40 Z l1 l2 l3 n l6 r4 (l6 + 1) s5))))
def F_X9_becomes (Z : List gH) (l1 : Int32) (l2 : Int32) (l3 : Int32) (σ : gS) : Option (Int32 × gS) := mCall (F_X9_isThing Z l1 σ) (fun r1 s2 => if r1 = 0 then some ((-1000000001), s2) else mCall (F_X9_within Z l2 1 60 s2) (fun r3 s4 => if r3 = 0 then some ((-1000000001), s4) else mCall (F_X9_within Z l3 0 1 s4) (fun r5 s6 => if r5 = 0 then some ((-1000000001), s6) else F_X9_becomes_L40 Z l1 l2 l3 mFuel 0 2147483647 0 s6)))
set_option maxRecDepth 20000 in
set_option maxHeartbeats 4000000 in
theorem C_F_X9_becomes_L40 {g : Nat → List (Nat × Value) → List Value → gS → Prop} {Z : List gH} {ad : Nat → Nat} {z : Int32 × gS}  (C : gOk g T_X9_becomes RX9 8 (some .int) 8 Z ad z) (hZ : Lay Z) (l1 : Int32) (l2 : Int32) (l3 : Int32) : ∀ (n : Nat) (l4 : Int32) (l5 : Int32) (l6 : Int32) (σ : gS), F_X9_becomes_L40 Z l1 l2 l3 n l4 l5 l6 σ = some z → g 40 [(0, .ref (ad 0)), (1, .int l1), (2, .int l2), (3, .int l3), (4, .int l4), (5, .int l5), (6, .int l6)] [] σ := by
  intro n
  induction n with
  | zero => intro l4 l5 l6 σ h; cases h
  | succ n ih =>
    intro l4 l5 l6 σ h
    rw [F_X9_becomes_L40] at h
    refine g_iload C 22 6 rfl rfl ?_
    refine g_bipush (v := 6) C 23 rfl rfl ?_
    refine g_icmp_ge C 24 99 rfl rfl h (fun h => ?_) (fun h => ?_)
    · refine g_iload_n C 50 3 rfl rfl ?_
      refine g_if_ne C 51 108 rfl rfl h (fun h => ?_) (fun h => ?_)
      · refine g_iload C 54 5 rfl rfl ?_
        exact g_ireturn C 55 rfl h
      · refine g_iload C 52 4 rfl rfl ?_
        refine g_goto C 53 110 rfl rfl ?_
        exact g_ireturn C 55 rfl h
    · refine g_aload_n C 25 0 rfl rfl ?_
      refine g_getr (b := 22) C 26 rfl flX9_28 (hZ.at (i := 0) rfl) rfl ?_
      refine g_aload_n C 27 0 rfl rfl ?_
      refine g_getr (b := 4) C 28 rfl flX9_21 (hZ.at (i := 0) rfl) rfl ?_
      refine g_callVv C 29 [.ref (ad 4)] [] rfl (M_X0_becomeAs hZ 22 (Or.inr (Or.inr rfl)) 4 (Or.inl rfl)) cnX9_215 cwX0_becomeAs ciX0_becomeAs (hZ.at (i := 22) rfl) rfl rfl rfl rfl (Nat.le_of_ble_eq_true rfl) ⟨Nat.le_of_ble_eq_true rfl, Nat.le_of_ble_eq_true rfl⟩ h (fun r1 s2 h => ?_)
      refine g_aload_n C 30 0 rfl rfl ?_
      refine g_getr (b := 22) C 31 rfl flX9_28 (hZ.at (i := 0) rfl) rfl ?_
      refine g_getr (b := 23) C 32 rfl flX9_106 (hZ.at (i := 22) rfl) rfl ?_
      refine g_iload_n C 33 1 rfl rfl ?_
      refine g_iload C 34 6 rfl rfl ?_
      refine g_iast C 35 rfl (hZ.at (i := 23) rfl) h (fun s3 h => ?_)
      refine g_aload_n C 36 0 rfl rfl ?_
      refine g_iload_n C 37 2 rfl rfl ?_
      refine g_iload C 38 5 rfl rfl ?_
      refine g_callVi C 39 [.int l2, .int l5] [] rfl (M_X9_thinkOn hZ l2 l5) cnX9_220 cwX9_thinkOn ciX9_thinkOn (hZ.at (i := 0) rfl) rfl rfl rfl rfl (Nat.le_of_ble_eq_true rfl) ⟨Nat.le_of_ble_eq_true rfl, Nat.le_of_ble_eq_true rfl⟩ h (fun r4 s5 h => ?_)
      refine g_istore C 40 [(7, .int r4), (0, .ref (ad 0)), (1, .int l1), (2, .int l2), (3, .int l3), (4, .int l4), (5, .int l5), (6, .int l6)] rfl (by decide) rfl ?_
      refine g_iload C 41 0 rfl rfl ?_
      refine g_iload C 42 6 rfl rfl ?_
      refine g_icmp_ge C 43 93 rfl rfl h (fun h => ?_) (fun h => ?_)
      · refine g_iinc C 48 7 (l6 + 1) [(6, .int (l6 + 1)), (7, .int r4), (0, .ref (ad 0)), (1, .int l1), (2, .int l2), (3, .int l3), (4, .int l4), (5, .int l5)] rfl rfl (by decide) rfl rfl ?_
        refine g_goto C 49 40 rfl rfl ?_
        refine g_sub C [2, 3, 4, 5, 6, 7, 0] [(0, .ref (ad 0)), (1, .int l1), (2, .int l2), (3, .int l3), (4, .int l4), (5, .int l5), (6, .int (l6 + 1))] rfl ?_
        exact ih _ _ _ _ h
      · refine g_iload C 44 7 rfl rfl ?_
        refine g_istore C 45 [(4, .int l6), (7, .int r4), (0, .ref (ad 0)), (1, .int l1), (2, .int l2), (3, .int l3), (5, .int l5), (6, .int l6)] rfl (by decide) rfl ?_
        refine g_iload C 46 1 rfl rfl ?_
        refine g_istore C 47 [(5, .int r4), (4, .int l6), (7, .int r4), (0, .ref (ad 0)), (1, .int l1), (2, .int l2), (3, .int l3), (6, .int l6)] rfl (by decide) rfl ?_
        refine g_iinc C 48 7 (l6 + 1) [(6, .int (l6 + 1)), (5, .int r4), (4, .int l6), (7, .int r4), (0, .ref (ad 0)), (1, .int l1), (2, .int l2), (3, .int l3)] rfl rfl (by decide) rfl rfl ?_
        refine g_goto C 49 40 rfl rfl ?_
        refine g_sub C [4, 5, 6, 7, 2, 1, 0] [(0, .ref (ad 0)), (1, .int l1), (2, .int l2), (3, .int l3), (4, .int l6), (5, .int r4), (6, .int (l6 + 1))] rfl ?_
        exact ih _ _ _ _ h
set_option maxRecDepth 20000 in
set_option maxHeartbeats 4000000 in
theorem M_X9_becomes {Z : List gH} (hZ : Lay Z) (l1 : Int32) (l2 : Int32) (l3 : Int32) : gMet yX9_becomes cX9_becomes 8 (some .int) 8 Z (fun ad => [.ref (ad 0), .int l1, .int l2, .int l3]) (F_X9_becomes Z l1 l2 l3) := by
  refine gMet_intro T_X9_becomes T_X9_becomes_ok rfl (fun _ => Nat.le_of_ble_eq_true rfl) (fun g ad σ z C h => ?_)
  show g 0 [(0, .ref (ad 0)), (1, .int l1), (2, .int l2), (3, .int l3)] [] σ
  rw [F_X9_becomes] at h
  refine g_aload_n C 0 0 rfl rfl ?_
  refine g_iload_n C 1 1 rfl rfl ?_
  refine g_callVi C 2 [.int l1] [] rfl (M_X9_isThing hZ l1) cnX9_103 cwX9_isThing ciX9_isThing (hZ.at (i := 0) rfl) rfl rfl rfl rfl (Nat.le_of_ble_eq_true rfl) ⟨Nat.le_of_ble_eq_true rfl, Nat.le_of_ble_eq_true rfl⟩ h (fun r1 s2 h => ?_)
  refine g_if_eq C 3 27 rfl rfl h (fun h => ?_) (fun h => ?_)
  · refine g_ldc C 14 rfl kcX9_94 ?_
    exact g_ireturn C 15 rfl h
  · refine g_iload_n C 4 2 rfl rfl ?_
    refine g_iconst (v := 1) C 5 rfl rfl ?_
    refine g_bipush (v := 60) C 6 rfl rfl ?_
    refine g_callSi C 7 [.int l2, .int 1, .int 60] [] rfl (M_X9_within hZ l2 1 60) cnX9_90 cwX9_within csX9_within rfl rfl rfl (Nat.le_of_ble_eq_true rfl) ⟨Nat.le_of_ble_eq_true rfl, Nat.le_of_ble_eq_true rfl⟩ h (fun r3 s4 h => ?_)
    refine g_if_eq C 8 27 rfl rfl h (fun h => ?_) (fun h => ?_)
    · refine g_ldc C 14 rfl kcX9_94 ?_
      exact g_ireturn C 15 rfl h
    · refine g_iload_n C 9 3 rfl rfl ?_
      refine g_iconst (v := 0) C 10 rfl rfl ?_
      refine g_iconst (v := 1) C 11 rfl rfl ?_
      refine g_callSi C 12 [.int l3, .int 0, .int 1] [] rfl (M_X9_within hZ l3 0 1) cnX9_90 cwX9_within csX9_within rfl rfl rfl (Nat.le_of_ble_eq_true rfl) ⟨Nat.le_of_ble_eq_true rfl, Nat.le_of_ble_eq_true rfl⟩ h (fun r5 s6 h => ?_)
      refine g_if_ne C 13 30 rfl rfl h (fun h => ?_) (fun h => ?_)
      · refine g_iconst (v := 0) C 16 rfl rfl ?_
        refine g_istore C 17 [(4, .int 0), (0, .ref (ad 0)), (1, .int l1), (2, .int l2), (3, .int l3)] rfl (by decide) rfl ?_
        refine g_ldc C 18 rfl kcX9_219 ?_
        refine g_istore C 19 [(5, .int 2147483647), (4, .int 0), (0, .ref (ad 0)), (1, .int l1), (2, .int l2), (3, .int l3)] rfl (by decide) rfl ?_
        refine g_iconst (v := 0) C 20 rfl rfl ?_
        refine g_istore C 21 [(6, .int 0), (5, .int 2147483647), (4, .int 0), (0, .ref (ad 0)), (1, .int l1), (2, .int l2), (3, .int l3)] rfl (by decide) rfl ?_
        refine g_sub C [3, 4, 5, 6, 2, 1, 0] [(0, .ref (ad 0)), (1, .int l1), (2, .int l2), (3, .int l3), (4, .int 0), (5, .int 2147483647), (6, .int 0)] rfl ?_
        exact C_F_X9_becomes_L40 C hZ _ _ _ _ _ _ _ _ h
      · refine g_ldc C 14 rfl kcX9_94 ?_
        exact g_ireturn C 15 rfl h
def T_X9_isSheet : List (Nat × Instr × Nat) := [(0, .iload_n 0, 1), (1, .iconst 0, 1), (2, .iconst 3, 1), (3, .invokestatic 90, 3), (6, .ireturn, 1)]
theorem T_X9_isSheet_ok : gTb cX9_isSheet T_X9_isSheet = true := by decide +kernel
def F_X9_isSheet (Z : List gH) (l0 : Int32) (σ : gS) : Option (Int32 × gS) := mCall (F_X9_within Z l0 0 3 σ) (fun r1 s2 => mZ r1 s2)
set_option maxRecDepth 20000 in
set_option maxHeartbeats 4000000 in
theorem M_X9_isSheet {Z : List gH} (hZ : Lay Z) (l0 : Int32) : gMet yX9_isSheet cX9_isSheet 1 (some .boolean) 2 Z (fun ad => [.int l0]) (F_X9_isSheet Z l0) := by
  refine gMet_intro T_X9_isSheet T_X9_isSheet_ok rfl (fun _ => Nat.le_of_ble_eq_true rfl) (fun g ad σ z C h => ?_)
  show g 0 [(0, .int l0)] [] σ
  rw [F_X9_isSheet] at h
  refine g_iload_n C 0 0 rfl rfl ?_
  refine g_iconst (v := 0) C 1 rfl rfl ?_
  refine g_iconst (v := 3) C 2 rfl rfl ?_
  refine g_callSi C 3 [.int l0, .int 0, .int 3] [] rfl (M_X9_within hZ l0 0 3) cnX9_90 cwX9_within csX9_within rfl rfl rfl (Nat.le_of_ble_eq_true rfl) ⟨Nat.le_of_ble_eq_true rfl, Nat.le_of_ble_eq_true rfl⟩ h (fun r1 s2 h => ?_)
  exact g_zreturn C 4 rfl h
def T_X9_canHaveBegunBy : List (Nat × Instr × Nat) := [(0, .aload_n 0, 1), (1, .getfield 28, 3), (4, .aload_n 0, 1), (5, .getfield 21, 3), (8, .invokevirtual 215, 3), (11, .aload_n 0, 1), (12, .getfield 28, 3), (15, .getfield 115, 3), (18, .iconst 0, 1), (19, .invokestatic 339, 3), (22, .aload_n 0, 1), (23, .getfield 28, 3), (26, .getfield 115, 3), (29, .iload_n 1, 1), (30, .iconst 1, 1), (31, .iastore, 1), (32, .iconst 0, 1), (33, .istore_n 3, 1), (34, .iload_n 3, 1), (35, .aload_n 2, 1), (36, .getfield 301, 3), (39, .if_icmp .ge 49, 3), (42, .iload_n 3, 1), (43, .ifCond .le 10, 3), (46, .aload_n 0, 1), (47, .getfield 28, 3), (50, .invokevirtual 199, 3), (53, .aload_n 2, 1), (54, .iload_n 3, 1), (55, .invokevirtual 295, 3), (58, .ifCond .eq 24, 3), (61, .aload_n 2, 1), (62, .getfield 290, 3), (65, .iload_n 3, 1), (66, .iaload, 1), (67, .aload_n 0, 1), (68, .getfield 28, 3), (71, .invokevirtual 208, 3), (74, .invokestatic 345, 3), (77, .if_icmp .eq 5, 3), (80, .iconst 0, 1), (81, .ireturn, 1), (82, .iinc 3 1, 3), (85, .goto (-51), 3), (88, .iconst 1, 1), (89, .ireturn, 1)]
theorem T_X9_canHaveBegunBy_ok : gTb cX9_canHaveBegunBy T_X9_canHaveBegunBy = true := by decide +kernel
def F_X9_canHaveBegunBy_J53 (Z : List gH) (k34 : Int32 → gS → Option (Int32 × gS)) (l2 : Nat) (l3 : Int32) (σ : gS) : Option (Int32 × gS) := mCall (F_X5_hasNumber Z l2 l3 σ) (fun r1 s2 => if r1 = 0 then k34 (l3 + 1) s2 else mIn 24 l3 (mCall (F_X0_litSet Z 22 s2) (fun r3 s4 => mCall (F_JI_bitCount Z r3 s4) (fun r5 s6 => if (s2 (l2 + 1) (nn l3)) = r5 then k34 (l3 + 1) s6 else mZ 0 s6))))
def F_X9_canHaveBegunBy_L34 (Z : List gH) (l2 : Nat) : Nat → Int32 → gS → Option (Int32 × gS)
  | 0, _, _ => none
  | n + 1, l3, σ => if (σ l2 2) ≤ l3 then mZ 1 σ else if l3 ≤ 0 then F_X9_canHaveBegunBy_J53 Z (F_X9_canHaveBegunBy_L34 Z l2 n) l2 l3 σ else mCall (F_X0_passMinute Z 22 σ) (fun r1 s2 => F_X9_canHaveBegunBy_J53 Z (F_X9_canHaveBegunBy_L34 Z l2 n) l2 l3 s2)
def F_X9_canHaveBegunBy (Z : List gH) (l1 : Int32) (l2 : Nat) (σ : gS) : Option (Int32 × gS) := mCall (F_X0_becomeAs Z 22 4 σ) (fun r1 s2 => mCall (F_JA_fill Z 26 0 s2) (fun r3 s4 => mIn 12 l1 (mLet (gu s4 26 (nn l1) 1) (fun s5 => F_X9_canHaveBegunBy_L34 Z l2 mFuel 0 s5))))
set_option maxRecDepth 20000 in
set_option maxHeartbeats 4000000 in
theorem C_F_X9_canHaveBegunBy_J53 {g : Nat → List (Nat × Value) → List Value → gS → Prop} {Z : List gH} {ad : Nat → Nat} {z : Int32 × gS}  (C : gOk g T_X9_canHaveBegunBy RX9 4 (some .boolean) 7 Z ad z) (hZ : Lay Z) {k34 : Int32 → gS → Option (Int32 × gS)} (l2 : Nat) (hl2 : SB l2) (hk34 : ∀ (l3 : Int32) (σ : gS), k34 l3 σ = some z → g 34 [(0, .ref (ad 0)), (2, .ref (ad l2)), (3, .int l3)] [] σ) (l3 : Int32) (σ : gS) (h : F_X9_canHaveBegunBy_J53 Z k34 l2 l3 σ = some z) : g 53 [(0, .ref (ad 0)), (2, .ref (ad l2)), (3, .int l3)] [] σ := by
  rw [F_X9_canHaveBegunBy_J53] at h
  refine g_aload_n C 27 1 rfl rfl ?_
  refine g_iload_n C 28 2 rfl rfl ?_
  refine g_callVi C 29 [.int l3] [] rfl (M_X5_hasNumber hZ l2 hl2 l3) cnX9_295 cwX5_hasNumber ciX5_hasNumber (sb_obj hZ hl2) rfl rfl rfl rfl (Nat.le_of_ble_eq_true rfl) ⟨Nat.le_of_ble_eq_true rfl, Nat.le_of_ble_eq_true rfl⟩ h (fun r1 s2 h => ?_)
  refine g_if_eq C 30 82 rfl rfl h (fun h => ?_) (fun h => ?_)
  · refine g_iinc C 42 2 (l3 + 1) [(3, .int (l3 + 1)), (0, .ref (ad 0)), (2, .ref (ad l2))] rfl rfl (by decide) rfl rfl ?_
    refine g_goto C 43 34 rfl rfl ?_
    refine g_sub C [1, 2, 0] [(0, .ref (ad 0)), (2, .ref (ad l2)), (3, .int (l3 + 1))] rfl ?_
    exact hk34 _ _ h
  · refine g_aload_n C 31 1 rfl rfl ?_
    refine g_getr (b := (l2 + 1)) C 32 rfl flX9_290 (sb_obj hZ hl2) rfl ?_
    refine g_iload_n C 33 2 rfl rfl ?_
    refine g_iald C 34 rfl (sb_places hZ hl2) h (fun h => ?_)
    refine g_aload_n C 35 0 rfl rfl ?_
    refine g_getr (b := 22) C 36 rfl flX9_28 (hZ.at (i := 0) rfl) rfl ?_
    refine g_callVi C 37 [] [.int (s2 (l2 + 1) (nn l3))] rfl (M_X0_litSet hZ 22 (Or.inr (Or.inr rfl))) cnX9_208 cwX0_litSet ciX0_litSet (hZ.at (i := 22) rfl) rfl rfl rfl rfl (Nat.le_of_ble_eq_true rfl) ⟨Nat.le_of_ble_eq_true rfl, Nat.le_of_ble_eq_true rfl⟩ h (fun r3 s4 h => ?_)
    refine g_callSi C 38 [.int r3] [.int (s2 (l2 + 1) (nn l3))] rfl (M_JI_bitCount hZ r3) cnX9_345 cwJI_bitCount csJI_bitCount rfl rfl rfl (Nat.le_of_ble_eq_true rfl) ⟨Nat.le_of_ble_eq_true rfl, Nat.le_of_ble_eq_true rfl⟩ h (fun r5 s6 h => ?_)
    refine g_icmp_eq C 39 82 rfl rfl h (fun h => ?_) (fun h => ?_)
    · refine g_iinc C 42 2 (l3 + 1) [(3, .int (l3 + 1)), (0, .ref (ad 0)), (2, .ref (ad l2))] rfl rfl (by decide) rfl rfl ?_
      refine g_goto C 43 34 rfl rfl ?_
      refine g_sub C [1, 2, 0] [(0, .ref (ad 0)), (2, .ref (ad l2)), (3, .int (l3 + 1))] rfl ?_
      exact hk34 _ _ h
    · refine g_iconst (v := 0) C 40 rfl rfl ?_
      exact g_zreturn C 41 rfl h
set_option maxRecDepth 20000 in
set_option maxHeartbeats 4000000 in
theorem C_F_X9_canHaveBegunBy_L34 {g : Nat → List (Nat × Value) → List Value → gS → Prop} {Z : List gH} {ad : Nat → Nat} {z : Int32 × gS}  (C : gOk g T_X9_canHaveBegunBy RX9 4 (some .boolean) 7 Z ad z) (hZ : Lay Z) (l2 : Nat) (hl2 : SB l2) : ∀ (n : Nat) (l3 : Int32) (σ : gS), F_X9_canHaveBegunBy_L34 Z l2 n l3 σ = some z → g 34 [(0, .ref (ad 0)), (2, .ref (ad l2)), (3, .int l3)] [] σ := by
  intro n
  induction n with
  | zero => intro l3 σ h; cases h
  | succ n ih =>
    intro l3 σ h
    rw [F_X9_canHaveBegunBy_L34] at h
    refine g_iload_n C 18 2 rfl rfl ?_
    refine g_aload_n C 19 1 rfl rfl ?_
    refine g_geti C 20 rfl flX9_301 (sb_obj hZ hl2) rfl ?_
    refine g_icmp_ge C 21 88 rfl rfl h (fun h => ?_) (fun h => ?_)
    · refine g_iconst (v := 1) C 44 rfl rfl ?_
      exact g_zreturn C 45 rfl h
    · refine g_iload_n C 22 2 rfl rfl ?_
      refine g_if_le C 23 53 rfl rfl h (fun h => ?_) (fun h => ?_)
      · exact C_F_X9_canHaveBegunBy_J53 C hZ _ hl2 ih _ _ h
      · refine g_aload_n C 24 0 rfl rfl ?_
        refine g_getr (b := 22) C 25 rfl flX9_28 (hZ.at (i := 0) rfl) rfl ?_
        refine g_callVv C 26 [] [] rfl (M_X0_passMinute hZ 22 (Or.inr (Or.inr rfl))) cnX9_199 cwX0_passMinute ciX0_passMinute (hZ.at (i := 22) rfl) rfl rfl rfl rfl (Nat.le_of_ble_eq_true rfl) ⟨Nat.le_of_ble_eq_true rfl, Nat.le_of_ble_eq_true rfl⟩ h (fun r1 s2 h => ?_)
        exact C_F_X9_canHaveBegunBy_J53 C hZ _ hl2 ih _ _ h
set_option maxRecDepth 20000 in
set_option maxHeartbeats 4000000 in
theorem M_X9_canHaveBegunBy {Z : List gH} (hZ : Lay Z) (l1 : Int32) (l2 : Nat) (hl2 : SB l2) : gMet yX9_canHaveBegunBy cX9_canHaveBegunBy 4 (some .boolean) 7 Z (fun ad => [.ref (ad 0), .int l1, .ref (ad l2)]) (F_X9_canHaveBegunBy Z l1 l2) := by
  refine gMet_intro T_X9_canHaveBegunBy T_X9_canHaveBegunBy_ok rfl (fun _ => Nat.le_of_ble_eq_true rfl) (fun g ad σ z C h => ?_)
  show g 0 [(0, .ref (ad 0)), (1, .int l1), (2, .ref (ad l2))] [] σ
  rw [F_X9_canHaveBegunBy] at h
  refine g_aload_n C 0 0 rfl rfl ?_
  refine g_getr (b := 22) C 1 rfl flX9_28 (hZ.at (i := 0) rfl) rfl ?_
  refine g_aload_n C 2 0 rfl rfl ?_
  refine g_getr (b := 4) C 3 rfl flX9_21 (hZ.at (i := 0) rfl) rfl ?_
  refine g_callVv C 4 [.ref (ad 4)] [] rfl (M_X0_becomeAs hZ 22 (Or.inr (Or.inr rfl)) 4 (Or.inl rfl)) cnX9_215 cwX0_becomeAs ciX0_becomeAs (hZ.at (i := 22) rfl) rfl rfl rfl rfl (Nat.le_of_ble_eq_true rfl) ⟨Nat.le_of_ble_eq_true rfl, Nat.le_of_ble_eq_true rfl⟩ h (fun r1 s2 h => ?_)
  refine g_aload_n C 5 0 rfl rfl ?_
  refine g_getr (b := 22) C 6 rfl flX9_28 (hZ.at (i := 0) rfl) rfl ?_
  refine g_getr (b := 26) C 7 rfl flX9_115 (hZ.at (i := 22) rfl) rfl ?_
  refine g_iconst (v := 0) C 8 rfl rfl ?_
  refine g_callSv C 9 [.ref (ad 26), .int 0] [] rfl (M_JA_fill hZ 26 (ia_of (hZ.at (i := 26) rfl)) 0) cnX9_339 cwJA_fill csJA_fill rfl rfl rfl (Nat.le_of_ble_eq_true rfl) ⟨Nat.le_of_ble_eq_true rfl, Nat.le_of_ble_eq_true rfl⟩ h (fun r3 s4 h => ?_)
  refine g_aload_n C 10 0 rfl rfl ?_
  refine g_getr (b := 22) C 11 rfl flX9_28 (hZ.at (i := 0) rfl) rfl ?_
  refine g_getr (b := 26) C 12 rfl flX9_115 (hZ.at (i := 22) rfl) rfl ?_
  refine g_iload_n C 13 1 rfl rfl ?_
  refine g_iconst (v := 1) C 14 rfl rfl ?_
  refine g_iast C 15 rfl (hZ.at (i := 26) rfl) h (fun s5 h => ?_)
  refine g_iconst (v := 0) C 16 rfl rfl ?_
  refine g_istore_n C 17 [(3, .int 0), (0, .ref (ad 0)), (1, .int l1), (2, .ref (ad l2))] rfl (by decide) rfl ?_
  refine g_sub C [1, 3, 0] [(0, .ref (ad 0)), (2, .ref (ad l2)), (3, .int 0)] rfl ?_
  exact C_F_X9_canHaveBegunBy_L34 C hZ _ hl2 _ _ _ h
def T_X9_began : List (Nat × Instr × Nat) := [(0, .iload_n 1, 1), (1, .invokestatic 223, 3), (4, .ifCond .ne 6, 3), (7, .ldc 94, 2), (9, .ireturn, 1), (10, .aload_n 0, 1), (11, .getfield 56, 3), (14, .iload_n 1, 1), (15, .aaload, 1), (16, .invokevirtual 226, 3), (19, .ifCond .eq 6, 3), (22, .ldc 230, 2), (24, .ireturn, 1), (25, .iconst 0, 1), (26, .istore_n 2, 1), (27, .iconst 0, 1), (28, .istore_n 3, 1), (29, .iload_n 3, 1), (30, .aload_n 0, 1), (31, .getfield 21, 3), (34, .getfield 95, 3), (37, .if_icmp .ge 41, 3), (40, .aload_n 0, 1), (41, .getfield 21, 3), (44, .getfield 112, 3), (47, .iload_n 3, 1), (48, .iaload, 1), (49, .ifCond .le 23, 3), (52, .aload_n 0, 1), (53, .iload_n 3, 1), (54, .aload_n 0, 1), (55, .getfield 56, 3), (58, .iload_n 1, 1), (59, .aaload, 1), (60, .invokevirtual 231, 3), (63, .ifCond .eq 9, 3), (66, .iload_n 2, 1), (67, .iconst 1, 1), (68, .iload_n 3, 1), (69, .ishl, 1), (70, .ior, 1), (71, .istore_n 2, 1), (72, .iinc 3 1, 3), (75, .goto (-46), 3), (78, .iload_n 2, 1), (79, .ireturn, 1)]
theorem T_X9_began_ok : gTb cX9_began T_X9_began = true := by decide +kernel
def F_X9_began_L29 (Z : List gH) (l1 : Int32) : Nat → Int32 → Int32 → gS → Option (Int32 × gS)
  | 0, _, _, _ => none
  | n + 1, l2, l3, σ => if (σ 4 9) ≤ l3 then some (l2, σ) else mIn 12 l3 (if (σ 7 (nn l3)) ≤ 0 then F_X9_began_L29 Z l1 n l2 (l3 + 1) σ else mSh l1 (fun c1 => mCall (F_X9_canHaveBegunBy Z l3 c1 σ) (fun r2 s3 => if r2 = 0 then F_X9_began_L29 Z l1 n l2 (l3 + 1) s3 else mLet ((l2 ||| (1 <<< (l3 &&& 31)))) (fun v4 => F_X9_began_L29 Z l1 n v4 (l3 + 1) s3))))
def F_X9_began (Z : List gH) (l1 : Int32) (σ : gS) : Option (Int32 × gS) := mCall (F_X9_isSheet Z l1 σ) (fun r1 s2 => if r1 = 0 then some ((-1000000001), s2) else mSh l1 (fun c3 => mCall (F_X5_isMissing Z c3 s2) (fun r4 s5 => if r4 = 0 then F_X9_began_L29 Z l1 mFuel 0 0 s5 else some ((-1000000011), s5))))
set_option maxRecDepth 20000 in
set_option maxHeartbeats 4000000 in
theorem C_F_X9_began_L29 {g : Nat → List (Nat × Value) → List Value → gS → Prop} {Z : List gH} {ad : Nat → Nat} {z : Int32 × gS}  (C : gOk g T_X9_began RX9 4 (some .int) 8 Z ad z) (hZ : Lay Z) (l1 : Int32) : ∀ (n : Nat) (l2 : Int32) (l3 : Int32) (σ : gS), F_X9_began_L29 Z l1 n l2 l3 σ = some z → g 29 [(0, .ref (ad 0)), (1, .int l1), (2, .int l2), (3, .int l3)] [] σ := by
  intro n
  induction n with
  | zero => intro l2 l3 σ h; cases h
  | succ n ih =>
    intro l2 l3 σ h
    rw [F_X9_began_L29] at h
    refine g_iload_n C 17 3 rfl rfl ?_
    refine g_aload_n C 18 0 rfl rfl ?_
    refine g_getr (b := 4) C 19 rfl flX9_21 (hZ.at (i := 0) rfl) rfl ?_
    refine g_geti C 20 rfl flX9_95 (hZ.at (i := 4) rfl) rfl ?_
    refine g_icmp_ge C 21 78 rfl rfl h (fun h => ?_) (fun h => ?_)
    · refine g_iload_n C 44 2 rfl rfl ?_
      exact g_ireturn C 45 rfl h
    · refine g_aload_n C 22 0 rfl rfl ?_
      refine g_getr (b := 4) C 23 rfl flX9_21 (hZ.at (i := 0) rfl) rfl ?_
      refine g_getr (b := 7) C 24 rfl flX9_112 (hZ.at (i := 4) rfl) rfl ?_
      refine g_iload_n C 25 3 rfl rfl ?_
      refine g_iald C 26 rfl (hZ.at (i := 7) rfl) h (fun h => ?_)
      refine g_if_le C 27 72 rfl rfl h (fun h => ?_) (fun h => ?_)
      · refine g_iinc C 42 3 (l3 + 1) [(3, .int (l3 + 1)), (0, .ref (ad 0)), (1, .int l1), (2, .int l2)] rfl rfl (by decide) rfl rfl ?_
        refine g_goto C 43 29 rfl rfl ?_
        refine g_sub C [1, 2, 3, 0] [(0, .ref (ad 0)), (1, .int l1), (2, .int l2), (3, .int (l3 + 1))] rfl ?_
        exact ih _ _ _ h
      · refine g_aload_n C 28 0 rfl rfl ?_
        refine g_iload_n C 29 3 rfl rfl ?_
        refine g_aload_n C 30 0 rfl rfl ?_
        refine g_getr (b := 38) C 31 rfl flX9_56 (hZ.at (i := 0) rfl) rfl ?_
        refine g_iload_n C 32 1 rfl rfl ?_
        refine g_sheet C 33 hZ rfl h (fun c1 hc1 h => ?_)
        refine g_callVi C 34 [.int l3, .ref (ad c1)] [] rfl (M_X9_canHaveBegunBy hZ l3 c1 hc1) cnX9_231 cwX9_canHaveBegunBy ciX9_canHaveBegunBy (hZ.at (i := 0) rfl) rfl rfl rfl rfl (Nat.le_of_ble_eq_true rfl) ⟨Nat.le_of_ble_eq_true rfl, Nat.le_of_ble_eq_true rfl⟩ h (fun r2 s3 h => ?_)
        refine g_if_eq C 35 72 rfl rfl h (fun h => ?_) (fun h => ?_)
        · refine g_iinc C 42 3 (l3 + 1) [(3, .int (l3 + 1)), (0, .ref (ad 0)), (1, .int l1), (2, .int l2)] rfl rfl (by decide) rfl rfl ?_
          refine g_goto C 43 29 rfl rfl ?_
          refine g_sub C [1, 2, 3, 0] [(0, .ref (ad 0)), (1, .int l1), (2, .int l2), (3, .int (l3 + 1))] rfl ?_
          exact ih _ _ _ h
        · refine g_iload_n C 36 2 rfl rfl ?_
          refine g_iconst (v := 1) C 37 rfl rfl ?_
          refine g_iload_n C 38 3 rfl rfl ?_
          refine g_ishl C 39 rfl ?_
          refine g_ior C 40 rfl ?_
          refine g_let h (fun v4 h => ?_)
          refine g_istore_n C 41 [(2, .int v4), (0, .ref (ad 0)), (1, .int l1), (3, .int l3)] rfl (by decide) rfl ?_
          refine g_iinc C 42 3 (l3 + 1) [(3, .int (l3 + 1)), (2, .int v4), (0, .ref (ad 0)), (1, .int l1)] rfl rfl (by decide) rfl rfl ?_
          refine g_goto C 43 29 rfl rfl ?_
          refine g_sub C [2, 3, 1, 0] [(0, .ref (ad 0)), (1, .int l1), (2, .int v4), (3, .int (l3 + 1))] rfl ?_
          exact ih _ _ _ h
set_option maxRecDepth 20000 in
set_option maxHeartbeats 4000000 in
theorem M_X9_began {Z : List gH} (hZ : Lay Z) (l1 : Int32) : gMet yX9_began cX9_began 4 (some .int) 8 Z (fun ad => [.ref (ad 0), .int l1]) (F_X9_began Z l1) := by
  refine gMet_intro T_X9_began T_X9_began_ok rfl (fun _ => Nat.le_of_ble_eq_true rfl) (fun g ad σ z C h => ?_)
  show g 0 [(0, .ref (ad 0)), (1, .int l1)] [] σ
  rw [F_X9_began] at h
  refine g_iload_n C 0 1 rfl rfl ?_
  refine g_callSi C 1 [.int l1] [] rfl (M_X9_isSheet hZ l1) cnX9_223 cwX9_isSheet csX9_isSheet rfl rfl rfl (Nat.le_of_ble_eq_true rfl) ⟨Nat.le_of_ble_eq_true rfl, Nat.le_of_ble_eq_true rfl⟩ h (fun r1 s2 h => ?_)
  refine g_if_ne C 2 10 rfl rfl h (fun h => ?_) (fun h => ?_)
  · refine g_aload_n C 5 0 rfl rfl ?_
    refine g_getr (b := 38) C 6 rfl flX9_56 (hZ.at (i := 0) rfl) rfl ?_
    refine g_iload_n C 7 1 rfl rfl ?_
    refine g_sheet C 8 hZ rfl h (fun c3 hc3 h => ?_)
    refine g_callVi C 9 [] [] rfl (M_X5_isMissing hZ c3 hc3) cnX9_226 cwX5_isMissing ciX5_isMissing (sb_obj hZ hc3) rfl rfl rfl rfl (Nat.le_of_ble_eq_true rfl) ⟨Nat.le_of_ble_eq_true rfl, Nat.le_of_ble_eq_true rfl⟩ h (fun r4 s5 h => ?_)
    refine g_if_eq C 10 25 rfl rfl h (fun h => ?_) (fun h => ?_)
    · refine g_iconst (v := 0) C 13 rfl rfl ?_
      refine g_istore_n C 14 [(2, .int 0), (0, .ref (ad 0)), (1, .int l1)] rfl (by decide) rfl ?_
      refine g_iconst (v := 0) C 15 rfl rfl ?_
      refine g_istore_n C 16 [(3, .int 0), (2, .int 0), (0, .ref (ad 0)), (1, .int l1)] rfl (by decide) rfl ?_
      refine g_sub C [2, 3, 1, 0] [(0, .ref (ad 0)), (1, .int l1), (2, .int 0), (3, .int 0)] rfl ?_
      exact C_F_X9_began_L29 C hZ _ _ _ _ _ h
    · refine g_ldc C 11 rfl kcX9_230 ?_
      exact g_ireturn C 12 rfl h
  · refine g_ldc C 3 rfl kcX9_94 ?_
    exact g_ireturn C 4 rfl h
def T_X9_sumDifferences : List (Nat × Instr × Nat) := [(0, .aload_n 0, 1), (1, .getfield 68, 3), (4, .iconst 0, 1), (5, .invokestatic 339, 3), (8, .aload_n 0, 1), (9, .getfield 28, 3), (12, .aload_n 0, 1), (13, .getfield 21, 3), (16, .invokevirtual 215, 3), (19, .iconst 0, 1), (20, .istore_n 2, 1), (21, .iload_n 2, 1), (22, .aload_n 1, 1), (23, .getfield 301, 3), (26, .if_icmp .ge 70, 3), (29, .iload_n 2, 1), (30, .ifCond .le 10, 3), (33, .aload_n 0, 1), (34, .getfield 28, 3), (37, .invokevirtual 199, 3), (40, .aload_n 1, 1), (41, .iload_n 2, 1), (42, .invokevirtual 295, 3), (45, .ifCond .eq 45, 3), (48, .iconst 0, 1), (49, .istore_n 3, 1), (50, .iload_n 3, 1), (51, .bipush 8, 2), (53, .if_icmp .ge 37, 3), (56, .aload_n 0, 1), (57, .getfield 68, 3), (60, .iload_n 3, 1), (61, .dup2, 1), (62, .iaload, 1), (63, .aload_n 0, 1), (64, .getfield 28, 3), (67, .getfield 154, 3), (70, .iload_n 3, 1), (71, .iaload, 1), (72, .aload_n 1, 1), (73, .getfield 290, 3), (76, .iload_n 2, 1), (77, .iaload, 1), (78, .isub, 1), (79, .invokestatic 350, 3), (82, .iadd, 1), (83, .iastore, 1), (84, .iinc 3 1, 3), (87, .goto (-37), 3), (90, .iinc 2 1, 3), (93, .goto (-72), 3), (96, .return_, 1)]
theorem T_X9_sumDifferences_ok : gTb cX9_sumDifferences T_X9_sumDifferences = true := by decide +kernel
def F_X9_sumDifferences_L50 (Z : List gH) (k21 : Int32 → gS → Option (Int32 × gS)) (l1 : Nat) : Nat → Int32 → Int32 → gS → Option (Int32 × gS)
  | 0, _, _, _ => none
  | n + 1, l2, l3, σ => if 8 ≤ l3 then k21 (l2 + 1) σ else mIn 8 l3 (mIn 8 l3 (mIn 24 l2 (mIn 8 l3 (mLet (gu σ 63 (nn l3) ((σ 63 (nn l3)) + (mAbs ((σ 27 (nn l3)) - (σ (l1 + 1) (nn l2)))))) (fun s1 => F_X9_sumDifferences_L50 Z k21 l1 n l2 (l3 + 1) s1)))))
def F_X9_sumDifferences_L21 (Z : List gH) (l1 : Nat) : Nat → Int32 → gS → Option (Int32 × gS)
  | 0, _, _ => none
  | n + 1, l2, σ => if (σ l1 2) ≤ l2 then some (0, σ) else if l2 ≤ 0 then mCall (F_X5_hasNumber Z l1 l2 σ) (fun r1 s2 => if r1 = 0 then F_X9_sumDifferences_L21 Z l1 n (l2 + 1) s2 else F_X9_sumDifferences_L50 Z (F_X9_sumDifferences_L21 Z l1 n) l1 mFuel l2 0 s2) else mCall (F_X0_passMinute Z 22 σ) (fun r3 s4 => mCall (F_X5_hasNumber Z l1 l2 s4) (fun r5 s6 => if r5 = 0 then F_X9_sumDifferences_L21 Z l1 n (l2 + 1) s6 else F_X9_sumDifferences_L50 Z (F_X9_sumDifferences_L21 Z l1 n) l1 mFuel l2 0 s6))
def F_X9_sumDifferences (Z : List gH) (l1 : Nat) (σ : gS) : Option (Int32 × gS) := mCall (F_JA_fill Z 63 0 σ) (fun r1 s2 => mCall (F_X0_becomeAs Z 22 4 s2) (fun r3 s4 => F_X9_sumDifferences_L21 Z l1 mFuel 0 s4))
set_option maxRecDepth 20000 in
set_option maxHeartbeats 4000000 in
theorem C_F_X9_sumDifferences_L50 {g : Nat → List (Nat × Value) → List Value → gS → Prop} {Z : List gH} {ad : Nat → Nat} {z : Int32 × gS}  (C : gOk g T_X9_sumDifferences RX9 4 none 7 Z ad z) (hZ : Lay Z) {k21 : Int32 → gS → Option (Int32 × gS)} (l1 : Nat) (hl1 : SB l1) (hk21 : ∀ (l2 : Int32) (σ : gS), k21 l2 σ = some z → g 21 [(0, .ref (ad 0)), (1, .ref (ad l1)), (2, .int l2)] [] σ) : ∀ (n : Nat) (l2 : Int32) (l3 : Int32) (σ : gS), F_X9_sumDifferences_L50 Z k21 l1 n l2 l3 σ = some z → g 50 [(0, .ref (ad 0)), (1, .ref (ad l1)), (2, .int l2), (3, .int l3)] [] σ := by
  intro n
  induction n with
  | zero => intro l2 l3 σ h; cases h
  | succ n ih =>
    intro l2 l3 σ h
    rw [F_X9_sumDifferences_L50] at h
    refine g_iload_n C 26 3 rfl rfl ?_
    refine g_bipush (v := 8) C 27 rfl rfl ?_
    refine g_icmp_ge C 28 90 rfl rfl h (fun h => ?_) (fun h => ?_)
    · refine g_iinc C 49 2 (l2 + 1) [(2, .int (l2 + 1)), (0, .ref (ad 0)), (1, .ref (ad l1)), (3, .int l3)] rfl rfl (by decide) rfl rfl ?_
      refine g_goto C 50 21 rfl rfl ?_
      refine g_sub C [1, 2, 0] [(0, .ref (ad 0)), (1, .ref (ad l1)), (2, .int (l2 + 1))] rfl ?_
      exact hk21 _ _ h
    · refine g_aload_n C 29 0 rfl rfl ?_
      refine g_getr (b := 63) C 30 rfl flX9_68 (hZ.at (i := 0) rfl) rfl ?_
      refine g_iload_n C 31 3 rfl rfl ?_
      refine g_dup2 C 32 rfl rfl rfl ?_
      refine g_iald C 33 rfl (hZ.at (i := 63) rfl) h (fun h => ?_)
      refine g_aload_n C 34 0 rfl rfl ?_
      refine g_getr (b := 22) C 35 rfl flX9_28 (hZ.at (i := 0) rfl) rfl ?_
      refine g_getr (b := 27) C 36 rfl flX9_154 (hZ.at (i := 22) rfl) rfl ?_
      refine g_iload_n C 37 3 rfl rfl ?_
      refine g_iald C 38 rfl (hZ.at (i := 27) rfl) h (fun h => ?_)
      refine g_aload_n C 39 1 rfl rfl ?_
      refine g_getr (b := (l1 + 1)) C 40 rfl flX9_290 (sb_obj hZ hl1) rfl ?_
      refine g_iload_n C 41 2 rfl rfl ?_
      refine g_iald C 42 rfl (sb_places hZ hl1) h (fun h => ?_)
      refine g_isub C 43 rfl ?_
      refine g_mabs C 44 rfl cnX9_350 wm_abs ⟨Nat.le_of_ble_eq_true rfl, Nat.le_of_ble_eq_true rfl⟩ ?_
      refine g_iadd C 45 rfl ?_
      refine g_iast C 46 rfl (hZ.at (i := 63) rfl) h (fun s1 h => ?_)
      refine g_iinc C 47 3 (l3 + 1) [(3, .int (l3 + 1)), (0, .ref (ad 0)), (1, .ref (ad l1)), (2, .int l2)] rfl rfl (by decide) rfl rfl ?_
      refine g_goto C 48 50 rfl rfl ?_
      refine g_sub C [1, 2, 3, 0] [(0, .ref (ad 0)), (1, .ref (ad l1)), (2, .int l2), (3, .int (l3 + 1))] rfl ?_
      exact ih _ _ _ h
set_option maxRecDepth 20000 in
set_option maxHeartbeats 4000000 in
theorem C_F_X9_sumDifferences_L21 {g : Nat → List (Nat × Value) → List Value → gS → Prop} {Z : List gH} {ad : Nat → Nat} {z : Int32 × gS}  (C : gOk g T_X9_sumDifferences RX9 4 none 7 Z ad z) (hZ : Lay Z) (l1 : Nat) (hl1 : SB l1) : ∀ (n : Nat) (l2 : Int32) (σ : gS), F_X9_sumDifferences_L21 Z l1 n l2 σ = some z → g 21 [(0, .ref (ad 0)), (1, .ref (ad l1)), (2, .int l2)] [] σ := by
  intro n
  induction n with
  | zero => intro l2 σ h; cases h
  | succ n ih =>
    intro l2 σ h
    rw [F_X9_sumDifferences_L21] at h
    refine g_iload_n C 11 2 rfl rfl ?_
    refine g_aload_n C 12 1 rfl rfl ?_
    refine g_geti C 13 rfl flX9_301 (sb_obj hZ hl1) rfl ?_
    refine g_icmp_ge C 14 96 rfl rfl h (fun h => ?_) (fun h => ?_)
    · exact g_return C 51 rfl h
    · refine g_iload_n C 15 2 rfl rfl ?_
      refine g_if_le C 16 40 rfl rfl h (fun h => ?_) (fun h => ?_)
      · refine g_aload_n C 20 1 rfl rfl ?_
        refine g_iload_n C 21 2 rfl rfl ?_
        refine g_callVi C 22 [.int l2] [] rfl (M_X5_hasNumber hZ l1 hl1 l2) cnX9_295 cwX5_hasNumber ciX5_hasNumber (sb_obj hZ hl1) rfl rfl rfl rfl (Nat.le_of_ble_eq_true rfl) ⟨Nat.le_of_ble_eq_true rfl, Nat.le_of_ble_eq_true rfl⟩ h (fun r1 s2 h => ?_)
        refine g_if_eq C 23 90 rfl rfl h (fun h => ?_) (fun h => ?_)
        · refine g_iinc C 49 2 (l2 + 1) [(2, .int (l2 + 1)), (0, .ref (ad 0)), (1, .ref (ad l1))] rfl rfl (by decide) rfl rfl ?_
          refine g_goto C 50 21 rfl rfl ?_
          refine g_sub C [1, 2, 0] [(0, .ref (ad 0)), (1, .ref (ad l1)), (2, .int (l2 + 1))] rfl ?_
          exact ih _ _ h
        · refine g_iconst (v := 0) C 24 rfl rfl ?_
          refine g_istore_n C 25 [(3, .int 0), (0, .ref (ad 0)), (1, .ref (ad l1)), (2, .int l2)] rfl (by decide) rfl ?_
          refine g_sub C [1, 2, 3, 0] [(0, .ref (ad 0)), (1, .ref (ad l1)), (2, .int l2), (3, .int 0)] rfl ?_
          exact C_F_X9_sumDifferences_L50 C hZ _ hl1 ih _ _ _ _ h
      · refine g_aload_n C 17 0 rfl rfl ?_
        refine g_getr (b := 22) C 18 rfl flX9_28 (hZ.at (i := 0) rfl) rfl ?_
        refine g_callVv C 19 [] [] rfl (M_X0_passMinute hZ 22 (Or.inr (Or.inr rfl))) cnX9_199 cwX0_passMinute ciX0_passMinute (hZ.at (i := 22) rfl) rfl rfl rfl rfl (Nat.le_of_ble_eq_true rfl) ⟨Nat.le_of_ble_eq_true rfl, Nat.le_of_ble_eq_true rfl⟩ h (fun r3 s4 h => ?_)
        refine g_aload_n C 20 1 rfl rfl ?_
        refine g_iload_n C 21 2 rfl rfl ?_
        refine g_callVi C 22 [.int l2] [] rfl (M_X5_hasNumber hZ l1 hl1 l2) cnX9_295 cwX5_hasNumber ciX5_hasNumber (sb_obj hZ hl1) rfl rfl rfl rfl (Nat.le_of_ble_eq_true rfl) ⟨Nat.le_of_ble_eq_true rfl, Nat.le_of_ble_eq_true rfl⟩ h (fun r5 s6 h => ?_)
        refine g_if_eq C 23 90 rfl rfl h (fun h => ?_) (fun h => ?_)
        · refine g_iinc C 49 2 (l2 + 1) [(2, .int (l2 + 1)), (0, .ref (ad 0)), (1, .ref (ad l1))] rfl rfl (by decide) rfl rfl ?_
          refine g_goto C 50 21 rfl rfl ?_
          refine g_sub C [1, 2, 0] [(0, .ref (ad 0)), (1, .ref (ad l1)), (2, .int (l2 + 1))] rfl ?_
          exact ih _ _ h
        · refine g_iconst (v := 0) C 24 rfl rfl ?_
          refine g_istore_n C 25 [(3, .int 0), (0, .ref (ad 0)), (1, .ref (ad l1)), (2, .int l2)] rfl (by decide) rfl ?_
          refine g_sub C [1, 2, 3, 0] [(0, .ref (ad 0)), (1, .ref (ad l1)), (2, .int l2), (3, .int 0)] rfl ?_
          exact C_F_X9_sumDifferences_L50 C hZ _ hl1 ih _ _ _ _ h
set_option maxRecDepth 20000 in
set_option maxHeartbeats 4000000 in
theorem M_X9_sumDifferences {Z : List gH} (hZ : Lay Z) (l1 : Nat) (hl1 : SB l1) : gMet yX9_sumDifferences cX9_sumDifferences 4 none 7 Z (fun ad => [.ref (ad 0), .ref (ad l1)]) (F_X9_sumDifferences Z l1) := by
  refine gMet_intro T_X9_sumDifferences T_X9_sumDifferences_ok rfl (fun _ => Nat.le_of_ble_eq_true rfl) (fun g ad σ z C h => ?_)
  show g 0 [(0, .ref (ad 0)), (1, .ref (ad l1))] [] σ
  rw [F_X9_sumDifferences] at h
  refine g_aload_n C 0 0 rfl rfl ?_
  refine g_getr (b := 63) C 1 rfl flX9_68 (hZ.at (i := 0) rfl) rfl ?_
  refine g_iconst (v := 0) C 2 rfl rfl ?_
  refine g_callSv C 3 [.ref (ad 63), .int 0] [] rfl (M_JA_fill hZ 63 (ia_of (hZ.at (i := 63) rfl)) 0) cnX9_339 cwJA_fill csJA_fill rfl rfl rfl (Nat.le_of_ble_eq_true rfl) ⟨Nat.le_of_ble_eq_true rfl, Nat.le_of_ble_eq_true rfl⟩ h (fun r1 s2 h => ?_)
  refine g_aload_n C 4 0 rfl rfl ?_
  refine g_getr (b := 22) C 5 rfl flX9_28 (hZ.at (i := 0) rfl) rfl ?_
  refine g_aload_n C 6 0 rfl rfl ?_
  refine g_getr (b := 4) C 7 rfl flX9_21 (hZ.at (i := 0) rfl) rfl ?_
  refine g_callVv C 8 [.ref (ad 4)] [] rfl (M_X0_becomeAs hZ 22 (Or.inr (Or.inr rfl)) 4 (Or.inl rfl)) cnX9_215 cwX0_becomeAs ciX0_becomeAs (hZ.at (i := 22) rfl) rfl rfl rfl rfl (Nat.le_of_ble_eq_true rfl) ⟨Nat.le_of_ble_eq_true rfl, Nat.le_of_ble_eq_true rfl⟩ h (fun r3 s4 h => ?_)
  refine g_iconst (v := 0) C 9 rfl rfl ?_
  refine g_istore_n C 10 [(2, .int 0), (0, .ref (ad 0)), (1, .ref (ad l1))] rfl (by decide) rfl ?_
  refine g_sub C [1, 2, 0] [(0, .ref (ad 0)), (1, .ref (ad l1)), (2, .int 0)] rfl ?_
  exact C_F_X9_sumDifferences_L21 C hZ _ hl1 _ _ _ h
def T_X9_like : List (Nat × Instr × Nat) := [(0, .iload_n 1, 1), (1, .invokestatic 223, 3), (4, .ifCond .eq 12, 3), (7, .iload_n 2, 1), (8, .iconst 0, 1), (9, .iconst 1, 1), (10, .invokestatic 90, 3), (13, .ifCond .ne 6, 3), (16, .ldc 94, 2), (18, .ireturn, 1), (19, .aload_n 0, 1), (20, .getfield 56, 3), (23, .iload_n 1, 1), (24, .aaload, 1), (25, .invokevirtual 226, 3), (28, .ifCond .eq 6, 3), (31, .ldc 230, 2), (33, .ireturn, 1), (34, .aload_n 0, 1), (35, .aload_n 0, 1), (36, .getfield 56, 3), (39, .iload_n 1, 1), (40, .aaload, 1), (41, .invokevirtual 235, 3), (44, .iconst 0, 1), (45, .istore_n 3, 1), (46, .iconst 1, 1), (47, .istore 4, 2), (49, .iload 4, 2), (51, .bipush 8, 2), (53, .if_icmp .ge 28, 3), (56, .aload_n 0, 1), (57, .getfield 68, 3), (60, .iload 4, 2), (62, .iaload, 1), (63, .aload_n 0, 1), (64, .getfield 68, 3), (67, .iload_n 3, 1), (68, .iaload, 1), (69, .if_icmp .ge 6, 3), (72, .iload 4, 2), (74, .istore_n 3, 1), (75, .iinc 4 1, 3), (78, .goto (-29), 3), (81, .iload_n 2, 1), (82, .ifCond .ne 7, 3), (85, .iload_n 3, 1), (86, .goto 9, 3), (89, .aload_n 0, 1), (90, .getfield 68, 3), (93, .iload_n 3, 1), (94, .iaload, 1), (95, .ireturn, 1)]
theorem T_X9_like_ok : gTb cX9_like T_X9_like = true := by decide +kernel
def F_X9_like_L49 (Z : List gH) (l2 : Int32) : Nat → Int32 → Int32 → gS → Option (Int32 × gS)
  | 0, _, _, _ => none
  | n + 1, l3, l4, σ => if 8 ≤ l4 then if l2 = 0 then some (l3, σ) else mIn 8 l3 (some ((σ 63 (nn l3)), σ)) else mIn 8 l4 (mIn 8 l3 (if (σ 63 (nn l3)) ≤ (σ 63 (nn l4)) then F_X9_like_L49 Z l2 n l3 (l4 + 1) σ else F_X9_like_L49 Z l2 n l4 (l4 + 1) σ))
def F_X9_like (Z : List gH) (l1 : Int32) (l2 : Int32) (σ : gS) : Option (Int32 × gS) := mCall (F_X9_isSheet Z l1 σ) (fun r1 s2 => if r1 = 0 then some ((-1000000001), s2) else mCall (F_X9_within Z l2 0 1 s2) (fun r3 s4 => if r3 = 0 then some ((-1000000001), s4) else mSh l1 (fun c5 => mCall (F_X5_isMissing Z c5 s4) (fun r6 s7 => if r6 = 0 then mSh l1 (fun c8 => mCall (F_X9_sumDifferences Z c8 s7) (fun r9 s10 => F_X9_like_L49 Z l2 mFuel 0 1 s10)) else some ((-1000000011), s7)))))
set_option maxRecDepth 20000 in
set_option maxHeartbeats 4000000 in
theorem C_F_X9_like_L49 {g : Nat → List (Nat × Value) → List Value → gS → Prop} {Z : List gH} {ad : Nat → Nat} {z : Int32 × gS}  (C : gOk g T_X9_like RX9 5 (some .int) 8 Z ad z) (hZ : Lay Z) (l2 : Int32) : ∀ (n : Nat) (l3 : Int32) (l4 : Int32) (σ : gS), F_X9_like_L49 Z l2 n l3 l4 σ = some z → g 49 [(0, .ref (ad 0)), (2, .int l2), (3, .int l3), (4, .int l4)] [] σ := by
  intro n
  induction n with
  | zero => intro l3 l4 σ h; cases h
  | succ n ih =>
    intro l3 l4 σ h
    rw [F_X9_like_L49] at h
    refine g_iload C 28 3 rfl rfl ?_
    refine g_bipush (v := 8) C 29 rfl rfl ?_
    refine g_icmp_ge C 30 81 rfl rfl h (fun h => ?_) (fun h => ?_)
    · refine g_iload_n C 44 1 rfl rfl ?_
      refine g_if_ne C 45 89 rfl rfl h (fun h => ?_) (fun h => ?_)
      · refine g_aload_n C 48 0 rfl rfl ?_
        refine g_getr (b := 63) C 49 rfl flX9_68 (hZ.at (i := 0) rfl) rfl ?_
        refine g_iload_n C 50 2 rfl rfl ?_
        refine g_iald C 51 rfl (hZ.at (i := 63) rfl) h (fun h => ?_)
        exact g_ireturn C 52 rfl h
      · refine g_iload_n C 46 2 rfl rfl ?_
        refine g_goto C 47 95 rfl rfl ?_
        exact g_ireturn C 52 rfl h
    · refine g_aload_n C 31 0 rfl rfl ?_
      refine g_getr (b := 63) C 32 rfl flX9_68 (hZ.at (i := 0) rfl) rfl ?_
      refine g_iload C 33 3 rfl rfl ?_
      refine g_iald C 34 rfl (hZ.at (i := 63) rfl) h (fun h => ?_)
      refine g_aload_n C 35 0 rfl rfl ?_
      refine g_getr (b := 63) C 36 rfl flX9_68 (hZ.at (i := 0) rfl) rfl ?_
      refine g_iload_n C 37 2 rfl rfl ?_
      refine g_iald C 38 rfl (hZ.at (i := 63) rfl) h (fun h => ?_)
      refine g_icmp_ge C 39 75 rfl rfl h (fun h => ?_) (fun h => ?_)
      · refine g_iinc C 42 3 (l4 + 1) [(4, .int (l4 + 1)), (0, .ref (ad 0)), (2, .int l2), (3, .int l3)] rfl rfl (by decide) rfl rfl ?_
        refine g_goto C 43 49 rfl rfl ?_
        refine g_sub C [1, 2, 3, 0] [(0, .ref (ad 0)), (2, .int l2), (3, .int l3), (4, .int (l4 + 1))] rfl ?_
        exact ih _ _ _ h
      · refine g_iload C 40 3 rfl rfl ?_
        refine g_istore_n C 41 [(3, .int l4), (0, .ref (ad 0)), (2, .int l2), (4, .int l4)] rfl (by decide) rfl ?_
        refine g_iinc C 42 3 (l4 + 1) [(4, .int (l4 + 1)), (3, .int l4), (0, .ref (ad 0)), (2, .int l2)] rfl rfl (by decide) rfl rfl ?_
        refine g_goto C 43 49 rfl rfl ?_
        refine g_sub C [2, 3, 1, 0] [(0, .ref (ad 0)), (2, .int l2), (3, .int l4), (4, .int (l4 + 1))] rfl ?_
        exact ih _ _ _ h
set_option maxRecDepth 20000 in
set_option maxHeartbeats 4000000 in
theorem M_X9_like {Z : List gH} (hZ : Lay Z) (l1 : Int32) (l2 : Int32) : gMet yX9_like cX9_like 5 (some .int) 8 Z (fun ad => [.ref (ad 0), .int l1, .int l2]) (F_X9_like Z l1 l2) := by
  refine gMet_intro T_X9_like T_X9_like_ok rfl (fun _ => Nat.le_of_ble_eq_true rfl) (fun g ad σ z C h => ?_)
  show g 0 [(0, .ref (ad 0)), (1, .int l1), (2, .int l2)] [] σ
  rw [F_X9_like] at h
  refine g_iload_n C 0 1 rfl rfl ?_
  refine g_callSi C 1 [.int l1] [] rfl (M_X9_isSheet hZ l1) cnX9_223 cwX9_isSheet csX9_isSheet rfl rfl rfl (Nat.le_of_ble_eq_true rfl) ⟨Nat.le_of_ble_eq_true rfl, Nat.le_of_ble_eq_true rfl⟩ h (fun r1 s2 h => ?_)
  refine g_if_eq C 2 16 rfl rfl h (fun h => ?_) (fun h => ?_)
  · refine g_ldc C 8 rfl kcX9_94 ?_
    exact g_ireturn C 9 rfl h
  · refine g_iload_n C 3 2 rfl rfl ?_
    refine g_iconst (v := 0) C 4 rfl rfl ?_
    refine g_iconst (v := 1) C 5 rfl rfl ?_
    refine g_callSi C 6 [.int l2, .int 0, .int 1] [] rfl (M_X9_within hZ l2 0 1) cnX9_90 cwX9_within csX9_within rfl rfl rfl (Nat.le_of_ble_eq_true rfl) ⟨Nat.le_of_ble_eq_true rfl, Nat.le_of_ble_eq_true rfl⟩ h (fun r3 s4 h => ?_)
    refine g_if_ne C 7 19 rfl rfl h (fun h => ?_) (fun h => ?_)
    · refine g_aload_n C 10 0 rfl rfl ?_
      refine g_getr (b := 38) C 11 rfl flX9_56 (hZ.at (i := 0) rfl) rfl ?_
      refine g_iload_n C 12 1 rfl rfl ?_
      refine g_sheet C 13 hZ rfl h (fun c5 hc5 h => ?_)
      refine g_callVi C 14 [] [] rfl (M_X5_isMissing hZ c5 hc5) cnX9_226 cwX5_isMissing ciX5_isMissing (sb_obj hZ hc5) rfl rfl rfl rfl (Nat.le_of_ble_eq_true rfl) ⟨Nat.le_of_ble_eq_true rfl, Nat.le_of_ble_eq_true rfl⟩ h (fun r6 s7 h => ?_)
      refine g_if_eq C 15 34 rfl rfl h (fun h => ?_) (fun h => ?_)
      · refine g_aload_n C 18 0 rfl rfl ?_
        refine g_aload_n C 19 0 rfl rfl ?_
        refine g_getr (b := 38) C 20 rfl flX9_56 (hZ.at (i := 0) rfl) rfl ?_
        refine g_iload_n C 21 1 rfl rfl ?_
        refine g_sheet C 22 hZ rfl h (fun c8 hc8 h => ?_)
        refine g_callVv C 23 [.ref (ad c8)] [] rfl (M_X9_sumDifferences hZ c8 hc8) cnX9_235 cwX9_sumDifferences ciX9_sumDifferences (hZ.at (i := 0) rfl) rfl rfl rfl rfl (Nat.le_of_ble_eq_true rfl) ⟨Nat.le_of_ble_eq_true rfl, Nat.le_of_ble_eq_true rfl⟩ h (fun r9 s10 h => ?_)
        refine g_iconst (v := 0) C 24 rfl rfl ?_
        refine g_istore_n C 25 [(3, .int 0), (0, .ref (ad 0)), (1, .int l1), (2, .int l2)] rfl (by decide) rfl ?_
        refine g_iconst (v := 1) C 26 rfl rfl ?_
        refine g_istore C 27 [(4, .int 1), (3, .int 0), (0, .ref (ad 0)), (1, .int l1), (2, .int l2)] rfl (by decide) rfl ?_
        refine g_sub C [2, 4, 1, 0] [(0, .ref (ad 0)), (2, .int l2), (3, .int 0), (4, .int 1)] rfl ?_
        exact C_F_X9_like_L49 C hZ _ _ _ _ _ h
      · refine g_ldc C 16 rfl kcX9_230 ?_
        exact g_ireturn C 17 rfl h
    · refine g_ldc C 8 rfl kcX9_94 ?_
      exact g_ireturn C 9 rfl h
def T_X9_fee : List (Nat × Instr × Nat) := [(0, .aload_n 0, 1), (1, .getfield 21, 3), (4, .getfield 239, 3), (7, .iconst 1, 1), (8, .iaload, 1), (9, .istore_n 1, 1), (10, .iload_n 1, 1), (11, .ifCond .ge 13, 3), (14, .aload_n 0, 1), (15, .getfield 21, 3), (18, .getfield 193, 3), (21, .goto 26, 3), (24, .aload_n 0, 1), (25, .getfield 10, 3), (28, .iload_n 1, 1), (29, .aload_n 0, 1), (30, .getfield 21, 3), (33, .getfield 193, 3), (36, .aload_n 0, 1), (37, .getfield 21, 3), (40, .getfield 202, 3), (43, .iconst 0, 1), (44, .invokevirtual 242, 3), (47, .ireturn, 1)]
theorem T_X9_fee_ok : gTb cX9_fee T_X9_fee = true := by decide +kernel
def F_X9_fee (Z : List gH) (σ : gS) : Option (Int32 × gS) := mLet ((σ 12 1)) (fun v1 => if 0 ≤ v1 then mCall (F_X2_work Z v1 (σ 4 14) (σ 4 15) 0 σ) (fun r2 s3 => some (r2, s3)) else some ((σ 4 14), σ))
set_option maxRecDepth 20000 in
set_option maxHeartbeats 4000000 in
theorem M_X9_fee {Z : List gH} (hZ : Lay Z) : gMet yX9_fee cX9_fee 2 (some .int) 4 Z (fun ad => [.ref (ad 0)]) (F_X9_fee Z) := by
  refine gMet_intro T_X9_fee T_X9_fee_ok rfl (fun _ => Nat.le_of_ble_eq_true rfl) (fun g ad σ z C h => ?_)
  show g 0 [(0, .ref (ad 0))] [] σ
  rw [F_X9_fee] at h
  refine g_aload_n C 0 0 rfl rfl ?_
  refine g_getr (b := 4) C 1 rfl flX9_21 (hZ.at (i := 0) rfl) rfl ?_
  refine g_getr (b := 12) C 2 rfl flX9_239 (hZ.at (i := 4) rfl) rfl ?_
  refine g_iconst (v := 1) C 3 rfl rfl ?_
  refine g_ialdK C 4 1 rfl (hZ.at (i := 12) rfl) rfl (vp_k rfl) ?_
  refine g_let h (fun v1 h => ?_)
  refine g_istore_n C 5 [(1, .int v1), (0, .ref (ad 0))] rfl (by decide) rfl ?_
  refine g_iload_n C 6 0 rfl rfl ?_
  refine g_if_ge C 7 24 rfl rfl h (fun h => ?_) (fun h => ?_)
  · refine g_aload_n C 12 1 rfl rfl ?_
    refine g_getr (b := 1) C 13 rfl flX9_10 (hZ.at (i := 0) rfl) rfl ?_
    refine g_iload_n C 14 0 rfl rfl ?_
    refine g_aload_n C 15 1 rfl rfl ?_
    refine g_getr (b := 4) C 16 rfl flX9_21 (hZ.at (i := 0) rfl) rfl ?_
    refine g_geti C 17 rfl flX9_193 (hZ.at (i := 4) rfl) rfl ?_
    refine g_aload_n C 18 1 rfl rfl ?_
    refine g_getr (b := 4) C 19 rfl flX9_21 (hZ.at (i := 0) rfl) rfl ?_
    refine g_geti C 20 rfl flX9_202 (hZ.at (i := 4) rfl) rfl ?_
    refine g_iconst (v := 0) C 21 rfl rfl ?_
    refine g_callVi C 22 [.int v1, .int (σ 4 14), .int (σ 4 15), .int 0] [] rfl (M_X2_work hZ v1 (σ 4 14) (σ 4 15) 0) cnX9_242 cwX2_work ciX2_work (hZ.at (i := 1) rfl) rfl rfl rfl rfl (Nat.le_of_ble_eq_true rfl) ⟨Nat.le_of_ble_eq_true rfl, Nat.le_of_ble_eq_true rfl⟩ h (fun r2 s3 h => ?_)
    exact g_ireturn C 23 rfl h
  · refine g_aload_n C 8 1 rfl rfl ?_
    refine g_getr (b := 4) C 9 rfl flX9_21 (hZ.at (i := 0) rfl) rfl ?_
    refine g_geti C 10 rfl flX9_193 (hZ.at (i := 4) rfl) rfl ?_
    refine g_goto C 11 47 rfl rfl ?_
    exact g_ireturn C 23 rfl h
def T_X9_fine : List (Nat × Instr × Nat) := [(0, .aload_n 0, 1), (1, .iload_n 1, 1), (2, .invokevirtual 103, 3), (5, .ifCond .ne 6, 3), (8, .ldc 94, 2), (10, .ireturn, 1), (11, .aload_n 0, 1), (12, .getfield 21, 3), (15, .getfield 239, 3), (18, .iconst 2, 1), (19, .iaload, 1), (20, .istore_n 2, 1), (21, .iload_n 2, 1), (22, .ifCond .ge 15, 3), (25, .aload_n 0, 1), (26, .getfield 21, 3), (29, .getfield 112, 3), (32, .iload_n 1, 1), (33, .iaload, 1), (34, .goto 30, 3), (37, .aload_n 0, 1), (38, .getfield 10, 3), (41, .iload_n 2, 1), (42, .aload_n 0, 1), (43, .getfield 21, 3), (46, .getfield 112, 3), (49, .iload_n 1, 1), (50, .iaload, 1), (51, .aload_n 0, 1), (52, .getfield 21, 3), (55, .getfield 109, 3), (58, .iload_n 1, 1), (59, .iaload, 1), (60, .iconst 0, 1), (61, .invokevirtual 242, 3), (64, .ireturn, 1)]
theorem T_X9_fine_ok : gTb cX9_fine T_X9_fine = true := by decide +kernel
def F_X9_fine (Z : List gH) (l1 : Int32) (σ : gS) : Option (Int32 × gS) := mCall (F_X9_isThing Z l1 σ) (fun r1 s2 => if r1 = 0 then some ((-1000000001), s2) else mLet ((s2 12 2)) (fun v3 => if 0 ≤ v3 then mIn 12 l1 (mIn 12 l1 (mCall (F_X2_work Z v3 (s2 7 (nn l1)) (s2 6 (nn l1)) 0 s2) (fun r4 s5 => some (r4, s5)))) else mIn 12 l1 (some ((s2 7 (nn l1)), s2))))
set_option maxRecDepth 20000 in
set_option maxHeartbeats 4000000 in
theorem M_X9_fine {Z : List gH} (hZ : Lay Z) (l1 : Int32) : gMet yX9_fine cX9_fine 3 (some .int) 4 Z (fun ad => [.ref (ad 0), .int l1]) (F_X9_fine Z l1) := by
  refine gMet_intro T_X9_fine T_X9_fine_ok rfl (fun _ => Nat.le_of_ble_eq_true rfl) (fun g ad σ z C h => ?_)
  show g 0 [(0, .ref (ad 0)), (1, .int l1)] [] σ
  rw [F_X9_fine] at h
  refine g_aload_n C 0 0 rfl rfl ?_
  refine g_iload_n C 1 1 rfl rfl ?_
  refine g_callVi C 2 [.int l1] [] rfl (M_X9_isThing hZ l1) cnX9_103 cwX9_isThing ciX9_isThing (hZ.at (i := 0) rfl) rfl rfl rfl rfl (Nat.le_of_ble_eq_true rfl) ⟨Nat.le_of_ble_eq_true rfl, Nat.le_of_ble_eq_true rfl⟩ h (fun r1 s2 h => ?_)
  refine g_if_ne C 3 11 rfl rfl h (fun h => ?_) (fun h => ?_)
  · refine g_aload_n C 6 0 rfl rfl ?_
    refine g_getr (b := 4) C 7 rfl flX9_21 (hZ.at (i := 0) rfl) rfl ?_
    refine g_getr (b := 12) C 8 rfl flX9_239 (hZ.at (i := 4) rfl) rfl ?_
    refine g_iconst (v := 2) C 9 rfl rfl ?_
    refine g_ialdK C 10 2 rfl (hZ.at (i := 12) rfl) rfl (vp_k rfl) ?_
    refine g_let h (fun v3 h => ?_)
    refine g_istore_n C 11 [(2, .int v3), (0, .ref (ad 0)), (1, .int l1)] rfl (by decide) rfl ?_
    refine g_iload_n C 12 0 rfl rfl ?_
    refine g_if_ge C 13 37 rfl rfl h (fun h => ?_) (fun h => ?_)
    · refine g_aload_n C 20 1 rfl rfl ?_
      refine g_getr (b := 1) C 21 rfl flX9_10 (hZ.at (i := 0) rfl) rfl ?_
      refine g_iload_n C 22 0 rfl rfl ?_
      refine g_aload_n C 23 1 rfl rfl ?_
      refine g_getr (b := 4) C 24 rfl flX9_21 (hZ.at (i := 0) rfl) rfl ?_
      refine g_getr (b := 7) C 25 rfl flX9_112 (hZ.at (i := 4) rfl) rfl ?_
      refine g_iload_n C 26 2 rfl rfl ?_
      refine g_iald C 27 rfl (hZ.at (i := 7) rfl) h (fun h => ?_)
      refine g_aload_n C 28 1 rfl rfl ?_
      refine g_getr (b := 4) C 29 rfl flX9_21 (hZ.at (i := 0) rfl) rfl ?_
      refine g_getr (b := 6) C 30 rfl flX9_109 (hZ.at (i := 4) rfl) rfl ?_
      refine g_iload_n C 31 2 rfl rfl ?_
      refine g_iald C 32 rfl (hZ.at (i := 6) rfl) h (fun h => ?_)
      refine g_iconst (v := 0) C 33 rfl rfl ?_
      refine g_callVi C 34 [.int v3, .int (s2 7 (nn l1)), .int (s2 6 (nn l1)), .int 0] [] rfl (M_X2_work hZ v3 (s2 7 (nn l1)) (s2 6 (nn l1)) 0) cnX9_242 cwX2_work ciX2_work (hZ.at (i := 1) rfl) rfl rfl rfl rfl (Nat.le_of_ble_eq_true rfl) ⟨Nat.le_of_ble_eq_true rfl, Nat.le_of_ble_eq_true rfl⟩ h (fun r4 s5 h => ?_)
      exact g_ireturn C 35 rfl h
    · refine g_aload_n C 14 1 rfl rfl ?_
      refine g_getr (b := 4) C 15 rfl flX9_21 (hZ.at (i := 0) rfl) rfl ?_
      refine g_getr (b := 7) C 16 rfl flX9_112 (hZ.at (i := 4) rfl) rfl ?_
      refine g_iload_n C 17 2 rfl rfl ?_
      refine g_iald C 18 rfl (hZ.at (i := 7) rfl) h (fun h => ?_)
      refine g_goto C 19 64 rfl rfl ?_
      exact g_ireturn C 35 rfl h
  · refine g_ldc C 4 rfl kcX9_94 ?_
    exact g_ireturn C 5 rfl h
def T_X9_feed : List (Nat × Instr × Nat) := [(0, .aload_n 0, 1), (1, .getfield 41, 3), (4, .getfield 245, 3), (7, .bipush 12, 2), (9, .iadd, 1), (10, .bipush 96, 2), (12, .if_icmp .le 6, 3), (15, .ldc 98, 2), (17, .ireturn, 1), (18, .aload_n 0, 1), (19, .getfield 41, 3), (22, .iload_n 1, 1), (23, .invokevirtual 248, 3), (26, .aload_n 0, 1), (27, .getfield 41, 3), (30, .iload_n 2, 1), (31, .invokevirtual 248, 3), (34, .aload_n 0, 1), (35, .getfield 41, 3), (38, .iload_n 3, 1), (39, .invokevirtual 248, 3), (42, .aload_n 0, 1), (43, .getfield 41, 3), (46, .getfield 245, 3), (49, .ireturn, 1)]
theorem T_X9_feed_ok : gTb cX9_feed T_X9_feed = true := by decide +kernel
def F_X9_feed (Z : List gH) (l1 : Int32) (l2 : Int32) (l3 : Int32) (σ : gS) : Option (Int32 × gS) := if ((σ 34 1) + 12) ≤ 96 then mCall (F_X7_addFour Z l1 σ) (fun r1 s2 => mCall (F_X7_addFour Z l2 s2) (fun r3 s4 => mCall (F_X7_addFour Z l3 s4) (fun r5 s6 => some ((s6 34 1), s6)))) else some ((-1000000003), σ)
set_option maxRecDepth 20000 in
set_option maxHeartbeats 4000000 in
theorem M_X9_feed {Z : List gH} (hZ : Lay Z) (l1 : Int32) (l2 : Int32) (l3 : Int32) : gMet yX9_feed cX9_feed 4 (some .int) 2 Z (fun ad => [.ref (ad 0), .int l1, .int l2, .int l3]) (F_X9_feed Z l1 l2 l3) := by
  refine gMet_intro T_X9_feed T_X9_feed_ok rfl (fun _ => Nat.le_of_ble_eq_true rfl) (fun g ad σ z C h => ?_)
  show g 0 [(0, .ref (ad 0)), (1, .int l1), (2, .int l2), (3, .int l3)] [] σ
  rw [F_X9_feed] at h
  refine g_aload_n C 0 0 rfl rfl ?_
  refine g_getr (b := 34) C 1 rfl flX9_41 (hZ.at (i := 0) rfl) rfl ?_
  refine g_geti C 2 rfl flX9_245 (hZ.at (i := 34) rfl) rfl ?_
  refine g_bipush (v := 12) C 3 rfl rfl ?_
  refine g_iadd C 4 rfl ?_
  refine g_bipush (v := 96) C 5 rfl rfl ?_
  refine g_icmp_le C 6 18 rfl rfl h (fun h => ?_) (fun h => ?_)
  · refine g_aload_n C 9 0 rfl rfl ?_
    refine g_getr (b := 34) C 10 rfl flX9_41 (hZ.at (i := 0) rfl) rfl ?_
    refine g_iload_n C 11 1 rfl rfl ?_
    refine g_callVv C 12 [.int l1] [] rfl (M_X7_addFour hZ l1) cnX9_248 cwX7_addFour ciX7_addFour (hZ.at (i := 34) rfl) rfl rfl rfl rfl (Nat.le_of_ble_eq_true rfl) ⟨Nat.le_of_ble_eq_true rfl, Nat.le_of_ble_eq_true rfl⟩ h (fun r1 s2 h => ?_)
    refine g_aload_n C 13 0 rfl rfl ?_
    refine g_getr (b := 34) C 14 rfl flX9_41 (hZ.at (i := 0) rfl) rfl ?_
    refine g_iload_n C 15 2 rfl rfl ?_
    refine g_callVv C 16 [.int l2] [] rfl (M_X7_addFour hZ l2) cnX9_248 cwX7_addFour ciX7_addFour (hZ.at (i := 34) rfl) rfl rfl rfl rfl (Nat.le_of_ble_eq_true rfl) ⟨Nat.le_of_ble_eq_true rfl, Nat.le_of_ble_eq_true rfl⟩ h (fun r3 s4 h => ?_)
    refine g_aload_n C 17 0 rfl rfl ?_
    refine g_getr (b := 34) C 18 rfl flX9_41 (hZ.at (i := 0) rfl) rfl ?_
    refine g_iload_n C 19 3 rfl rfl ?_
    refine g_callVv C 20 [.int l3] [] rfl (M_X7_addFour hZ l3) cnX9_248 cwX7_addFour ciX7_addFour (hZ.at (i := 34) rfl) rfl rfl rfl rfl (Nat.le_of_ble_eq_true rfl) ⟨Nat.le_of_ble_eq_true rfl, Nat.le_of_ble_eq_true rfl⟩ h (fun r5 s6 h => ?_)
    refine g_aload_n C 21 0 rfl rfl ?_
    refine g_getr (b := 34) C 22 rfl flX9_41 (hZ.at (i := 0) rfl) rfl ?_
    refine g_geti C 23 rfl flX9_245 (hZ.at (i := 34) rfl) rfl ?_
    exact g_ireturn C 24 rfl h
  · refine g_ldc C 7 rfl kcX9_98 ?_
    exact g_ireturn C 8 rfl h
def T_X9_trim : List (Nat × Instr × Nat) := [(0, .iload_n 1, 1), (1, .iconst 0, 1), (2, .aload_n 0, 1), (3, .getfield 41, 3), (6, .getfield 245, 3), (9, .invokestatic 90, 3), (12, .ifCond .ne 6, 3), (15, .ldc 94, 2), (17, .ireturn, 1), (18, .aload_n 0, 1), (19, .getfield 41, 3), (22, .iload_n 1, 1), (23, .putfield 245, 3), (26, .iload_n 1, 1), (27, .ireturn, 1)]
theorem T_X9_trim_ok : gTb cX9_trim T_X9_trim = true := by decide +kernel
def F_X9_trim (Z : List gH) (l1 : Int32) (σ : gS) : Option (Int32 × gS) := mCall (F_X9_within Z l1 0 (σ 34 1) σ) (fun r1 s2 => if r1 = 0 then some ((-1000000001), s2) else mLet (gu s2 34 1 l1) (fun s3 => some (l1, s3)))
set_option maxRecDepth 20000 in
set_option maxHeartbeats 4000000 in
theorem M_X9_trim {Z : List gH} (hZ : Lay Z) (l1 : Int32) : gMet yX9_trim cX9_trim 2 (some .int) 2 Z (fun ad => [.ref (ad 0), .int l1]) (F_X9_trim Z l1) := by
  refine gMet_intro T_X9_trim T_X9_trim_ok rfl (fun _ => Nat.le_of_ble_eq_true rfl) (fun g ad σ z C h => ?_)
  show g 0 [(0, .ref (ad 0)), (1, .int l1)] [] σ
  rw [F_X9_trim] at h
  refine g_iload_n C 0 1 rfl rfl ?_
  refine g_iconst (v := 0) C 1 rfl rfl ?_
  refine g_aload_n C 2 0 rfl rfl ?_
  refine g_getr (b := 34) C 3 rfl flX9_41 (hZ.at (i := 0) rfl) rfl ?_
  refine g_geti C 4 rfl flX9_245 (hZ.at (i := 34) rfl) rfl ?_
  refine g_callSi C 5 [.int l1, .int 0, .int (σ 34 1)] [] rfl (M_X9_within hZ l1 0 (σ 34 1)) cnX9_90 cwX9_within csX9_within rfl rfl rfl (Nat.le_of_ble_eq_true rfl) ⟨Nat.le_of_ble_eq_true rfl, Nat.le_of_ble_eq_true rfl⟩ h (fun r1 s2 h => ?_)
  refine g_if_ne C 6 18 rfl rfl h (fun h => ?_) (fun h => ?_)
  · refine g_aload_n C 9 0 rfl rfl ?_
    refine g_getr (b := 34) C 10 rfl flX9_41 (hZ.at (i := 0) rfl) rfl ?_
    refine g_iload_n C 11 1 rfl rfl ?_
    refine g_put C 12 rfl fpX9_245 (hZ.at (i := 34) rfl) rfl rfl rfl h (fun s3 h => ?_)
    refine g_iload_n C 13 1 rfl rfl ?_
    exact g_ireturn C 14 rfl h
  · refine g_ldc C 7 rfl kcX9_94 ?_
    exact g_ireturn C 8 rfl h
def T_X9_textTold : List (Nat × Instr × Nat) := [(0, .iload_n 1, 1), (1, .iconst 0, 1), (2, .aload_n 0, 1), (3, .getfield 21, 3), (6, .getfield 258, 3), (9, .iconst 1, 1), (10, .isub, 1), (11, .invokestatic 90, 3), (14, .ifCond .eq 12, 3), (17, .iload_n 2, 1), (18, .iconst 0, 1), (19, .iconst 1, 1), (20, .invokestatic 90, 3), (23, .ifCond .ne 6, 3), (26, .ldc 94, 2), (28, .ireturn, 1), (29, .iload_n 2, 1), (30, .ifCond .ne 14, 3), (33, .aload_n 0, 1), (34, .getfield 10, 3), (37, .iload_n 1, 1), (38, .invokevirtual 272, 3), (41, .goto 11, 3), (44, .aload_n 0, 1), (45, .getfield 10, 3), (48, .iload_n 1, 1), (49, .invokevirtual 275, 3), (52, .ireturn, 1)]
theorem T_X9_textTold_ok : gTb cX9_textTold T_X9_textTold = true := by decide +kernel
def F_X9_textTold (Z : List gH) (l1 : Int32) (l2 : Int32) (σ : gS) : Option (Int32 × gS) := mCall (F_X9_within Z l1 0 ((σ 4 11) - 1) σ) (fun r1 s2 => if r1 = 0 then some ((-1000000001), s2) else mCall (F_X9_within Z l2 0 1 s2) (fun r3 s4 => if r3 = 0 then some ((-1000000001), s4) else if l2 = 0 then mCall (F_X2_keyOf Z l1 s4) (fun r7 s8 => some (r7, s8)) else mCall (F_X2_operandsOf Z l1 s4) (fun r5 s6 => some (r5, s6))))
set_option maxRecDepth 20000 in
set_option maxHeartbeats 4000000 in
theorem M_X9_textTold {Z : List gH} (hZ : Lay Z) (l1 : Int32) (l2 : Int32) : gMet yX9_textTold cX9_textTold 3 (some .int) 4 Z (fun ad => [.ref (ad 0), .int l1, .int l2]) (F_X9_textTold Z l1 l2) := by
  refine gMet_intro T_X9_textTold T_X9_textTold_ok rfl (fun _ => Nat.le_of_ble_eq_true rfl) (fun g ad σ z C h => ?_)
  show g 0 [(0, .ref (ad 0)), (1, .int l1), (2, .int l2)] [] σ
  rw [F_X9_textTold] at h
  refine g_iload_n C 0 1 rfl rfl ?_
  refine g_iconst (v := 0) C 1 rfl rfl ?_
  refine g_aload_n C 2 0 rfl rfl ?_
  refine g_getr (b := 4) C 3 rfl flX9_21 (hZ.at (i := 0) rfl) rfl ?_
  refine g_geti C 4 rfl flX9_258 (hZ.at (i := 4) rfl) rfl ?_
  refine g_iconst (v := 1) C 5 rfl rfl ?_
  refine g_isub C 6 rfl ?_
  refine g_callSi C 7 [.int l1, .int 0, .int ((σ 4 11) - 1)] [] rfl (M_X9_within hZ l1 0 ((σ 4 11) - 1)) cnX9_90 cwX9_within csX9_within rfl rfl rfl (Nat.le_of_ble_eq_true rfl) ⟨Nat.le_of_ble_eq_true rfl, Nat.le_of_ble_eq_true rfl⟩ h (fun r1 s2 h => ?_)
  refine g_if_eq C 8 26 rfl rfl h (fun h => ?_) (fun h => ?_)
  · refine g_ldc C 14 rfl kcX9_94 ?_
    exact g_ireturn C 15 rfl h
  · refine g_iload_n C 9 2 rfl rfl ?_
    refine g_iconst (v := 0) C 10 rfl rfl ?_
    refine g_iconst (v := 1) C 11 rfl rfl ?_
    refine g_callSi C 12 [.int l2, .int 0, .int 1] [] rfl (M_X9_within hZ l2 0 1) cnX9_90 cwX9_within csX9_within rfl rfl rfl (Nat.le_of_ble_eq_true rfl) ⟨Nat.le_of_ble_eq_true rfl, Nat.le_of_ble_eq_true rfl⟩ h (fun r3 s4 h => ?_)
    refine g_if_ne C 13 29 rfl rfl h (fun h => ?_) (fun h => ?_)
    · refine g_iload_n C 16 2 rfl rfl ?_
      refine g_if_ne C 17 44 rfl rfl h (fun h => ?_) (fun h => ?_)
      · refine g_aload_n C 23 0 rfl rfl ?_
        refine g_getr (b := 1) C 24 rfl flX9_10 (hZ.at (i := 0) rfl) rfl ?_
        refine g_iload_n C 25 1 rfl rfl ?_
        refine g_callVi C 26 [.int l1] [] rfl (M_X2_operandsOf hZ l1) cnX9_275 cwX2_operandsOf ciX2_operandsOf (hZ.at (i := 1) rfl) rfl rfl rfl rfl (Nat.le_of_ble_eq_true rfl) ⟨Nat.le_of_ble_eq_true rfl, Nat.le_of_ble_eq_true rfl⟩ h (fun r5 s6 h => ?_)
        exact g_ireturn C 27 rfl h
      · refine g_aload_n C 18 0 rfl rfl ?_
        refine g_getr (b := 1) C 19 rfl flX9_10 (hZ.at (i := 0) rfl) rfl ?_
        refine g_iload_n C 20 1 rfl rfl ?_
        refine g_callVi C 21 [.int l1] [] rfl (M_X2_keyOf hZ l1) cnX9_272 cwX2_keyOf ciX2_keyOf (hZ.at (i := 1) rfl) rfl rfl rfl rfl (Nat.le_of_ble_eq_true rfl) ⟨Nat.le_of_ble_eq_true rfl, Nat.le_of_ble_eq_true rfl⟩ h (fun r7 s8 h => ?_)
        refine g_goto C 22 52 rfl rfl ?_
        exact g_ireturn C 27 rfl h
    · refine g_ldc C 14 rfl kcX9_94 ?_
      exact g_ireturn C 15 rfl h
def T_X9_why : List (Nat × Instr × Nat) := [(0, .iload_n 1, 1), (1, .iconst 0, 1), (2, .iconst 2, 1), (3, .invokestatic 90, 3), (6, .ifCond .ne 6, 3), (9, .ldc 94, 2), (11, .ireturn, 1), (12, .aload_n 0, 1), (13, .getfield 21, 3), (16, .getfield 239, 3), (19, .iload_n 1, 1), (20, .iaload, 1), (21, .ifCond .ge 8, 3), (24, .ldc 192, 2), (26, .goto 12, 3), (29, .aload_n 0, 1), (30, .getfield 21, 3), (33, .getfield 239, 3), (36, .iload_n 1, 1), (37, .iaload, 1), (38, .ireturn, 1)]
theorem T_X9_why_ok : gTb cX9_why T_X9_why = true := by decide +kernel
def F_X9_why (Z : List gH) (l1 : Int32) (σ : gS) : Option (Int32 × gS) := mCall (F_X9_within Z l1 0 2 σ) (fun r1 s2 => if r1 = 0 then some ((-1000000001), s2) else mIn 3 l1 (if 0 ≤ (s2 12 (nn l1)) then mIn 3 l1 (some ((s2 12 (nn l1)), s2)) else some ((-1000000005), s2)))
set_option maxRecDepth 20000 in
set_option maxHeartbeats 4000000 in
theorem M_X9_why {Z : List gH} (hZ : Lay Z) (l1 : Int32) : gMet yX9_why cX9_why 2 (some .int) 2 Z (fun ad => [.ref (ad 0), .int l1]) (F_X9_why Z l1) := by
  refine gMet_intro T_X9_why T_X9_why_ok rfl (fun _ => Nat.le_of_ble_eq_true rfl) (fun g ad σ z C h => ?_)
  show g 0 [(0, .ref (ad 0)), (1, .int l1)] [] σ
  rw [F_X9_why] at h
  refine g_iload_n C 0 1 rfl rfl ?_
  refine g_iconst (v := 0) C 1 rfl rfl ?_
  refine g_iconst (v := 2) C 2 rfl rfl ?_
  refine g_callSi C 3 [.int l1, .int 0, .int 2] [] rfl (M_X9_within hZ l1 0 2) cnX9_90 cwX9_within csX9_within rfl rfl rfl (Nat.le_of_ble_eq_true rfl) ⟨Nat.le_of_ble_eq_true rfl, Nat.le_of_ble_eq_true rfl⟩ h (fun r1 s2 h => ?_)
  refine g_if_ne C 4 12 rfl rfl h (fun h => ?_) (fun h => ?_)
  · refine g_aload_n C 7 0 rfl rfl ?_
    refine g_getr (b := 4) C 8 rfl flX9_21 (hZ.at (i := 0) rfl) rfl ?_
    refine g_getr (b := 12) C 9 rfl flX9_239 (hZ.at (i := 4) rfl) rfl ?_
    refine g_iload_n C 10 1 rfl rfl ?_
    refine g_iald C 11 rfl (hZ.at (i := 12) rfl) h (fun h => ?_)
    refine g_if_ge C 12 29 rfl rfl h (fun h => ?_) (fun h => ?_)
    · refine g_aload_n C 15 0 rfl rfl ?_
      refine g_getr (b := 4) C 16 rfl flX9_21 (hZ.at (i := 0) rfl) rfl ?_
      refine g_getr (b := 12) C 17 rfl flX9_239 (hZ.at (i := 4) rfl) rfl ?_
      refine g_iload_n C 18 1 rfl rfl ?_
      refine g_iald C 19 rfl (hZ.at (i := 12) rfl) h (fun h => ?_)
      exact g_ireturn C 20 rfl h
    · refine g_ldc C 13 rfl kcX9_192 ?_
      refine g_goto C 14 38 rfl rfl ?_
      exact g_ireturn C 20 rfl h
  · refine g_ldc C 5 rfl kcX9_94 ?_
    exact g_ireturn C 6 rfl h
def T_X9_sheet : List (Nat × Instr × Nat) := [(0, .iload_n 1, 1), (1, .invokestatic 223, 3), (4, .ifCond .eq 12, 3), (7, .iload_n 2, 1), (8, .iconst (-1), 1), (9, .iconst 1, 1), (10, .invokestatic 90, 3), (13, .ifCond .ne 6, 3), (16, .ldc 94, 2), (18, .ireturn, 1), (19, .iload_n 2, 1), (20, .iconst (-1), 1), (21, .if_icmp .ne 16, 3), (24, .aload_n 0, 1), (25, .getfield 56, 3), (28, .iload_n 1, 1), (29, .aaload, 1), (30, .iconst (-1), 1), (31, .iconst 0, 1), (32, .invokevirtual 278, 3), (35, .iconst 0, 1), (36, .ireturn, 1), (37, .iload_n 3, 1), (38, .bipush 24, 2), (40, .if_icmp .le 6, 3), (43, .ldc 94, 2), (45, .ireturn, 1), (46, .iload_n 3, 1), (47, .ifCond .ge 7, 3), (50, .ldc_w 282, 3), (53, .ireturn, 1), (54, .aload_n 0, 1), (55, .getfield 56, 3), (58, .iload_n 1, 1), (59, .aaload, 1), (60, .iload_n 2, 1), (61, .iload_n 3, 1), (62, .invokevirtual 278, 3), (65, .iload_n 3, 1), (66, .ireturn, 1)]
theorem T_X9_sheet_ok : gTb cX9_sheet T_X9_sheet = true := by decide +kernel
def F_X9_sheet (Z : List gH) (l1 : Int32) (l2 : Int32) (l3 : Int32) (σ : gS) : Option (Int32 × gS) := mCall (F_X9_isSheet Z l1 σ) (fun r1 s2 => if r1 = 0 then some ((-1000000001), s2) else mCall (F_X9_within Z l2 (-1) 1 s2) (fun r3 s4 => if r3 = 0 then some ((-1000000001), s4) else if l2 = (-1) then mSh l1 (fun c8 => mCall (F_X5_renew Z c8 (-1) 0 s4) (fun r9 s10 => some (0, s10))) else if l3 ≤ 24 then if 0 ≤ l3 then mSh l1 (fun c5 => mCall (F_X5_renew Z c5 l2 l3 s4) (fun r6 s7 => some (l3, s7))) else some ((-1000000014), s4) else some ((-1000000001), s4)))
set_option maxRecDepth 20000 in
set_option maxHeartbeats 4000000 in
theorem M_X9_sheet {Z : List gH} (hZ : Lay Z) (l1 : Int32) (l2 : Int32) (l3 : Int32) : gMet yX9_sheet cX9_sheet 4 (some .int) 3 Z (fun ad => [.ref (ad 0), .int l1, .int l2, .int l3]) (F_X9_sheet Z l1 l2 l3) := by
  refine gMet_intro T_X9_sheet T_X9_sheet_ok rfl (fun _ => Nat.le_of_ble_eq_true rfl) (fun g ad σ z C h => ?_)
  show g 0 [(0, .ref (ad 0)), (1, .int l1), (2, .int l2), (3, .int l3)] [] σ
  rw [F_X9_sheet] at h
  refine g_iload_n C 0 1 rfl rfl ?_
  refine g_callSi C 1 [.int l1] [] rfl (M_X9_isSheet hZ l1) cnX9_223 cwX9_isSheet csX9_isSheet rfl rfl rfl (Nat.le_of_ble_eq_true rfl) ⟨Nat.le_of_ble_eq_true rfl, Nat.le_of_ble_eq_true rfl⟩ h (fun r1 s2 h => ?_)
  refine g_if_eq C 2 16 rfl rfl h (fun h => ?_) (fun h => ?_)
  · refine g_ldc C 8 rfl kcX9_94 ?_
    exact g_ireturn C 9 rfl h
  · refine g_iload_n C 3 2 rfl rfl ?_
    refine g_iconst (v := (-1)) C 4 rfl rfl ?_
    refine g_iconst (v := 1) C 5 rfl rfl ?_
    refine g_callSi C 6 [.int l2, .int (-1), .int 1] [] rfl (M_X9_within hZ l2 (-1) 1) cnX9_90 cwX9_within csX9_within rfl rfl rfl (Nat.le_of_ble_eq_true rfl) ⟨Nat.le_of_ble_eq_true rfl, Nat.le_of_ble_eq_true rfl⟩ h (fun r3 s4 h => ?_)
    refine g_if_ne C 7 19 rfl rfl h (fun h => ?_) (fun h => ?_)
    · refine g_iload_n C 10 2 rfl rfl ?_
      refine g_iconst (v := (-1)) C 11 rfl rfl ?_
      refine g_icmp_ne C 12 37 rfl rfl h (fun h => ?_) (fun h => ?_)
      · refine g_iload_n C 22 3 rfl rfl ?_
        refine g_bipush (v := 24) C 23 rfl rfl ?_
        refine g_icmp_le C 24 46 rfl rfl h (fun h => ?_) (fun h => ?_)
        · refine g_iload_n C 27 3 rfl rfl ?_
          refine g_if_ge C 28 54 rfl rfl h (fun h => ?_) (fun h => ?_)
          · refine g_aload_n C 31 0 rfl rfl ?_
            refine g_getr (b := 38) C 32 rfl flX9_56 (hZ.at (i := 0) rfl) rfl ?_
            refine g_iload_n C 33 1 rfl rfl ?_
            refine g_sheet C 34 hZ rfl h (fun c5 hc5 h => ?_)
            refine g_iload_n C 35 2 rfl rfl ?_
            refine g_iload_n C 36 3 rfl rfl ?_
            refine g_callVv C 37 [.int l2, .int l3] [] rfl (M_X5_renew hZ c5 hc5 l2 l3) cnX9_278 cwX5_renew ciX5_renew (sb_obj hZ hc5) rfl rfl rfl rfl (Nat.le_of_ble_eq_true rfl) ⟨Nat.le_of_ble_eq_true rfl, Nat.le_of_ble_eq_true rfl⟩ h (fun r6 s7 h => ?_)
            refine g_iload_n C 38 3 rfl rfl ?_
            exact g_ireturn C 39 rfl h
          · refine g_ldcw C 29 rfl kcX9_282 ?_
            exact g_ireturn C 30 rfl h
        · refine g_ldc C 25 rfl kcX9_94 ?_
          exact g_ireturn C 26 rfl h
      · refine g_aload_n C 13 0 rfl rfl ?_
        refine g_getr (b := 38) C 14 rfl flX9_56 (hZ.at (i := 0) rfl) rfl ?_
        refine g_iload_n C 15 1 rfl rfl ?_
        refine g_sheet C 16 hZ rfl h (fun c8 hc8 h => ?_)
        refine g_iconst (v := (-1)) C 17 rfl rfl ?_
        refine g_iconst (v := 0) C 18 rfl rfl ?_
        refine g_callVv C 19 [.int (-1), .int 0] [] rfl (M_X5_renew hZ c8 hc8 (-1) 0) cnX9_278 cwX5_renew ciX5_renew (sb_obj hZ hc8) rfl rfl rfl rfl (Nat.le_of_ble_eq_true rfl) ⟨Nat.le_of_ble_eq_true rfl, Nat.le_of_ble_eq_true rfl⟩ h (fun r9 s10 h => ?_)
        refine g_iconst (v := 0) C 20 rfl rfl ?_
        exact g_ireturn C 21 rfl h
    · refine g_ldc C 8 rfl kcX9_94 ?_
      exact g_ireturn C 9 rfl h
def T_X9_mark : List (Nat × Instr × Nat) := [(0, .iload_n 1, 1), (1, .invokestatic 223, 3), (4, .ifCond .ne 6, 3), (7, .ldc 94, 2), (9, .ireturn, 1), (10, .aload_n 0, 1), (11, .getfield 56, 3), (14, .iload_n 1, 1), (15, .aaload, 1), (16, .astore 4, 2), (18, .aload 4, 2), (20, .invokevirtual 226, 3), (23, .ifCond .eq 6, 3), (26, .ldc 230, 2), (28, .ireturn, 1), (29, .aload 4, 2), (31, .iload_n 2, 1), (32, .invokevirtual 283, 3), (35, .ifCond .ne 7, 3), (38, .ldc_w 286, 3), (41, .ireturn, 1), (42, .aload 4, 2), (44, .getfield 287, 3), (47, .ifCond .ne 23, 3), (50, .iload_n 3, 1), (51, .ldc 192, 2), (53, .if_icmp .ne 6, 3), (56, .ldc 138, 2), (58, .ireturn, 1), (59, .aload 4, 2), (61, .getfield 290, 3), (64, .iload_n 2, 1), (65, .iload_n 3, 1), (66, .i2s, 1), (67, .iastore, 1), (68, .iconst 1, 1), (69, .ireturn, 1), (70, .iload_n 3, 1), (71, .ldc 192, 2), (73, .if_icmp .eq 19, 3), (76, .iload_n 3, 1), (77, .ldc_w 293, 3), (80, .ldc_w 294, 3), (83, .invokestatic 90, 3), (86, .ifCond .ne 6, 3), (89, .ldc 94, 2), (91, .ireturn, 1), (92, .aload 4, 2), (94, .getfield 290, 3), (97, .iload_n 2, 1), (98, .iload_n 3, 1), (99, .iastore, 1), (100, .iconst 1, 1), (101, .ireturn, 1)]
theorem T_X9_mark_ok : gTb cX9_mark T_X9_mark = true := by decide +kernel
def F_X9_mark (Z : List gH) (l1 : Int32) (l2 : Int32) (l3 : Int32) (σ : gS) : Option (Int32 × gS) := mCall (F_X9_isSheet Z l1 σ) (fun r1 s2 => if r1 = 0 then some ((-1000000001), s2) else mSh l1 (fun c3 => mCall (F_X5_isMissing Z c3 s2) (fun r4 s5 => if r4 = 0 then mCall (F_X5_hasPlace Z c3 l2 s5) (fun r6 s7 => if r6 = 0 then some ((-1000000013), s7) else if (s7 c3 1) = 0 then if l3 = (-1000000005) then some ((-1000000012), s7) else mIn 24 l2 (mLet (gu s7 (c3 + 1) (nn l2) (l3.toInt16.toInt32)) (fun s12 => some (1, s12))) else if l3 = (-1000000005) then mIn 24 l2 (mLet (gu s7 (c3 + 1) (nn l2) l3) (fun s8 => some (1, s8))) else mCall (F_X9_within Z l3 (-99999) 99999 s7) (fun r9 s10 => if r9 = 0 then some ((-1000000001), s10) else mIn 24 l2 (mLet (gu s10 (c3 + 1) (nn l2) l3) (fun s11 => some (1, s11))))) else some ((-1000000011), s5))))
set_option maxRecDepth 20000 in
set_option maxHeartbeats 4000000 in
theorem M_X9_mark {Z : List gH} (hZ : Lay Z) (l1 : Int32) (l2 : Int32) (l3 : Int32) : gMet yX9_mark cX9_mark 5 (some .int) 3 Z (fun ad => [.ref (ad 0), .int l1, .int l2, .int l3]) (F_X9_mark Z l1 l2 l3) := by
  refine gMet_intro T_X9_mark T_X9_mark_ok rfl (fun _ => Nat.le_of_ble_eq_true rfl) (fun g ad σ z C h => ?_)
  show g 0 [(0, .ref (ad 0)), (1, .int l1), (2, .int l2), (3, .int l3)] [] σ
  rw [F_X9_mark] at h
  refine g_iload_n C 0 1 rfl rfl ?_
  refine g_callSi C 1 [.int l1] [] rfl (M_X9_isSheet hZ l1) cnX9_223 cwX9_isSheet csX9_isSheet rfl rfl rfl (Nat.le_of_ble_eq_true rfl) ⟨Nat.le_of_ble_eq_true rfl, Nat.le_of_ble_eq_true rfl⟩ h (fun r1 s2 h => ?_)
  refine g_if_ne C 2 10 rfl rfl h (fun h => ?_) (fun h => ?_)
  · refine g_aload_n C 5 0 rfl rfl ?_
    refine g_getr (b := 38) C 6 rfl flX9_56 (hZ.at (i := 0) rfl) rfl ?_
    refine g_iload_n C 7 1 rfl rfl ?_
    refine g_sheet C 8 hZ rfl h (fun c3 hc3 h => ?_)
    refine g_astore C 9 [(4, .ref (ad c3)), (0, .ref (ad 0)), (1, .int l1), (2, .int l2), (3, .int l3)] rfl (by decide) rfl ?_
    refine g_aload C 10 0 rfl rfl ?_
    refine g_callVi C 11 [] [] rfl (M_X5_isMissing hZ c3 hc3) cnX9_226 cwX5_isMissing ciX5_isMissing (sb_obj hZ hc3) rfl rfl rfl rfl (Nat.le_of_ble_eq_true rfl) ⟨Nat.le_of_ble_eq_true rfl, Nat.le_of_ble_eq_true rfl⟩ h (fun r4 s5 h => ?_)
    refine g_if_eq C 12 29 rfl rfl h (fun h => ?_) (fun h => ?_)
    · refine g_aload C 15 0 rfl rfl ?_
      refine g_iload_n C 16 3 rfl rfl ?_
      refine g_callVi C 17 [.int l2] [] rfl (M_X5_hasPlace hZ c3 hc3 l2) cnX9_283 cwX5_hasPlace ciX5_hasPlace (sb_obj hZ hc3) rfl rfl rfl rfl (Nat.le_of_ble_eq_true rfl) ⟨Nat.le_of_ble_eq_true rfl, Nat.le_of_ble_eq_true rfl⟩ h (fun r6 s7 h => ?_)
      refine g_if_ne C 18 42 rfl rfl h (fun h => ?_) (fun h => ?_)
      · refine g_aload C 21 0 rfl rfl ?_
        refine g_geti C 22 rfl flX9_287 (sb_obj hZ hc3) rfl ?_
        refine g_if_ne C 23 70 rfl rfl h (fun h => ?_) (fun h => ?_)
        · refine g_iload_n C 37 4 rfl rfl ?_
          refine g_ldc C 38 rfl kcX9_192 ?_
          refine g_icmp_eq C 39 92 rfl rfl h (fun h => ?_) (fun h => ?_)
          · refine g_aload C 47 0 rfl rfl ?_
            refine g_getr (b := (c3 + 1)) C 48 rfl flX9_290 (sb_obj hZ hc3) rfl ?_
            refine g_iload_n C 49 3 rfl rfl ?_
            refine g_iload_n C 50 4 rfl rfl ?_
            refine g_iast C 51 rfl (sb_places hZ hc3) h (fun s8 h => ?_)
            refine g_iconst (v := 1) C 52 rfl rfl ?_
            exact g_ireturn C 53 rfl h
          · refine g_iload_n C 40 4 rfl rfl ?_
            refine g_ldcw C 41 rfl kcX9_293 ?_
            refine g_ldcw C 42 rfl kcX9_294 ?_
            refine g_callSi C 43 [.int l3, .int (-99999), .int 99999] [] rfl (M_X9_within hZ l3 (-99999) 99999) cnX9_90 cwX9_within csX9_within rfl rfl rfl (Nat.le_of_ble_eq_true rfl) ⟨Nat.le_of_ble_eq_true rfl, Nat.le_of_ble_eq_true rfl⟩ h (fun r9 s10 h => ?_)
            refine g_if_ne C 44 92 rfl rfl h (fun h => ?_) (fun h => ?_)
            · refine g_aload C 47 0 rfl rfl ?_
              refine g_getr (b := (c3 + 1)) C 48 rfl flX9_290 (sb_obj hZ hc3) rfl ?_
              refine g_iload_n C 49 3 rfl rfl ?_
              refine g_iload_n C 50 4 rfl rfl ?_
              refine g_iast C 51 rfl (sb_places hZ hc3) h (fun s11 h => ?_)
              refine g_iconst (v := 1) C 52 rfl rfl ?_
              exact g_ireturn C 53 rfl h
            · refine g_ldc C 45 rfl kcX9_94 ?_
              exact g_ireturn C 46 rfl h
        · refine g_iload_n C 24 4 rfl rfl ?_
          refine g_ldc C 25 rfl kcX9_192 ?_
          refine g_icmp_ne C 26 59 rfl rfl h (fun h => ?_) (fun h => ?_)
          · refine g_aload C 29 0 rfl rfl ?_
            refine g_getr (b := (c3 + 1)) C 30 rfl flX9_290 (sb_obj hZ hc3) rfl ?_
            refine g_iload_n C 31 3 rfl rfl ?_
            refine g_iload_n C 32 4 rfl rfl ?_
            refine g_i2s C 33 rfl ?_
            refine g_iast C 34 rfl (sb_places hZ hc3) h (fun s12 h => ?_)
            refine g_iconst (v := 1) C 35 rfl rfl ?_
            exact g_ireturn C 36 rfl h
          · refine g_ldc C 27 rfl kcX9_138 ?_
            exact g_ireturn C 28 rfl h
      · refine g_ldcw C 19 rfl kcX9_286 ?_
        exact g_ireturn C 20 rfl h
    · refine g_ldc C 13 rfl kcX9_230 ?_
      exact g_ireturn C 14 rfl h
  · refine g_ldc C 3 rfl kcX9_94 ?_
    exact g_ireturn C 4 rfl h
def T_X9_pour : List (Nat × Instr × Nat) := [(0, .iload_n 1, 1), (1, .invokestatic 223, 3), (4, .ifCond .ne 6, 3), (7, .ldc 94, 2), (9, .ireturn, 1), (10, .aload_n 0, 1), (11, .getfield 56, 3), (14, .iload_n 1, 1), (15, .aaload, 1), (16, .astore_n 2, 1), (17, .aload_n 2, 1), (18, .invokevirtual 226, 3), (21, .ifCond .eq 6, 3), (24, .ldc 230, 2), (26, .ireturn, 1), (27, .iconst 0, 1), (28, .istore_n 3, 1), (29, .iconst 0, 1), (30, .istore 4, 2), (32, .iload 4, 2), (34, .aload_n 0, 1), (35, .getfield 21, 3), (38, .getfield 95, 3), (41, .if_icmp .ge 62, 3), (44, .aload_n 2, 1), (45, .iload 4, 2), (47, .invokevirtual 295, 3), (50, .ifCond .eq 47, 3), (53, .aload_n 2, 1), (54, .getfield 290, 3), (57, .iload 4, 2), (59, .iaload, 1), (60, .bipush 99, 2), (62, .invokestatic 298, 3), (65, .istore 5, 2), (67, .iload 5, 2), (69, .aload_n 0, 1), (70, .getfield 21, 3), (73, .getfield 112, 3), (76, .iload 4, 2), (78, .iaload, 1), (79, .if_icmp .eq 6, 3), (82, .iinc 3 1, 3), (85, .aload_n 0, 1), (86, .getfield 21, 3), (89, .getfield 112, 3), (92, .iload 4, 2), (94, .iload 5, 2), (96, .iastore, 1), (97, .iinc 4 1, 3), (100, .goto (-68), 3), (103, .iload_n 3, 1), (104, .ireturn, 1)]
theorem T_X9_pour_ok : gTb cX9_pour T_X9_pour = true := by decide +kernel
def F_X9_pour_L32 (Z : List gH) : Nat → Nat → Int32 → Int32 → gS → Option (Int32 × gS)
  | 0, _, _, _, _ => none
  | n + 1, l2, l3, l4, σ => if (σ 4 9) ≤ l4 then some (l3, σ) else mCall (F_X5_hasNumber Z l2 l4 σ) (fun r1 s2 => if r1 = 0 then F_X9_pour_L32 Z n l2 l3 (l4 + 1) s2 else mIn 24 l4 (mCall (F_X9_held Z (s2 (l2 + 1) (nn l4)) 99 s2) (fun r3 s4 => mIn 12 l4 (if r3 = (s4 7 (nn l4)) then mIn 12 l4 (mLet (gu s4 7 (nn l4) r3) (fun s5 => F_X9_pour_L32 Z n l2 l3 (l4 + 1) s5)) else mIn 12 l4 (mLet (gu s4 7 (nn l4) r3) (fun s6 => F_X9_pour_L32 Z n l2 (l3 + 1) (l4 + 1) s6))))))
def F_X9_pour (Z : List gH) (l1 : Int32) (σ : gS) : Option (Int32 × gS) := mCall (F_X9_isSheet Z l1 σ) (fun r1 s2 => if r1 = 0 then some ((-1000000001), s2) else mSh l1 (fun c3 => mCall (F_X5_isMissing Z c3 s2) (fun r4 s5 => if r4 = 0 then F_X9_pour_L32 Z mFuel c3 0 0 s5 else some ((-1000000011), s5))))
set_option maxRecDepth 20000 in
set_option maxHeartbeats 4000000 in
theorem C_F_X9_pour_L32 {g : Nat → List (Nat × Value) → List Value → gS → Prop} {Z : List gH} {ad : Nat → Nat} {z : Int32 × gS}  (C : gOk g T_X9_pour RX9 6 (some .int) 4 Z ad z) (hZ : Lay Z) : ∀ (n : Nat) (l2 : Nat) (hl2 : SB l2) (l3 : Int32) (l4 : Int32) (σ : gS), F_X9_pour_L32 Z n l2 l3 l4 σ = some z → g 32 [(0, .ref (ad 0)), (2, .ref (ad l2)), (3, .int l3), (4, .int l4)] [] σ := by
  intro n
  induction n with
  | zero => intro l2 hl2 l3 l4 σ h; cases h
  | succ n ih =>
    intro l2 hl2 l3 l4 σ h
    rw [F_X9_pour_L32] at h
    refine g_iload C 19 3 rfl rfl ?_
    refine g_aload_n C 20 0 rfl rfl ?_
    refine g_getr (b := 4) C 21 rfl flX9_21 (hZ.at (i := 0) rfl) rfl ?_
    refine g_geti C 22 rfl flX9_95 (hZ.at (i := 4) rfl) rfl ?_
    refine g_icmp_ge C 23 103 rfl rfl h (fun h => ?_) (fun h => ?_)
    · refine g_iload_n C 51 2 rfl rfl ?_
      exact g_ireturn C 52 rfl h
    · refine g_aload_n C 24 1 rfl rfl ?_
      refine g_iload C 25 3 rfl rfl ?_
      refine g_callVi C 26 [.int l4] [] rfl (M_X5_hasNumber hZ l2 hl2 l4) cnX9_295 cwX5_hasNumber ciX5_hasNumber (sb_obj hZ hl2) rfl rfl rfl rfl (Nat.le_of_ble_eq_true rfl) ⟨Nat.le_of_ble_eq_true rfl, Nat.le_of_ble_eq_true rfl⟩ h (fun r1 s2 h => ?_)
      refine g_if_eq C 27 97 rfl rfl h (fun h => ?_) (fun h => ?_)
      · refine g_iinc C 49 3 (l4 + 1) [(4, .int (l4 + 1)), (0, .ref (ad 0)), (2, .ref (ad l2)), (3, .int l3)] rfl rfl (by decide) rfl rfl ?_
        refine g_goto C 50 32 rfl rfl ?_
        refine g_sub C [1, 2, 3, 0] [(0, .ref (ad 0)), (2, .ref (ad l2)), (3, .int l3), (4, .int (l4 + 1))] rfl ?_
        exact ih _ hl2 _ _ _ h
      · refine g_aload_n C 28 1 rfl rfl ?_
        refine g_getr (b := (l2 + 1)) C 29 rfl flX9_290 (sb_obj hZ hl2) rfl ?_
        refine g_iload C 30 3 rfl rfl ?_
        refine g_iald C 31 rfl (sb_places hZ hl2) h (fun h => ?_)
        refine g_bipush (v := 99) C 32 rfl rfl ?_
        refine g_callSi C 33 [.int (s2 (l2 + 1) (nn l4)), .int 99] [] rfl (M_X9_held hZ (s2 (l2 + 1) (nn l4)) 99) cnX9_298 cwX9_held csX9_held rfl rfl rfl (Nat.le_of_ble_eq_true rfl) ⟨Nat.le_of_ble_eq_true rfl, Nat.le_of_ble_eq_true rfl⟩ h (fun r3 s4 h => ?_)
        refine g_istore C 34 [(5, .int r3), (0, .ref (ad 0)), (2, .ref (ad l2)), (3, .int l3), (4, .int l4)] rfl (by decide) rfl ?_
        refine g_iload C 35 0 rfl rfl ?_
        refine g_aload_n C 36 1 rfl rfl ?_
        refine g_getr (b := 4) C 37 rfl flX9_21 (hZ.at (i := 0) rfl) rfl ?_
        refine g_getr (b := 7) C 38 rfl flX9_112 (hZ.at (i := 4) rfl) rfl ?_
        refine g_iload C 39 4 rfl rfl ?_
        refine g_iald C 40 rfl (hZ.at (i := 7) rfl) h (fun h => ?_)
        refine g_icmp_eq C 41 85 rfl rfl h (fun h => ?_) (fun h => ?_)
        · refine g_aload_n C 43 1 rfl rfl ?_
          refine g_getr (b := 4) C 44 rfl flX9_21 (hZ.at (i := 0) rfl) rfl ?_
          refine g_getr (b := 7) C 45 rfl flX9_112 (hZ.at (i := 4) rfl) rfl ?_
          refine g_iload C 46 4 rfl rfl ?_
          refine g_iload C 47 0 rfl rfl ?_
          refine g_iast C 48 rfl (hZ.at (i := 7) rfl) h (fun s5 h => ?_)
          refine g_iinc C 49 4 (l4 + 1) [(4, .int (l4 + 1)), (5, .int r3), (0, .ref (ad 0)), (2, .ref (ad l2)), (3, .int l3)] rfl rfl (by decide) rfl rfl ?_
          refine g_goto C 50 32 rfl rfl ?_
          refine g_sub C [2, 3, 4, 0] [(0, .ref (ad 0)), (2, .ref (ad l2)), (3, .int l3), (4, .int (l4 + 1))] rfl ?_
          exact ih _ hl2 _ _ _ h
        · refine g_iinc C 42 3 (l3 + 1) [(3, .int (l3 + 1)), (5, .int r3), (0, .ref (ad 0)), (2, .ref (ad l2)), (4, .int l4)] rfl rfl (by decide) rfl rfl ?_
          refine g_aload_n C 43 2 rfl rfl ?_
          refine g_getr (b := 4) C 44 rfl flX9_21 (hZ.at (i := 0) rfl) rfl ?_
          refine g_getr (b := 7) C 45 rfl flX9_112 (hZ.at (i := 4) rfl) rfl ?_
          refine g_iload C 46 4 rfl rfl ?_
          refine g_iload C 47 1 rfl rfl ?_
          refine g_iast C 48 rfl (hZ.at (i := 7) rfl) h (fun s6 h => ?_)
          refine g_iinc C 49 4 (l4 + 1) [(4, .int (l4 + 1)), (3, .int (l3 + 1)), (5, .int r3), (0, .ref (ad 0)), (2, .ref (ad l2))] rfl rfl (by decide) rfl rfl ?_
          refine g_goto C 50 32 rfl rfl ?_
          refine g_sub C [3, 4, 1, 0] [(0, .ref (ad 0)), (2, .ref (ad l2)), (3, .int (l3 + 1)), (4, .int (l4 + 1))] rfl ?_
          exact ih _ hl2 _ _ _ h
set_option maxRecDepth 20000 in
set_option maxHeartbeats 4000000 in
theorem M_X9_pour {Z : List gH} (hZ : Lay Z) (l1 : Int32) : gMet yX9_pour cX9_pour 6 (some .int) 4 Z (fun ad => [.ref (ad 0), .int l1]) (F_X9_pour Z l1) := by
  refine gMet_intro T_X9_pour T_X9_pour_ok rfl (fun _ => Nat.le_of_ble_eq_true rfl) (fun g ad σ z C h => ?_)
  show g 0 [(0, .ref (ad 0)), (1, .int l1)] [] σ
  rw [F_X9_pour] at h
  refine g_iload_n C 0 1 rfl rfl ?_
  refine g_callSi C 1 [.int l1] [] rfl (M_X9_isSheet hZ l1) cnX9_223 cwX9_isSheet csX9_isSheet rfl rfl rfl (Nat.le_of_ble_eq_true rfl) ⟨Nat.le_of_ble_eq_true rfl, Nat.le_of_ble_eq_true rfl⟩ h (fun r1 s2 h => ?_)
  refine g_if_ne C 2 10 rfl rfl h (fun h => ?_) (fun h => ?_)
  · refine g_aload_n C 5 0 rfl rfl ?_
    refine g_getr (b := 38) C 6 rfl flX9_56 (hZ.at (i := 0) rfl) rfl ?_
    refine g_iload_n C 7 1 rfl rfl ?_
    refine g_sheet C 8 hZ rfl h (fun c3 hc3 h => ?_)
    refine g_astore_n C 9 [(2, .ref (ad c3)), (0, .ref (ad 0)), (1, .int l1)] rfl (by decide) rfl ?_
    refine g_aload_n C 10 0 rfl rfl ?_
    refine g_callVi C 11 [] [] rfl (M_X5_isMissing hZ c3 hc3) cnX9_226 cwX5_isMissing ciX5_isMissing (sb_obj hZ hc3) rfl rfl rfl rfl (Nat.le_of_ble_eq_true rfl) ⟨Nat.le_of_ble_eq_true rfl, Nat.le_of_ble_eq_true rfl⟩ h (fun r4 s5 h => ?_)
    refine g_if_eq C 12 27 rfl rfl h (fun h => ?_) (fun h => ?_)
    · refine g_iconst (v := 0) C 15 rfl rfl ?_
      refine g_istore_n C 16 [(3, .int 0), (2, .ref (ad c3)), (0, .ref (ad 0)), (1, .int l1)] rfl (by decide) rfl ?_
      refine g_iconst (v := 0) C 17 rfl rfl ?_
      refine g_istore C 18 [(4, .int 0), (3, .int 0), (2, .ref (ad c3)), (0, .ref (ad 0)), (1, .int l1)] rfl (by decide) rfl ?_
      refine g_sub C [3, 2, 1, 0] [(0, .ref (ad 0)), (2, .ref (ad c3)), (3, .int 0), (4, .int 0)] rfl ?_
      exact C_F_X9_pour_L32 C hZ _ _ hc3 _ _ _ h
    · refine g_ldc C 13 rfl kcX9_230 ?_
      exact g_ireturn C 14 rfl h
  · refine g_ldc C 3 rfl kcX9_94 ?_
    exact g_ireturn C 4 rfl h
def T_X9_reads : List (Nat × Instr × Nat) := [(0, .iload_n 1, 1), (1, .invokestatic 223, 3), (4, .ifCond .ne 6, 3), (7, .ldc 94, 2), (9, .ireturn, 1), (10, .aload_n 0, 1), (11, .getfield 56, 3), (14, .iload_n 1, 1), (15, .aaload, 1), (16, .astore_n 2, 1), (17, .aload_n 2, 1), (18, .invokevirtual 226, 3), (21, .ifCond .eq 6, 3), (24, .ldc 230, 2), (26, .ireturn, 1), (27, .iconst 0, 1), (28, .istore_n 3, 1), (29, .iload_n 3, 1), (30, .aload_n 2, 1), (31, .getfield 301, 3), (34, .if_icmp .ge 45, 3), (37, .aload_n 2, 1), (38, .iload_n 3, 1), (39, .invokevirtual 295, 3), (42, .ifCond .eq 31, 3), (45, .aload_n 0, 1), (46, .iload_n 3, 1), (47, .invokevirtual 103, 3), (50, .ifCond .eq 21, 3), (53, .aload_n 0, 1), (54, .getfield 21, 3), (57, .getfield 109, 3), (60, .iload_n 3, 1), (61, .iaload, 1), (62, .aload_n 2, 1), (63, .getfield 290, 3), (66, .iload_n 3, 1), (67, .iaload, 1), (68, .if_icmp .eq 5, 3), (71, .iload_n 3, 1), (72, .ireturn, 1), (73, .iinc 3 1, 3), (76, .goto (-47), 3), (79, .ldc 192, 2), (81, .ireturn, 1)]
theorem T_X9_reads_ok : gTb cX9_reads T_X9_reads = true := by decide +kernel
def F_X9_reads_L29 (Z : List gH) : Nat → Nat → Int32 → gS → Option (Int32 × gS)
  | 0, _, _, _ => none
  | n + 1, l2, l3, σ => if (σ l2 2) ≤ l3 then some ((-1000000005), σ) else mCall (F_X5_hasNumber Z l2 l3 σ) (fun r1 s2 => if r1 = 0 then F_X9_reads_L29 Z n l2 (l3 + 1) s2 else mCall (F_X9_isThing Z l3 s2) (fun r3 s4 => if r3 = 0 then some (l3, s4) else mIn 12 l3 (mIn 24 l3 (if (s4 6 (nn l3)) = (s4 (l2 + 1) (nn l3)) then F_X9_reads_L29 Z n l2 (l3 + 1) s4 else some (l3, s4)))))
def F_X9_reads (Z : List gH) (l1 : Int32) (σ : gS) : Option (Int32 × gS) := mCall (F_X9_isSheet Z l1 σ) (fun r1 s2 => if r1 = 0 then some ((-1000000001), s2) else mSh l1 (fun c3 => mCall (F_X5_isMissing Z c3 s2) (fun r4 s5 => if r4 = 0 then F_X9_reads_L29 Z mFuel c3 0 s5 else some ((-1000000011), s5))))
set_option maxRecDepth 20000 in
set_option maxHeartbeats 4000000 in
theorem C_F_X9_reads_L29 {g : Nat → List (Nat × Value) → List Value → gS → Prop} {Z : List gH} {ad : Nat → Nat} {z : Int32 × gS}  (C : gOk g T_X9_reads RX9 4 (some .int) 4 Z ad z) (hZ : Lay Z) : ∀ (n : Nat) (l2 : Nat) (hl2 : SB l2) (l3 : Int32) (σ : gS), F_X9_reads_L29 Z n l2 l3 σ = some z → g 29 [(0, .ref (ad 0)), (2, .ref (ad l2)), (3, .int l3)] [] σ := by
  intro n
  induction n with
  | zero => intro l2 hl2 l3 σ h; cases h
  | succ n ih =>
    intro l2 hl2 l3 σ h
    rw [F_X9_reads_L29] at h
    refine g_iload_n C 17 2 rfl rfl ?_
    refine g_aload_n C 18 1 rfl rfl ?_
    refine g_geti C 19 rfl flX9_301 (sb_obj hZ hl2) rfl ?_
    refine g_icmp_ge C 20 79 rfl rfl h (fun h => ?_) (fun h => ?_)
    · refine g_ldc C 43 rfl kcX9_192 ?_
      exact g_ireturn C 44 rfl h
    · refine g_aload_n C 21 1 rfl rfl ?_
      refine g_iload_n C 22 2 rfl rfl ?_
      refine g_callVi C 23 [.int l3] [] rfl (M_X5_hasNumber hZ l2 hl2 l3) cnX9_295 cwX5_hasNumber ciX5_hasNumber (sb_obj hZ hl2) rfl rfl rfl rfl (Nat.le_of_ble_eq_true rfl) ⟨Nat.le_of_ble_eq_true rfl, Nat.le_of_ble_eq_true rfl⟩ h (fun r1 s2 h => ?_)
      refine g_if_eq C 24 73 rfl rfl h (fun h => ?_) (fun h => ?_)
      · refine g_iinc C 41 2 (l3 + 1) [(3, .int (l3 + 1)), (0, .ref (ad 0)), (2, .ref (ad l2))] rfl rfl (by decide) rfl rfl ?_
        refine g_goto C 42 29 rfl rfl ?_
        refine g_sub C [1, 2, 0] [(0, .ref (ad 0)), (2, .ref (ad l2)), (3, .int (l3 + 1))] rfl ?_
        exact ih _ hl2 _ _ h
      · refine g_aload_n C 25 0 rfl rfl ?_
        refine g_iload_n C 26 2 rfl rfl ?_
        refine g_callVi C 27 [.int l3] [] rfl (M_X9_isThing hZ l3) cnX9_103 cwX9_isThing ciX9_isThing (hZ.at (i := 0) rfl) rfl rfl rfl rfl (Nat.le_of_ble_eq_true rfl) ⟨Nat.le_of_ble_eq_true rfl, Nat.le_of_ble_eq_true rfl⟩ h (fun r3 s4 h => ?_)
        refine g_if_eq C 28 71 rfl rfl h (fun h => ?_) (fun h => ?_)
        · refine g_iload_n C 39 2 rfl rfl ?_
          exact g_ireturn C 40 rfl h
        · refine g_aload_n C 29 0 rfl rfl ?_
          refine g_getr (b := 4) C 30 rfl flX9_21 (hZ.at (i := 0) rfl) rfl ?_
          refine g_getr (b := 6) C 31 rfl flX9_109 (hZ.at (i := 4) rfl) rfl ?_
          refine g_iload_n C 32 2 rfl rfl ?_
          refine g_iald C 33 rfl (hZ.at (i := 6) rfl) h (fun h => ?_)
          refine g_aload_n C 34 1 rfl rfl ?_
          refine g_getr (b := (l2 + 1)) C 35 rfl flX9_290 (sb_obj hZ hl2) rfl ?_
          refine g_iload_n C 36 2 rfl rfl ?_
          refine g_iald C 37 rfl (sb_places hZ hl2) h (fun h => ?_)
          refine g_icmp_eq C 38 73 rfl rfl h (fun h => ?_) (fun h => ?_)
          · refine g_iinc C 41 2 (l3 + 1) [(3, .int (l3 + 1)), (0, .ref (ad 0)), (2, .ref (ad l2))] rfl rfl (by decide) rfl rfl ?_
            refine g_goto C 42 29 rfl rfl ?_
            refine g_sub C [1, 2, 0] [(0, .ref (ad 0)), (2, .ref (ad l2)), (3, .int (l3 + 1))] rfl ?_
            exact ih _ hl2 _ _ h
          · refine g_iload_n C 39 2 rfl rfl ?_
            exact g_ireturn C 40 rfl h
set_option maxRecDepth 20000 in
set_option maxHeartbeats 4000000 in
theorem M_X9_reads {Z : List gH} (hZ : Lay Z) (l1 : Int32) : gMet yX9_reads cX9_reads 4 (some .int) 4 Z (fun ad => [.ref (ad 0), .int l1]) (F_X9_reads Z l1) := by
  refine gMet_intro T_X9_reads T_X9_reads_ok rfl (fun _ => Nat.le_of_ble_eq_true rfl) (fun g ad σ z C h => ?_)
  show g 0 [(0, .ref (ad 0)), (1, .int l1)] [] σ
  rw [F_X9_reads] at h
  refine g_iload_n C 0 1 rfl rfl ?_
  refine g_callSi C 1 [.int l1] [] rfl (M_X9_isSheet hZ l1) cnX9_223 cwX9_isSheet csX9_isSheet rfl rfl rfl (Nat.le_of_ble_eq_true rfl) ⟨Nat.le_of_ble_eq_true rfl, Nat.le_of_ble_eq_true rfl⟩ h (fun r1 s2 h => ?_)
  refine g_if_ne C 2 10 rfl rfl h (fun h => ?_) (fun h => ?_)
  · refine g_aload_n C 5 0 rfl rfl ?_
    refine g_getr (b := 38) C 6 rfl flX9_56 (hZ.at (i := 0) rfl) rfl ?_
    refine g_iload_n C 7 1 rfl rfl ?_
    refine g_sheet C 8 hZ rfl h (fun c3 hc3 h => ?_)
    refine g_astore_n C 9 [(2, .ref (ad c3)), (0, .ref (ad 0)), (1, .int l1)] rfl (by decide) rfl ?_
    refine g_aload_n C 10 0 rfl rfl ?_
    refine g_callVi C 11 [] [] rfl (M_X5_isMissing hZ c3 hc3) cnX9_226 cwX5_isMissing ciX5_isMissing (sb_obj hZ hc3) rfl rfl rfl rfl (Nat.le_of_ble_eq_true rfl) ⟨Nat.le_of_ble_eq_true rfl, Nat.le_of_ble_eq_true rfl⟩ h (fun r4 s5 h => ?_)
    refine g_if_eq C 12 27 rfl rfl h (fun h => ?_) (fun h => ?_)
    · refine g_iconst (v := 0) C 15 rfl rfl ?_
      refine g_istore_n C 16 [(3, .int 0), (2, .ref (ad c3)), (0, .ref (ad 0)), (1, .int l1)] rfl (by decide) rfl ?_
      refine g_sub C [2, 1, 0] [(0, .ref (ad 0)), (2, .ref (ad c3)), (3, .int 0)] rfl ?_
      exact C_F_X9_reads_L29 C hZ _ _ hc3 _ _ h
    · refine g_ldc C 13 rfl kcX9_230 ?_
      exact g_ireturn C 14 rfl h
  · refine g_ldc C 3 rfl kcX9_94 ?_
    exact g_ireturn C 4 rfl h
def T_X9_copy : List (Nat × Instr × Nat) := [(0, .iload_n 1, 1), (1, .invokestatic 223, 3), (4, .ifCond .eq 10, 3), (7, .iload_n 3, 1), (8, .invokestatic 223, 3), (11, .ifCond .ne 6, 3), (14, .ldc 94, 2), (16, .ireturn, 1), (17, .aload_n 0, 1), (18, .getfield 56, 3), (21, .iload_n 1, 1), (22, .aaload, 1), (23, .astore 6, 2), (25, .aload_n 0, 1), (26, .getfield 56, 3), (29, .iload_n 3, 1), (30, .aaload, 1), (31, .astore 7, 2), (33, .aload 6, 2), (35, .invokevirtual 226, 3), (38, .ifCond .ne 11, 3), (41, .aload 7, 2), (43, .invokevirtual 226, 3), (46, .ifCond .eq 6, 3), (49, .ldc 230, 2), (51, .ireturn, 1), (52, .aload 6, 2), (54, .getfield 287, 3), (57, .aload 7, 2), (59, .getfield 287, 3), (62, .if_icmp .eq 6, 3), (65, .ldc 138, 2), (67, .ireturn, 1), (68, .aload 6, 2), (70, .iload_n 2, 1), (71, .iload 5, 2), (73, .invokevirtual 302, 3), (76, .ifCond .eq 15, 3), (79, .aload 7, 2), (81, .iload 4, 2), (83, .iload 5, 2), (85, .invokevirtual 302, 3), (88, .ifCond .ne 7, 3), (91, .ldc_w 286, 3), (94, .ireturn, 1), (95, .aload 6, 2), (97, .getfield 290, 3), (100, .iload_n 2, 1), (101, .aload 7, 2), (103, .getfield 290, 3), (106, .iload 4, 2), (108, .iload 5, 2), (110, .invokestatic 305, 3), (113, .iload 5, 2), (115, .ireturn, 1)]
theorem T_X9_copy_ok : gTb cX9_copy T_X9_copy = true := by decide +kernel
def F_X9_copy (Z : List gH) (l1 : Int32) (l2 : Int32) (l3 : Int32) (l4 : Int32) (l5 : Int32) (σ : gS) : Option (Int32 × gS) := mCall (F_X9_isSheet Z l1 σ) (fun r1 s2 => if r1 = 0 then some ((-1000000001), s2) else mCall (F_X9_isSheet Z l3 s2) (fun r3 s4 => if r3 = 0 then some ((-1000000001), s4) else mSh l1 (fun c5 => mSh l3 (fun c6 => mCall (F_X5_isMissing Z c5 s4) (fun r7 s8 => if r7 = 0 then mCall (F_X5_isMissing Z c6 s8) (fun r9 s10 => if r9 = 0 then if (s10 c5 1) = (s10 c6 1) then mCall (F_X5_hasRow Z c5 l2 l5 s10) (fun r11 s12 => if r11 = 0 then some ((-1000000013), s12) else mCall (F_X5_hasRow Z c6 l4 l5 s12) (fun r13 s14 => if r13 = 0 then some ((-1000000013), s14) else mCopy 24 24 s14 (c5 + 1) l2 (c6 + 1) l4 l5 (fun s15 => some (l5, s15)))) else some ((-1000000012), s10) else some ((-1000000011), s10)) else some ((-1000000011), s8))))))
set_option maxRecDepth 20000 in
set_option maxHeartbeats 4000000 in
theorem M_X9_copy {Z : List gH} (hZ : Lay Z) (l1 : Int32) (l2 : Int32) (l3 : Int32) (l4 : Int32) (l5 : Int32) : gMet yX9_copy cX9_copy 8 (some .int) 3 Z (fun ad => [.ref (ad 0), .int l1, .int l2, .int l3, .int l4, .int l5]) (F_X9_copy Z l1 l2 l3 l4 l5) := by
  refine gMet_intro T_X9_copy T_X9_copy_ok rfl (fun _ => Nat.le_of_ble_eq_true rfl) (fun g ad σ z C h => ?_)
  show g 0 [(0, .ref (ad 0)), (1, .int l1), (2, .int l2), (3, .int l3), (4, .int l4), (5, .int l5)] [] σ
  rw [F_X9_copy] at h
  refine g_iload_n C 0 1 rfl rfl ?_
  refine g_callSi C 1 [.int l1] [] rfl (M_X9_isSheet hZ l1) cnX9_223 cwX9_isSheet csX9_isSheet rfl rfl rfl (Nat.le_of_ble_eq_true rfl) ⟨Nat.le_of_ble_eq_true rfl, Nat.le_of_ble_eq_true rfl⟩ h (fun r1 s2 h => ?_)
  refine g_if_eq C 2 14 rfl rfl h (fun h => ?_) (fun h => ?_)
  · refine g_ldc C 6 rfl kcX9_94 ?_
    exact g_ireturn C 7 rfl h
  · refine g_iload_n C 3 3 rfl rfl ?_
    refine g_callSi C 4 [.int l3] [] rfl (M_X9_isSheet hZ l3) cnX9_223 cwX9_isSheet csX9_isSheet rfl rfl rfl (Nat.le_of_ble_eq_true rfl) ⟨Nat.le_of_ble_eq_true rfl, Nat.le_of_ble_eq_true rfl⟩ h (fun r3 s4 h => ?_)
    refine g_if_ne C 5 17 rfl rfl h (fun h => ?_) (fun h => ?_)
    · refine g_aload_n C 8 0 rfl rfl ?_
      refine g_getr (b := 38) C 9 rfl flX9_56 (hZ.at (i := 0) rfl) rfl ?_
      refine g_iload_n C 10 1 rfl rfl ?_
      refine g_sheet C 11 hZ rfl h (fun c5 hc5 h => ?_)
      refine g_astore C 12 [(6, .ref (ad c5)), (0, .ref (ad 0)), (1, .int l1), (2, .int l2), (3, .int l3), (4, .int l4), (5, .int l5)] rfl (by decide) rfl ?_
      refine g_aload_n C 13 1 rfl rfl ?_
      refine g_getr (b := 38) C 14 rfl flX9_56 (hZ.at (i := 0) rfl) rfl ?_
      refine g_iload_n C 15 4 rfl rfl ?_
      refine g_sheet C 16 hZ rfl h (fun c6 hc6 h => ?_)
      refine g_astore C 17 [(7, .ref (ad c6)), (6, .ref (ad c5)), (0, .ref (ad 0)), (1, .int l1), (2, .int l2), (3, .int l3), (4, .int l4), (5, .int l5)] rfl (by decide) rfl ?_
      refine g_aload C 18 1 rfl rfl ?_
      refine g_callVi C 19 [] [] rfl (M_X5_isMissing hZ c5 hc5) cnX9_226 cwX5_isMissing ciX5_isMissing (sb_obj hZ hc5) rfl rfl rfl rfl (Nat.le_of_ble_eq_true rfl) ⟨Nat.le_of_ble_eq_true rfl, Nat.le_of_ble_eq_true rfl⟩ h (fun r7 s8 h => ?_)
      refine g_if_ne C 20 49 rfl rfl h (fun h => ?_) (fun h => ?_)
      · refine g_ldc C 24 rfl kcX9_230 ?_
        exact g_ireturn C 25 rfl h
      · refine g_aload C 21 0 rfl rfl ?_
        refine g_callVi C 22 [] [] rfl (M_X5_isMissing hZ c6 hc6) cnX9_226 cwX5_isMissing ciX5_isMissing (sb_obj hZ hc6) rfl rfl rfl rfl (Nat.le_of_ble_eq_true rfl) ⟨Nat.le_of_ble_eq_true rfl, Nat.le_of_ble_eq_true rfl⟩ h (fun r9 s10 h => ?_)
        refine g_if_eq C 23 52 rfl rfl h (fun h => ?_) (fun h => ?_)
        · refine g_aload C 26 1 rfl rfl ?_
          refine g_geti C 27 rfl flX9_287 (sb_obj hZ hc5) rfl ?_
          refine g_aload C 28 0 rfl rfl ?_
          refine g_geti C 29 rfl flX9_287 (sb_obj hZ hc6) rfl ?_
          refine g_icmp_eq C 30 68 rfl rfl h (fun h => ?_) (fun h => ?_)
          · refine g_aload C 33 1 rfl rfl ?_
            refine g_iload_n C 34 4 rfl rfl ?_
            refine g_iload C 35 7 rfl rfl ?_
            refine g_callVi C 36 [.int l2, .int l5] [] rfl (M_X5_hasRow hZ c5 hc5 l2 l5) cnX9_302 cwX5_hasRow ciX5_hasRow (sb_obj hZ hc5) rfl rfl rfl rfl (Nat.le_of_ble_eq_true rfl) ⟨Nat.le_of_ble_eq_true rfl, Nat.le_of_ble_eq_true rfl⟩ h (fun r11 s12 h => ?_)
            refine g_if_eq C 37 91 rfl rfl h (fun h => ?_) (fun h => ?_)
            · refine g_ldcw C 43 rfl kcX9_286 ?_
              exact g_ireturn C 44 rfl h
            · refine g_aload C 38 0 rfl rfl ?_
              refine g_iload C 39 6 rfl rfl ?_
              refine g_iload C 40 7 rfl rfl ?_
              refine g_callVi C 41 [.int l4, .int l5] [] rfl (M_X5_hasRow hZ c6 hc6 l4 l5) cnX9_302 cwX5_hasRow ciX5_hasRow (sb_obj hZ hc6) rfl rfl rfl rfl (Nat.le_of_ble_eq_true rfl) ⟨Nat.le_of_ble_eq_true rfl, Nat.le_of_ble_eq_true rfl⟩ h (fun r13 s14 h => ?_)
              refine g_if_ne C 42 95 rfl rfl h (fun h => ?_) (fun h => ?_)
              · refine g_aload C 45 1 rfl rfl ?_
                refine g_getr (b := (c5 + 1)) C 46 rfl flX9_290 (sb_obj hZ hc5) rfl ?_
                refine g_iload_n C 47 4 rfl rfl ?_
                refine g_aload C 48 0 rfl rfl ?_
                refine g_getr (b := (c6 + 1)) C 49 rfl flX9_290 (sb_obj hZ hc6) rfl ?_
                refine g_iload C 50 6 rfl rfl ?_
                refine g_iload C 51 7 rfl rfl ?_
                refine g_copy C 52 rfl cnX9_305 wm_copy ⟨Nat.le_of_ble_eq_true rfl, Nat.le_of_ble_eq_true rfl⟩ (sb_places hZ hc5) (sb_places hZ hc6) h (fun s15 h => ?_)
                refine g_iload C 53 7 rfl rfl ?_
                exact g_ireturn C 54 rfl h
              · refine g_ldcw C 43 rfl kcX9_286 ?_
                exact g_ireturn C 44 rfl h
          · refine g_ldc C 31 rfl kcX9_138 ?_
            exact g_ireturn C 32 rfl h
        · refine g_ldc C 24 rfl kcX9_230 ?_
          exact g_ireturn C 25 rfl h
    · refine g_ldc C 6 rfl kcX9_94 ?_
      exact g_ireturn C 7 rfl h
def T_X9_isSlot : List (Nat × Instr × Nat) := [(0, .iload_n 0, 1), (1, .iconst 0, 1), (2, .iconst 4, 1), (3, .invokestatic 90, 3), (6, .ireturn, 1)]
theorem T_X9_isSlot_ok : gTb cX9_isSlot T_X9_isSlot = true := by decide +kernel
def F_X9_isSlot (Z : List gH) (l0 : Int32) (σ : gS) : Option (Int32 × gS) := mCall (F_X9_within Z l0 0 4 σ) (fun r1 s2 => mZ r1 s2)
set_option maxRecDepth 20000 in
set_option maxHeartbeats 4000000 in
theorem M_X9_isSlot {Z : List gH} (hZ : Lay Z) (l0 : Int32) : gMet yX9_isSlot cX9_isSlot 1 (some .boolean) 2 Z (fun ad => [.int l0]) (F_X9_isSlot Z l0) := by
  refine gMet_intro T_X9_isSlot T_X9_isSlot_ok rfl (fun _ => Nat.le_of_ble_eq_true rfl) (fun g ad σ z C h => ?_)
  show g 0 [(0, .int l0)] [] σ
  rw [F_X9_isSlot] at h
  refine g_iload_n C 0 0 rfl rfl ?_
  refine g_iconst (v := 0) C 1 rfl rfl ?_
  refine g_iconst (v := 4) C 2 rfl rfl ?_
  refine g_callSi C 3 [.int l0, .int 0, .int 4] [] rfl (M_X9_within hZ l0 0 4) cnX9_90 cwX9_within csX9_within rfl rfl rfl (Nat.le_of_ble_eq_true rfl) ⟨Nat.le_of_ble_eq_true rfl, Nat.le_of_ble_eq_true rfl⟩ h (fun r1 s2 h => ?_)
  exact g_zreturn C 4 rfl h
def T_X9_lay : List (Nat × Instr × Nat) := [(0, .iload_n 1, 1), (1, .invokestatic 311, 3), (4, .ifCond .eq 12, 3), (7, .iload_n 2, 1), (8, .iconst 0, 1), (9, .iconst 3, 1), (10, .invokestatic 90, 3), (13, .ifCond .ne 6, 3), (16, .ldc 94, 2), (18, .ireturn, 1), (19, .iload_n 2, 1), (20, .iconst 1, 1), (21, .if_icmp .ne 11, 3), (24, .aload_n 0, 1), (25, .iload_n 3, 1), (26, .invokevirtual 103, 3), (29, .ifCond .eq 15, 3), (32, .iload_n 2, 1), (33, .iconst 2, 1), (34, .if_icmp .ne 13, 3), (37, .iload_n 3, 1), (38, .invokestatic 223, 3), (41, .ifCond .ne 6, 3), (44, .ldc 94, 2), (46, .ireturn, 1), (47, .iload_n 2, 1), (48, .iconst 2, 1), (49, .if_icmp .ne 18, 3), (52, .aload_n 0, 1), (53, .getfield 56, 3), (56, .iload_n 3, 1), (57, .aaload, 1), (58, .invokevirtual 226, 3), (61, .ifCond .eq 6, 3), (64, .ldc 230, 2), (66, .ireturn, 1), (67, .aload_n 0, 1), (68, .getfield 63, 3), (71, .iload_n 1, 1), (72, .aaload, 1), (73, .astore 4, 2), (75, .aload 4, 2), (77, .getfield 314, 3), (80, .istore 5, 2), (82, .aload 4, 2), (84, .iload_n 2, 1), (85, .putfield 314, 3), (88, .iload_n 2, 1), (89, .iconst 1, 1), (90, .if_icmp .ne 34, 3), (93, .aload 4, 2), (95, .aload_n 0, 1), (96, .getfield 21, 3), (99, .getfield 106, 3), (102, .iload_n 3, 1), (103, .iaload, 1), (104, .putfield 317, 3), (107, .aload 4, 2), (109, .aload_n 0, 1), (110, .getfield 21, 3), (113, .getfield 112, 3), (116, .iload_n 3, 1), (117, .iaload, 1), (118, .putfield 320, 3), (121, .goto 31, 3), (124, .iload_n 2, 1), (125, .iconst 2, 1), (126, .if_icmp .ne 20, 3), (129, .aload 4, 2), (131, .getfield 323, 3), (134, .aload_n 0, 1), (135, .getfield 56, 3), (138, .iload_n 3, 1), (139, .aaload, 1), (140, .invokevirtual 327, 3), (143, .goto 9, 3), (146, .aload 4, 2), (148, .iload_n 3, 1), (149, .putfield 329, 3), (152, .iload 5, 2), (154, .ireturn, 1)]
theorem T_X9_lay_ok : gTb cX9_lay T_X9_lay = true := by decide +kernel
def F_X9_lay_J67 (Z : List gH) (l1 : Int32) (l2 : Int32) (l3 : Int32) (σ : gS) : Option (Int32 × gS) := mSl l1 (fun c1 => mLet ((σ c1 1)) (fun v2 => mLet (gu σ c1 1 l2) (fun s3 => if l2 = 1 then mIn 12 l3 (mLet (gu s3 c1 2 (s3 5 (nn l3))) (fun s8 => mIn 12 l3 (mLet (gu s8 c1 3 (s8 7 (nn l3))) (fun s9 => some (v2, s9))))) else if l2 = 2 then mSh l3 (fun c5 => mCall (F_X5_becomeAs Z (c1 + 1) c5 s3) (fun r6 s7 => some (v2, s7))) else mLet (gu s3 c1 4 l3) (fun s4 => some (v2, s4)))))
def F_X9_lay_J47 (Z : List gH) (l1 : Int32) (l2 : Int32) (l3 : Int32) (σ : gS) : Option (Int32 × gS) := if l2 = 2 then mSh l3 (fun c1 => mCall (F_X5_isMissing Z c1 σ) (fun r2 s3 => if r2 = 0 then F_X9_lay_J67 Z l1 l2 l3 s3 else some ((-1000000011), s3))) else F_X9_lay_J67 Z l1 l2 l3 σ
def F_X9_lay (Z : List gH) (l1 : Int32) (l2 : Int32) (l3 : Int32) (σ : gS) : Option (Int32 × gS) := mCall (F_X9_isSlot Z l1 σ) (fun r1 s2 => if r1 = 0 then some ((-1000000001), s2) else mCall (F_X9_within Z l2 0 3 s2) (fun r3 s4 => if r3 = 0 then some ((-1000000001), s4) else if l2 = 1 then mCall (F_X9_isThing Z l3 s4) (fun r7 s8 => if r7 = 0 then some ((-1000000001), s8) else if l2 = 2 then mCall (F_X9_isSheet Z l3 s8) (fun r9 s10 => if r9 = 0 then some ((-1000000001), s10) else F_X9_lay_J47 Z l1 l2 l3 s10) else F_X9_lay_J47 Z l1 l2 l3 s8) else if l2 = 2 then mCall (F_X9_isSheet Z l3 s4) (fun r5 s6 => if r5 = 0 then some ((-1000000001), s6) else F_X9_lay_J47 Z l1 l2 l3 s6) else F_X9_lay_J47 Z l1 l2 l3 s4))
set_option maxRecDepth 20000 in
set_option maxHeartbeats 4000000 in
theorem C_F_X9_lay_J67 {g : Nat → List (Nat × Value) → List Value → gS → Prop} {Z : List gH} {ad : Nat → Nat} {z : Int32 × gS}  (C : gOk g T_X9_lay RX9 6 (some .int) 3 Z ad z) (hZ : Lay Z) (l1 : Int32) (l2 : Int32) (l3 : Int32) (σ : gS) (h : F_X9_lay_J67 Z l1 l2 l3  σ = some z) : g 67 [(0, .ref (ad 0)), (1, .int l1), (2, .int l2), (3, .int l3)] [] σ := by
  rw [F_X9_lay_J67] at h
  refine g_aload_n C 36 0 rfl rfl ?_
  refine g_getr (b := 47) C 37 rfl flX9_63 (hZ.at (i := 0) rfl) rfl ?_
  refine g_iload_n C 38 1 rfl rfl ?_
  refine g_slot C 39 hZ rfl h (fun c1 hc1 h => ?_)
  refine g_astore C 40 [(4, .ref (ad c1)), (0, .ref (ad 0)), (1, .int l1), (2, .int l2), (3, .int l3)] rfl (by decide) rfl ?_
  refine g_aload C 41 0 rfl rfl ?_
  refine g_geti C 42 rfl flX9_314 (lb_obj hZ hc1) rfl ?_
  refine g_let h (fun v2 h => ?_)
  refine g_istore C 43 [(5, .int v2), (4, .ref (ad c1)), (0, .ref (ad 0)), (1, .int l1), (2, .int l2), (3, .int l3)] rfl (by decide) rfl ?_
  refine g_aload C 44 1 rfl rfl ?_
  refine g_iload_n C 45 4 rfl rfl ?_
  refine g_put C 46 rfl fpX9_314 (lb_obj hZ hc1) rfl rfl rfl h (fun s3 h => ?_)
  refine g_iload_n C 47 4 rfl rfl ?_
  refine g_iconst (v := 1) C 48 rfl rfl ?_
  refine g_icmp_ne C 49 124 rfl rfl h (fun h => ?_) (fun h => ?_)
  · refine g_iload_n C 65 4 rfl rfl ?_
    refine g_iconst (v := 2) C 66 rfl rfl ?_
    refine g_icmp_ne C 67 146 rfl rfl h (fun h => ?_) (fun h => ?_)
    · refine g_aload C 76 1 rfl rfl ?_
      refine g_iload_n C 77 5 rfl rfl ?_
      refine g_put C 78 rfl fpX9_329 (lb_obj hZ hc1) rfl rfl rfl h (fun s4 h => ?_)
      refine g_iload C 79 0 rfl rfl ?_
      exact g_ireturn C 80 rfl h
    · refine g_aload C 68 1 rfl rfl ?_
      refine g_getr (b := (c1 + 1)) C 69 rfl flX9_323 (lb_obj hZ hc1) rfl ?_
      refine g_aload_n C 70 2 rfl rfl ?_
      refine g_getr (b := 38) C 71 rfl flX9_56 (hZ.at (i := 0) rfl) rfl ?_
      refine g_iload_n C 72 5 rfl rfl ?_
      refine g_sheet C 73 hZ rfl h (fun c5 hc5 h => ?_)
      refine g_callVv C 74 [.ref (ad c5)] [] rfl (M_X5_becomeAs hZ (c1 + 1) (lb_row hc1) c5 hc5) cnX9_327 cwX5_becomeAs ciX5_becomeAs (sb_obj hZ (lb_row hc1)) rfl rfl rfl rfl (Nat.le_of_ble_eq_true rfl) ⟨Nat.le_of_ble_eq_true rfl, Nat.le_of_ble_eq_true rfl⟩ h (fun r6 s7 h => ?_)
      refine g_goto C 75 152 rfl rfl ?_
      refine g_iload C 79 0 rfl rfl ?_
      exact g_ireturn C 80 rfl h
  · refine g_aload C 50 1 rfl rfl ?_
    refine g_aload_n C 51 2 rfl rfl ?_
    refine g_getr (b := 4) C 52 rfl flX9_21 (hZ.at (i := 0) rfl) rfl ?_
    refine g_getr (b := 5) C 53 rfl flX9_106 (hZ.at (i := 4) rfl) rfl ?_
    refine g_iload_n C 54 5 rfl rfl ?_
    refine g_iald C 55 rfl (hZ.at (i := 5) rfl) h (fun h => ?_)
    refine g_put C 56 rfl fpX9_317 (lb_obj hZ hc1) rfl rfl rfl h (fun s8 h => ?_)
    refine g_aload C 57 1 rfl rfl ?_
    refine g_aload_n C 58 2 rfl rfl ?_
    refine g_getr (b := 4) C 59 rfl flX9_21 (hZ.at (i := 0) rfl) rfl ?_
    refine g_getr (b := 7) C 60 rfl flX9_112 (hZ.at (i := 4) rfl) rfl ?_
    refine g_iload_n C 61 5 rfl rfl ?_
    refine g_iald C 62 rfl (hZ.at (i := 7) rfl) h (fun h => ?_)
    refine g_put C 63 rfl fpX9_320 (lb_obj hZ hc1) rfl rfl rfl h (fun s9 h => ?_)
    refine g_goto C 64 152 rfl rfl ?_
    refine g_iload C 79 0 rfl rfl ?_
    exact g_ireturn C 80 rfl h
set_option maxRecDepth 20000 in
set_option maxHeartbeats 4000000 in
theorem C_F_X9_lay_J47 {g : Nat → List (Nat × Value) → List Value → gS → Prop} {Z : List gH} {ad : Nat → Nat} {z : Int32 × gS}  (C : gOk g T_X9_lay RX9 6 (some .int) 3 Z ad z) (hZ : Lay Z) (l1 : Int32) (l2 : Int32) (l3 : Int32) (σ : gS) (h : F_X9_lay_J47 Z l1 l2 l3  σ = some z) : g 47 [(0, .ref (ad 0)), (1, .int l1), (2, .int l2), (3, .int l3)] [] σ := by
  rw [F_X9_lay_J47] at h
  refine g_iload_n C 25 2 rfl rfl ?_
  refine g_iconst (v := 2) C 26 rfl rfl ?_
  refine g_icmp_ne C 27 67 rfl rfl h (fun h => ?_) (fun h => ?_)
  · exact C_F_X9_lay_J67 C hZ _ _ _ _ h
  · refine g_aload_n C 28 0 rfl rfl ?_
    refine g_getr (b := 38) C 29 rfl flX9_56 (hZ.at (i := 0) rfl) rfl ?_
    refine g_iload_n C 30 3 rfl rfl ?_
    refine g_sheet C 31 hZ rfl h (fun c1 hc1 h => ?_)
    refine g_callVi C 32 [] [] rfl (M_X5_isMissing hZ c1 hc1) cnX9_226 cwX5_isMissing ciX5_isMissing (sb_obj hZ hc1) rfl rfl rfl rfl (Nat.le_of_ble_eq_true rfl) ⟨Nat.le_of_ble_eq_true rfl, Nat.le_of_ble_eq_true rfl⟩ h (fun r2 s3 h => ?_)
    refine g_if_eq C 33 67 rfl rfl h (fun h => ?_) (fun h => ?_)
    · exact C_F_X9_lay_J67 C hZ _ _ _ _ h
    · refine g_ldc C 34 rfl kcX9_230 ?_
      exact g_ireturn C 35 rfl h
set_option maxRecDepth 20000 in
set_option maxHeartbeats 4000000 in
theorem M_X9_lay {Z : List gH} (hZ : Lay Z) (l1 : Int32) (l2 : Int32) (l3 : Int32) : gMet yX9_lay cX9_lay 6 (some .int) 3 Z (fun ad => [.ref (ad 0), .int l1, .int l2, .int l3]) (F_X9_lay Z l1 l2 l3) := by
  refine gMet_intro T_X9_lay T_X9_lay_ok rfl (fun _ => Nat.le_of_ble_eq_true rfl) (fun g ad σ z C h => ?_)
  show g 0 [(0, .ref (ad 0)), (1, .int l1), (2, .int l2), (3, .int l3)] [] σ
  rw [F_X9_lay] at h
  refine g_iload_n C 0 1 rfl rfl ?_
  refine g_callSi C 1 [.int l1] [] rfl (M_X9_isSlot hZ l1) cnX9_311 cwX9_isSlot csX9_isSlot rfl rfl rfl (Nat.le_of_ble_eq_true rfl) ⟨Nat.le_of_ble_eq_true rfl, Nat.le_of_ble_eq_true rfl⟩ h (fun r1 s2 h => ?_)
  refine g_if_eq C 2 16 rfl rfl h (fun h => ?_) (fun h => ?_)
  · refine g_ldc C 8 rfl kcX9_94 ?_
    exact g_ireturn C 9 rfl h
  · refine g_iload_n C 3 2 rfl rfl ?_
    refine g_iconst (v := 0) C 4 rfl rfl ?_
    refine g_iconst (v := 3) C 5 rfl rfl ?_
    refine g_callSi C 6 [.int l2, .int 0, .int 3] [] rfl (M_X9_within hZ l2 0 3) cnX9_90 cwX9_within csX9_within rfl rfl rfl (Nat.le_of_ble_eq_true rfl) ⟨Nat.le_of_ble_eq_true rfl, Nat.le_of_ble_eq_true rfl⟩ h (fun r3 s4 h => ?_)
    refine g_if_ne C 7 19 rfl rfl h (fun h => ?_) (fun h => ?_)
    · refine g_iload_n C 10 2 rfl rfl ?_
      refine g_iconst (v := 1) C 11 rfl rfl ?_
      refine g_icmp_ne C 12 32 rfl rfl h (fun h => ?_) (fun h => ?_)
      · refine g_iload_n C 17 2 rfl rfl ?_
        refine g_iconst (v := 2) C 18 rfl rfl ?_
        refine g_icmp_ne C 19 47 rfl rfl h (fun h => ?_) (fun h => ?_)
        · exact C_F_X9_lay_J47 C hZ _ _ _ _ h
        · refine g_iload_n C 20 3 rfl rfl ?_
          refine g_callSi C 21 [.int l3] [] rfl (M_X9_isSheet hZ l3) cnX9_223 cwX9_isSheet csX9_isSheet rfl rfl rfl (Nat.le_of_ble_eq_true rfl) ⟨Nat.le_of_ble_eq_true rfl, Nat.le_of_ble_eq_true rfl⟩ h (fun r5 s6 h => ?_)
          refine g_if_ne C 22 47 rfl rfl h (fun h => ?_) (fun h => ?_)
          · exact C_F_X9_lay_J47 C hZ _ _ _ _ h
          · refine g_ldc C 23 rfl kcX9_94 ?_
            exact g_ireturn C 24 rfl h
      · refine g_aload_n C 13 0 rfl rfl ?_
        refine g_iload_n C 14 3 rfl rfl ?_
        refine g_callVi C 15 [.int l3] [] rfl (M_X9_isThing hZ l3) cnX9_103 cwX9_isThing ciX9_isThing (hZ.at (i := 0) rfl) rfl rfl rfl rfl (Nat.le_of_ble_eq_true rfl) ⟨Nat.le_of_ble_eq_true rfl, Nat.le_of_ble_eq_true rfl⟩ h (fun r7 s8 h => ?_)
        refine g_if_eq C 16 44 rfl rfl h (fun h => ?_) (fun h => ?_)
        · refine g_ldc C 23 rfl kcX9_94 ?_
          exact g_ireturn C 24 rfl h
        · refine g_iload_n C 17 2 rfl rfl ?_
          refine g_iconst (v := 2) C 18 rfl rfl ?_
          refine g_icmp_ne C 19 47 rfl rfl h (fun h => ?_) (fun h => ?_)
          · exact C_F_X9_lay_J47 C hZ _ _ _ _ h
          · refine g_iload_n C 20 3 rfl rfl ?_
            refine g_callSi C 21 [.int l3] [] rfl (M_X9_isSheet hZ l3) cnX9_223 cwX9_isSheet csX9_isSheet rfl rfl rfl (Nat.le_of_ble_eq_true rfl) ⟨Nat.le_of_ble_eq_true rfl, Nat.le_of_ble_eq_true rfl⟩ h (fun r9 s10 h => ?_)
            refine g_if_ne C 22 47 rfl rfl h (fun h => ?_) (fun h => ?_)
            · exact C_F_X9_lay_J47 C hZ _ _ _ _ h
            · refine g_ldc C 23 rfl kcX9_94 ?_
              exact g_ireturn C 24 rfl h
    · refine g_ldc C 8 rfl kcX9_94 ?_
      exact g_ireturn C 9 rfl h
def T_X9_findingFor : List (Nat × Instr × Nat) := [(0, .aload_n 0, 1), (1, .getfield 63, 3), (4, .iload_n 1, 1), (5, .aaload, 1), (6, .getfield 314, 3), (9, .istore_n 3, 1), (10, .iload_n 3, 1), (11, .ifCond .ne 6, 3), (14, .ldc 230, 2), (16, .ireturn, 1), (17, .iload_n 3, 1), (18, .iload_n 2, 1), (19, .if_icmp .ne 7, 3), (22, .iconst 0, 1), (23, .goto 5, 3), (26, .ldc 138, 2), (28, .ireturn, 1)]
theorem T_X9_findingFor_ok : gTb cX9_findingFor T_X9_findingFor = true := by decide +kernel
def F_X9_findingFor (Z : List gH) (l1 : Int32) (l2 : Int32) (σ : gS) : Option (Int32 × gS) := mSl l1 (fun c1 => mLet ((σ c1 1)) (fun v2 => if v2 = 0 then some ((-1000000011), σ) else if v2 = l2 then some (0, σ) else some ((-1000000012), σ)))
set_option maxRecDepth 20000 in
set_option maxHeartbeats 4000000 in
theorem M_X9_findingFor {Z : List gH} (hZ : Lay Z) (l1 : Int32) (l2 : Int32) : gMet yX9_findingFor cX9_findingFor 4 (some .int) 1 Z (fun ad => [.ref (ad 0), .int l1, .int l2]) (F_X9_findingFor Z l1 l2) := by
  refine gMet_intro T_X9_findingFor T_X9_findingFor_ok rfl (fun _ => Nat.le_of_ble_eq_true rfl) (fun g ad σ z C h => ?_)
  show g 0 [(0, .ref (ad 0)), (1, .int l1), (2, .int l2)] [] σ
  rw [F_X9_findingFor] at h
  refine g_aload_n C 0 0 rfl rfl ?_
  refine g_getr (b := 47) C 1 rfl flX9_63 (hZ.at (i := 0) rfl) rfl ?_
  refine g_iload_n C 2 1 rfl rfl ?_
  refine g_slot C 3 hZ rfl h (fun c1 hc1 h => ?_)
  refine g_geti C 4 rfl flX9_314 (lb_obj hZ hc1) rfl ?_
  refine g_let h (fun v2 h => ?_)
  refine g_istore_n C 5 [(3, .int v2), (0, .ref (ad 0)), (1, .int l1), (2, .int l2)] rfl (by decide) rfl ?_
  refine g_iload_n C 6 0 rfl rfl ?_
  refine g_if_ne C 7 17 rfl rfl h (fun h => ?_) (fun h => ?_)
  · refine g_iload_n C 10 0 rfl rfl ?_
    refine g_iload_n C 11 3 rfl rfl ?_
    refine g_icmp_ne C 12 26 rfl rfl h (fun h => ?_) (fun h => ?_)
    · refine g_ldc C 15 rfl kcX9_138 ?_
      exact g_ireturn C 16 rfl h
    · refine g_iconst (v := 0) C 13 rfl rfl ?_
      refine g_goto C 14 28 rfl rfl ?_
      exact g_ireturn C 16 rfl h
  · refine g_ldc C 8 rfl kcX9_230 ?_
    exact g_ireturn C 9 rfl h
def T_X9_ask : List (Nat × Instr × Nat) := [(0, .iload_n 1, 1), (1, .invokestatic 311, 3), (4, .ifCond .eq 10, 3), (7, .iload_n 2, 1), (8, .invokestatic 83, 3), (11, .ifCond .ne 6, 3), (14, .ldc 94, 2), (16, .ireturn, 1), (17, .aload_n 0, 1), (18, .iload_n 1, 1), (19, .iconst 1, 1), (20, .invokevirtual 332, 3), (23, .istore_n 3, 1), (24, .iload_n 3, 1), (25, .ifCond .eq 5, 3), (28, .iload_n 3, 1), (29, .ireturn, 1), (30, .aload_n 0, 1), (31, .getfield 63, 3), (34, .iload_n 1, 1), (35, .aaload, 1), (36, .astore 4, 2), (38, .aload 4, 2), (40, .getfield 317, 3), (43, .iload_n 2, 1), (44, .invokestatic 134, 3), (47, .ifCond .eq 19, 3), (50, .aload 4, 2), (52, .getfield 317, 3), (55, .aload 4, 2), (57, .getfield 320, 3), (60, .invokestatic 131, 3), (63, .goto 5, 3), (66, .ldc 138, 2), (68, .ireturn, 1)]
theorem T_X9_ask_ok : gTb cX9_ask T_X9_ask = true := by decide +kernel
def F_X9_ask (Z : List gH) (l1 : Int32) (l2 : Int32) (σ : gS) : Option (Int32 × gS) := mCall (F_X9_isSlot Z l1 σ) (fun r1 s2 => if r1 = 0 then some ((-1000000001), s2) else mCall (F_X9_isKind Z l2 s2) (fun r3 s4 => if r3 = 0 then some ((-1000000001), s4) else mCall (F_X9_findingFor Z l1 1 s4) (fun r5 s6 => if r5 = 0 then mSl l1 (fun c7 => mCall (F_X1_isOf Z (s6 c7 2) l2 s6) (fun r8 s9 => if r8 = 0 then some ((-1000000012), s9) else mCall (F_X1_worth Z (s9 c7 2) (s9 c7 3) s9) (fun r10 s11 => some (r10, s11)))) else some (r5, s6))))
set_option maxRecDepth 20000 in
set_option maxHeartbeats 4000000 in
theorem M_X9_ask {Z : List gH} (hZ : Lay Z) (l1 : Int32) (l2 : Int32) : gMet yX9_ask cX9_ask 5 (some .int) 3 Z (fun ad => [.ref (ad 0), .int l1, .int l2]) (F_X9_ask Z l1 l2) := by
  refine gMet_intro T_X9_ask T_X9_ask_ok rfl (fun _ => Nat.le_of_ble_eq_true rfl) (fun g ad σ z C h => ?_)
  show g 0 [(0, .ref (ad 0)), (1, .int l1), (2, .int l2)] [] σ
  rw [F_X9_ask] at h
  refine g_iload_n C 0 1 rfl rfl ?_
  refine g_callSi C 1 [.int l1] [] rfl (M_X9_isSlot hZ l1) cnX9_311 cwX9_isSlot csX9_isSlot rfl rfl rfl (Nat.le_of_ble_eq_true rfl) ⟨Nat.le_of_ble_eq_true rfl, Nat.le_of_ble_eq_true rfl⟩ h (fun r1 s2 h => ?_)
  refine g_if_eq C 2 14 rfl rfl h (fun h => ?_) (fun h => ?_)
  · refine g_ldc C 6 rfl kcX9_94 ?_
    exact g_ireturn C 7 rfl h
  · refine g_iload_n C 3 2 rfl rfl ?_
    refine g_callSi C 4 [.int l2] [] rfl (M_X9_isKind hZ l2) cnX9_83 cwX9_isKind csX9_isKind rfl rfl rfl (Nat.le_of_ble_eq_true rfl) ⟨Nat.le_of_ble_eq_true rfl, Nat.le_of_ble_eq_true rfl⟩ h (fun r3 s4 h => ?_)
    refine g_if_ne C 5 17 rfl rfl h (fun h => ?_) (fun h => ?_)
    · refine g_aload_n C 8 0 rfl rfl ?_
      refine g_iload_n C 9 1 rfl rfl ?_
      refine g_iconst (v := 1) C 10 rfl rfl ?_
      refine g_callVi C 11 [.int l1, .int 1] [] rfl (M_X9_findingFor hZ l1 1) cnX9_332 cwX9_findingFor ciX9_findingFor (hZ.at (i := 0) rfl) rfl rfl rfl rfl (Nat.le_of_ble_eq_true rfl) ⟨Nat.le_of_ble_eq_true rfl, Nat.le_of_ble_eq_true rfl⟩ h (fun r5 s6 h => ?_)
      refine g_istore_n C 12 [(3, .int r5), (0, .ref (ad 0)), (1, .int l1), (2, .int l2)] rfl (by decide) rfl ?_
      refine g_iload_n C 13 0 rfl rfl ?_
      refine g_if_eq C 14 30 rfl rfl h (fun h => ?_) (fun h => ?_)
      · refine g_aload_n C 17 1 rfl rfl ?_
        refine g_getr (b := 47) C 18 rfl flX9_63 (hZ.at (i := 0) rfl) rfl ?_
        refine g_iload_n C 19 2 rfl rfl ?_
        refine g_slot C 20 hZ rfl h (fun c7 hc7 h => ?_)
        refine g_astore C 21 [(4, .ref (ad c7)), (3, .int r5), (0, .ref (ad 0)), (1, .int l1), (2, .int l2)] rfl (by decide) rfl ?_
        refine g_aload C 22 0 rfl rfl ?_
        refine g_geti C 23 rfl flX9_317 (lb_obj hZ hc7) rfl ?_
        refine g_iload_n C 24 4 rfl rfl ?_
        refine g_callSi C 25 [.int (s6 c7 2), .int l2] [] rfl (M_X1_isOf hZ (s6 c7 2) l2) cnX9_134 cwX1_isOf csX1_isOf rfl rfl rfl (Nat.le_of_ble_eq_true rfl) ⟨Nat.le_of_ble_eq_true rfl, Nat.le_of_ble_eq_true rfl⟩ h (fun r8 s9 h => ?_)
        refine g_if_eq C 26 66 rfl rfl h (fun h => ?_) (fun h => ?_)
        · refine g_ldc C 33 rfl kcX9_138 ?_
          exact g_ireturn C 34 rfl h
        · refine g_aload C 27 0 rfl rfl ?_
          refine g_geti C 28 rfl flX9_317 (lb_obj hZ hc7) rfl ?_
          refine g_aload C 29 0 rfl rfl ?_
          refine g_geti C 30 rfl flX9_320 (lb_obj hZ hc7) rfl ?_
          refine g_callSi C 31 [.int (s9 c7 2), .int (s9 c7 3)] [] rfl (M_X1_worth hZ (s9 c7 2) (s9 c7 3)) cnX9_131 cwX1_worth csX1_worth rfl rfl rfl (Nat.le_of_ble_eq_true rfl) ⟨Nat.le_of_ble_eq_true rfl, Nat.le_of_ble_eq_true rfl⟩ h (fun r10 s11 h => ?_)
          refine g_goto C 32 68 rfl rfl ?_
          exact g_ireturn C 34 rfl h
      · refine g_iload_n C 15 0 rfl rfl ?_
        exact g_ireturn C 16 rfl h
    · refine g_ldc C 6 rfl kcX9_94 ?_
      exact g_ireturn C 7 rfl h
def T_X9_item : List (Nat × Instr × Nat) := [(0, .iload_n 1, 1), (1, .invokestatic 311, 3), (4, .ifCond .ne 6, 3), (7, .ldc 94, 2), (9, .ireturn, 1), (10, .aload_n 0, 1), (11, .iload_n 1, 1), (12, .iconst 2, 1), (13, .invokevirtual 332, 3), (16, .istore_n 3, 1), (17, .iload_n 3, 1), (18, .ifCond .eq 5, 3), (21, .iload_n 3, 1), (22, .ireturn, 1), (23, .aload_n 0, 1), (24, .getfield 63, 3), (27, .iload_n 1, 1), (28, .aaload, 1), (29, .getfield 323, 3), (32, .astore 4, 2), (34, .aload 4, 2), (36, .iload_n 2, 1), (37, .invokevirtual 283, 3), (40, .ifCond .ne 7, 3), (43, .ldc_w 286, 3), (46, .ireturn, 1), (47, .aload 4, 2), (49, .iload_n 2, 1), (50, .invokevirtual 295, 3), (53, .ifCond .eq 13, 3), (56, .aload 4, 2), (58, .getfield 290, 3), (61, .iload_n 2, 1), (62, .iaload, 1), (63, .goto 5, 3), (66, .ldc 138, 2), (68, .ireturn, 1)]
theorem T_X9_item_ok : gTb cX9_item T_X9_item = true := by decide +kernel
def F_X9_item (Z : List gH) (l1 : Int32) (l2 : Int32) (σ : gS) : Option (Int32 × gS) := mCall (F_X9_isSlot Z l1 σ) (fun r1 s2 => if r1 = 0 then some ((-1000000001), s2) else mCall (F_X9_findingFor Z l1 2 s2) (fun r3 s4 => if r3 = 0 then mSl l1 (fun c5 => mCall (F_X5_hasPlace Z (c5 + 1) l2 s4) (fun r6 s7 => if r6 = 0 then some ((-1000000013), s7) else mCall (F_X5_hasNumber Z (c5 + 1) l2 s7) (fun r8 s9 => if r8 = 0 then some ((-1000000012), s9) else mIn 24 l2 (some ((s9 ((c5 + 1) + 1) (nn l2)), s9))))) else some (r3, s4)))
set_option maxRecDepth 20000 in
set_option maxHeartbeats 4000000 in
theorem M_X9_item {Z : List gH} (hZ : Lay Z) (l1 : Int32) (l2 : Int32) : gMet yX9_item cX9_item 5 (some .int) 4 Z (fun ad => [.ref (ad 0), .int l1, .int l2]) (F_X9_item Z l1 l2) := by
  refine gMet_intro T_X9_item T_X9_item_ok rfl (fun _ => Nat.le_of_ble_eq_true rfl) (fun g ad σ z C h => ?_)
  show g 0 [(0, .ref (ad 0)), (1, .int l1), (2, .int l2)] [] σ
  rw [F_X9_item] at h
  refine g_iload_n C 0 1 rfl rfl ?_
  refine g_callSi C 1 [.int l1] [] rfl (M_X9_isSlot hZ l1) cnX9_311 cwX9_isSlot csX9_isSlot rfl rfl rfl (Nat.le_of_ble_eq_true rfl) ⟨Nat.le_of_ble_eq_true rfl, Nat.le_of_ble_eq_true rfl⟩ h (fun r1 s2 h => ?_)
  refine g_if_ne C 2 10 rfl rfl h (fun h => ?_) (fun h => ?_)
  · refine g_aload_n C 5 0 rfl rfl ?_
    refine g_iload_n C 6 1 rfl rfl ?_
    refine g_iconst (v := 2) C 7 rfl rfl ?_
    refine g_callVi C 8 [.int l1, .int 2] [] rfl (M_X9_findingFor hZ l1 2) cnX9_332 cwX9_findingFor ciX9_findingFor (hZ.at (i := 0) rfl) rfl rfl rfl rfl (Nat.le_of_ble_eq_true rfl) ⟨Nat.le_of_ble_eq_true rfl, Nat.le_of_ble_eq_true rfl⟩ h (fun r3 s4 h => ?_)
    refine g_istore_n C 9 [(3, .int r3), (0, .ref (ad 0)), (1, .int l1), (2, .int l2)] rfl (by decide) rfl ?_
    refine g_iload_n C 10 0 rfl rfl ?_
    refine g_if_eq C 11 23 rfl rfl h (fun h => ?_) (fun h => ?_)
    · refine g_aload_n C 14 1 rfl rfl ?_
      refine g_getr (b := 47) C 15 rfl flX9_63 (hZ.at (i := 0) rfl) rfl ?_
      refine g_iload_n C 16 2 rfl rfl ?_
      refine g_slot C 17 hZ rfl h (fun c5 hc5 h => ?_)
      refine g_getr (b := (c5 + 1)) C 18 rfl flX9_323 (lb_obj hZ hc5) rfl ?_
      refine g_astore C 19 [(4, .ref (ad (c5 + 1))), (3, .int r3), (0, .ref (ad 0)), (1, .int l1), (2, .int l2)] rfl (by decide) rfl ?_
      refine g_aload C 20 0 rfl rfl ?_
      refine g_iload_n C 21 4 rfl rfl ?_
      refine g_callVi C 22 [.int l2] [] rfl (M_X5_hasPlace hZ (c5 + 1) (lb_row hc5) l2) cnX9_283 cwX5_hasPlace ciX5_hasPlace (sb_obj hZ (lb_row hc5)) rfl rfl rfl rfl (Nat.le_of_ble_eq_true rfl) ⟨Nat.le_of_ble_eq_true rfl, Nat.le_of_ble_eq_true rfl⟩ h (fun r6 s7 h => ?_)
      refine g_if_ne C 23 47 rfl rfl h (fun h => ?_) (fun h => ?_)
      · refine g_aload C 26 0 rfl rfl ?_
        refine g_iload_n C 27 4 rfl rfl ?_
        refine g_callVi C 28 [.int l2] [] rfl (M_X5_hasNumber hZ (c5 + 1) (lb_row hc5) l2) cnX9_295 cwX5_hasNumber ciX5_hasNumber (sb_obj hZ (lb_row hc5)) rfl rfl rfl rfl (Nat.le_of_ble_eq_true rfl) ⟨Nat.le_of_ble_eq_true rfl, Nat.le_of_ble_eq_true rfl⟩ h (fun r8 s9 h => ?_)
        refine g_if_eq C 29 66 rfl rfl h (fun h => ?_) (fun h => ?_)
        · refine g_ldc C 35 rfl kcX9_138 ?_
          exact g_ireturn C 36 rfl h
        · refine g_aload C 30 0 rfl rfl ?_
          refine g_getr (b := ((c5 + 1) + 1)) C 31 rfl flX9_290 (sb_obj hZ (lb_row hc5)) rfl ?_
          refine g_iload_n C 32 4 rfl rfl ?_
          refine g_iald C 33 rfl (sb_places hZ (lb_row hc5)) h (fun h => ?_)
          refine g_goto C 34 68 rfl rfl ?_
          exact g_ireturn C 36 rfl h
      · refine g_ldcw C 24 rfl kcX9_286 ?_
        exact g_ireturn C 25 rfl h
    · refine g_iload_n C 12 0 rfl rfl ?_
      exact g_ireturn C 13 rfl h
  · refine g_ldc C 3 rfl kcX9_94 ?_
    exact g_ireturn C 4 rfl h
def T_X9_rest : List (Nat × Instr × Nat) := [(0, .iload_n 1, 1), (1, .invokestatic 311, 3), (4, .ifCond .ne 6, 3), (7, .ldc 94, 2), (9, .ireturn, 1), (10, .aload_n 0, 1), (11, .iload_n 1, 1), (12, .iconst 3, 1), (13, .invokevirtual 332, 3), (16, .istore_n 3, 1), (17, .iload_n 3, 1), (18, .ifCond .eq 5, 3), (21, .iload_n 3, 1), (22, .ireturn, 1), (23, .iload_n 2, 1), (24, .ifCond .ne 9, 3), (27, .ldc_w 335, 3), (30, .goto 14, 3), (33, .aload_n 0, 1), (34, .getfield 63, 3), (37, .iload_n 1, 1), (38, .aaload, 1), (39, .getfield 329, 3), (42, .iload_n 2, 1), (43, .irem, 1), (44, .ireturn, 1)]
theorem T_X9_rest_ok : gTb cX9_rest T_X9_rest = true := by decide +kernel
def F_X9_rest (Z : List gH) (l1 : Int32) (l2 : Int32) (σ : gS) : Option (Int32 × gS) := mCall (F_X9_isSlot Z l1 σ) (fun r1 s2 => if r1 = 0 then some ((-1000000001), s2) else mCall (F_X9_findingFor Z l1 3 s2) (fun r3 s4 => if r3 = 0 then if l2 = 0 then some ((-1000000002), s4) else mSl l1 (fun c5 => mNz l2 (some ((mRem (s4 c5 4) l2), s4))) else some (r3, s4)))
set_option maxRecDepth 20000 in
set_option maxHeartbeats 4000000 in
theorem M_X9_rest {Z : List gH} (hZ : Lay Z) (l1 : Int32) (l2 : Int32) : gMet yX9_rest cX9_rest 4 (some .int) 3 Z (fun ad => [.ref (ad 0), .int l1, .int l2]) (F_X9_rest Z l1 l2) := by
  refine gMet_intro T_X9_rest T_X9_rest_ok rfl (fun _ => Nat.le_of_ble_eq_true rfl) (fun g ad σ z C h => ?_)
  show g 0 [(0, .ref (ad 0)), (1, .int l1), (2, .int l2)] [] σ
  rw [F_X9_rest] at h
  refine g_iload_n C 0 1 rfl rfl ?_
  refine g_callSi C 1 [.int l1] [] rfl (M_X9_isSlot hZ l1) cnX9_311 cwX9_isSlot csX9_isSlot rfl rfl rfl (Nat.le_of_ble_eq_true rfl) ⟨Nat.le_of_ble_eq_true rfl, Nat.le_of_ble_eq_true rfl⟩ h (fun r1 s2 h => ?_)
  refine g_if_ne C 2 10 rfl rfl h (fun h => ?_) (fun h => ?_)
  · refine g_aload_n C 5 0 rfl rfl ?_
    refine g_iload_n C 6 1 rfl rfl ?_
    refine g_iconst (v := 3) C 7 rfl rfl ?_
    refine g_callVi C 8 [.int l1, .int 3] [] rfl (M_X9_findingFor hZ l1 3) cnX9_332 cwX9_findingFor ciX9_findingFor (hZ.at (i := 0) rfl) rfl rfl rfl rfl (Nat.le_of_ble_eq_true rfl) ⟨Nat.le_of_ble_eq_true rfl, Nat.le_of_ble_eq_true rfl⟩ h (fun r3 s4 h => ?_)
    refine g_istore_n C 9 [(3, .int r3), (0, .ref (ad 0)), (1, .int l1), (2, .int l2)] rfl (by decide) rfl ?_
    refine g_iload_n C 10 0 rfl rfl ?_
    refine g_if_eq C 11 23 rfl rfl h (fun h => ?_) (fun h => ?_)
    · refine g_iload_n C 14 3 rfl rfl ?_
      refine g_if_ne C 15 33 rfl rfl h (fun h => ?_) (fun h => ?_)
      · refine g_aload_n C 18 1 rfl rfl ?_
        refine g_getr (b := 47) C 19 rfl flX9_63 (hZ.at (i := 0) rfl) rfl ?_
        refine g_iload_n C 20 2 rfl rfl ?_
        refine g_slot C 21 hZ rfl h (fun c5 hc5 h => ?_)
        refine g_geti C 22 rfl flX9_329 (lb_obj hZ hc5) rfl ?_
        refine g_iload_n C 23 3 rfl rfl ?_
        refine g_irem C 24 rfl h (fun h => ?_)
        exact g_ireturn C 25 rfl h
      · refine g_ldcw C 16 rfl kcX9_335 ?_
        refine g_goto C 17 44 rfl rfl ?_
        exact g_ireturn C 25 rfl h
    · refine g_iload_n C 12 0 rfl rfl ?_
      exact g_ireturn C 13 rfl h
  · refine g_ldc C 3 rfl kcX9_94 ?_
    exact g_ireturn C 4 rfl h
def T_X9_tell : List (Nat × Instr × Nat) := [(0, .aload_n 0, 1), (1, .getfield 75, 3), (4, .bipush 60, 2), (6, .if_icmp .lt 6, 3), (9, .ldc 98, 2), (11, .ireturn, 1), (12, .aload_n 0, 1), (13, .getfield 72, 3), (16, .aload_n 0, 1), (17, .getfield 75, 3), (20, .iload_n 1, 1), (21, .iastore, 1), (22, .aload_n 0, 1), (23, .dup, 1), (24, .getfield 75, 3), (27, .iconst 1, 1), (28, .iadd, 1), (29, .putfield 75, 3), (32, .aload_n 0, 1), (33, .getfield 75, 3), (36, .ireturn, 1)]
theorem T_X9_tell_ok : gTb cX9_tell T_X9_tell = true := by decide +kernel
def F_X9_tell (Z : List gH) (l1 : Int32) (σ : gS) : Option (Int32 × gS) := if (σ 0 11) < 60 then mIn 60 (σ 0 11) (mLet (gu σ 64 (nn (σ 0 11)) l1) (fun s1 => mLet (gu s1 0 11 ((s1 0 11) + 1)) (fun s2 => some ((s2 0 11), s2)))) else some ((-1000000003), σ)
set_option maxRecDepth 20000 in
set_option maxHeartbeats 4000000 in
theorem M_X9_tell {Z : List gH} (hZ : Lay Z) (l1 : Int32) : gMet yX9_tell cX9_tell 2 (some .int) 1 Z (fun ad => [.ref (ad 0), .int l1]) (F_X9_tell Z l1) := by
  refine gMet_intro T_X9_tell T_X9_tell_ok rfl (fun _ => Nat.le_of_ble_eq_true rfl) (fun g ad σ z C h => ?_)
  show g 0 [(0, .ref (ad 0)), (1, .int l1)] [] σ
  rw [F_X9_tell] at h
  refine g_aload_n C 0 0 rfl rfl ?_
  refine g_geti C 1 rfl flX9_75 (hZ.at (i := 0) rfl) rfl ?_
  refine g_bipush (v := 60) C 2 rfl rfl ?_
  refine g_icmp_lt C 3 12 rfl rfl h (fun h => ?_) (fun h => ?_)
  · refine g_aload_n C 6 0 rfl rfl ?_
    refine g_getr (b := 64) C 7 rfl flX9_72 (hZ.at (i := 0) rfl) rfl ?_
    refine g_aload_n C 8 0 rfl rfl ?_
    refine g_geti C 9 rfl flX9_75 (hZ.at (i := 0) rfl) rfl ?_
    refine g_iload_n C 10 1 rfl rfl ?_
    refine g_iast C 11 rfl (hZ.at (i := 64) rfl) h (fun s1 h => ?_)
    refine g_aload_n C 12 0 rfl rfl ?_
    refine g_dup C 13 rfl rfl ?_
    refine g_geti C 14 rfl flX9_75 (hZ.at (i := 0) rfl) rfl ?_
    refine g_iconst (v := 1) C 15 rfl rfl ?_
    refine g_iadd C 16 rfl ?_
    refine g_put C 17 rfl fpX9_75 (hZ.at (i := 0) rfl) rfl rfl rfl h (fun s2 h => ?_)
    refine g_aload_n C 18 0 rfl rfl ?_
    refine g_geti C 19 rfl flX9_75 (hZ.at (i := 0) rfl) rfl ?_
    exact g_ireturn C 20 rfl h
  · refine g_ldc C 4 rfl kcX9_98 ?_
    exact g_ireturn C 5 rfl h
def T_X9_check : List (Nat × Instr × Nat) := [(0, .aload_n 0, 1), (1, .getfield 75, 3), (4, .istore_n 2, 1), (5, .aload_n 0, 1), (6, .iconst 0, 1), (7, .putfield 75, 3), (10, .iload_n 1, 1), (11, .iconst 1, 1), (12, .bipush 30, 2), (14, .invokestatic 90, 3), (17, .ifCond .ne 6, 3), (20, .ldc 94, 2), (22, .ireturn, 1), (23, .aload_n 0, 1), (24, .getfield 79, 3), (27, .ifCond .ne 7, 3), (30, .ldc_w 335, 3), (33, .ireturn, 1), (34, .aload_n 0, 1), (35, .getfield 28, 3), (38, .aload_n 0, 1), (39, .getfield 25, 3), (42, .invokevirtual 215, 3), (45, .iconst 2, 1), (46, .iload_n 1, 1), (47, .sipush 9999, 3), (50, .aload_n 0, 1), (51, .getfield 25, 3), (54, .getfield 196, 3), (57, .isub, 1), (58, .invokestatic 143, 3), (61, .imul, 1), (62, .istore_n 3, 1), (63, .iconst 0, 1), (64, .istore 4, 2), (66, .iload 4, 2), (68, .iload_n 3, 1), (69, .if_icmp .ge 76, 3), (72, .aload_n 0, 1), (73, .getfield 28, 3), (76, .invokevirtual 199, 3), (79, .iload 4, 2), (81, .iload_n 2, 1), (82, .if_icmp .ge 20, 3), (85, .aload_n 0, 1), (86, .getfield 72, 3), (89, .iload 4, 2), (91, .iaload, 1), (92, .aload_n 0, 1), (93, .getfield 28, 3), (96, .getfield 193, 3), (99, .if_icmp .eq 8, 3), (102, .iconst 1, 1), (103, .iload 4, 2), (105, .iadd, 1), (106, .ireturn, 1), (107, .iload 4, 2), (109, .iconst 1, 1), (110, .iadd, 1), (111, .iload_n 2, 1), (112, .if_icmp .ge 22, 3), (115, .aload_n 0, 1), (116, .getfield 72, 3), (119, .iload 4, 2), (121, .iconst 1, 1), (122, .iadd, 1), (123, .iaload, 1), (124, .aload_n 0, 1), (125, .getfield 28, 3), (128, .invokevirtual 212, 3), (131, .if_icmp .eq 8, 3), (134, .iconst 2, 1), (135, .iload 4, 2), (137, .iadd, 1), (138, .ireturn, 1), (139, .iinc 4 2, 3), (142, .goto (-76), 3), (145, .iload_n 2, 1), (146, .iload_n 3, 1), (147, .if_icmp .le 9, 3), (150, .iconst 1, 1), (151, .iload_n 3, 1), (152, .iadd, 1), (153, .goto 4, 3), (156, .iconst 0, 1), (157, .ireturn, 1)]
theorem T_X9_check_ok : gTb cX9_check T_X9_check = true := by decide +kernel
def F_X9_check_L66 (Z : List gH) : Nat → Int32 → Int32 → Int32 → gS → Option (Int32 × gS)
  | 0, _, _, _, _ => none
  | n + 1, l2, l3, l4, σ => if l3 ≤ l4 then if l2 ≤ l3 then some (0, σ) else some ((1 + l3), σ) else mCall (F_X0_passMinute Z 22 σ) (fun r1 s2 => if l2 ≤ l4 then some ((1 + l4), s2) else mIn 60 l4 (if (s2 64 (nn l4)) = (s2 22 14) then if l2 ≤ (l4 + 1) then some ((2 + l4), s2) else mIn 60 (l4 + 1) (mCall (F_X0_heatTogether Z 22 s2) (fun r3 s4 => if (s2 64 (nn (l4 + 1))) = r3 then F_X9_check_L66 Z n l2 l3 (l4 + 2) s4 else some ((2 + l4), s4))) else some ((1 + l4), s2)))
def F_X9_check (Z : List gH) (l1 : Int32) (σ : gS) : Option (Int32 × gS) := mLet ((σ 0 11)) (fun v1 => mLet (gu σ 0 11 0) (fun s2 => mCall (F_X9_within Z l1 1 30 s2) (fun r3 s4 => if r3 = 0 then some ((-1000000001), s4) else if (s4 0 12) = 0 then some ((-1000000002), s4) else mCall (F_X0_becomeAs Z 22 13 s4) (fun r5 s6 => mLet ((2 * (mMin l1 (9999 - (s6 13 17))))) (fun v7 => F_X9_check_L66 Z mFuel v1 v7 0 s6)))))
set_option maxRecDepth 20000 in
set_option maxHeartbeats 4000000 in
theorem C_F_X9_check_L66 {g : Nat → List (Nat × Value) → List Value → gS → Prop} {Z : List gH} {ad : Nat → Nat} {z : Int32 × gS}  (C : gOk g T_X9_check RX9 5 (some .int) 7 Z ad z) (hZ : Lay Z) : ∀ (n : Nat) (l2 : Int32) (l3 : Int32) (l4 : Int32) (σ : gS), F_X9_check_L66 Z n l2 l3 l4 σ = some z → g 66 [(0, .ref (ad 0)), (2, .int l2), (3, .int l3), (4, .int l4)] [] σ := by
  intro n
  induction n with
  | zero => intro l2 l3 l4 σ h; cases h
  | succ n ih =>
    intro l2 l3 l4 σ h
    rw [F_X9_check_L66] at h
    refine g_iload C 35 3 rfl rfl ?_
    refine g_iload_n C 36 2 rfl rfl ?_
    refine g_icmp_ge C 37 145 rfl rfl h (fun h => ?_) (fun h => ?_)
    · refine g_iload_n C 77 1 rfl rfl ?_
      refine g_iload_n C 78 2 rfl rfl ?_
      refine g_icmp_le C 79 156 rfl rfl h (fun h => ?_) (fun h => ?_)
      · refine g_iconst (v := 0) C 84 rfl rfl ?_
        exact g_ireturn C 85 rfl h
      · refine g_iconst (v := 1) C 80 rfl rfl ?_
        refine g_iload_n C 81 2 rfl rfl ?_
        refine g_iadd C 82 rfl ?_
        refine g_goto C 83 157 rfl rfl ?_
        exact g_ireturn C 85 rfl h
    · refine g_aload_n C 38 0 rfl rfl ?_
      refine g_getr (b := 22) C 39 rfl flX9_28 (hZ.at (i := 0) rfl) rfl ?_
      refine g_callVv C 40 [] [] rfl (M_X0_passMinute hZ 22 (Or.inr (Or.inr rfl))) cnX9_199 cwX0_passMinute ciX0_passMinute (hZ.at (i := 22) rfl) rfl rfl rfl rfl (Nat.le_of_ble_eq_true rfl) ⟨Nat.le_of_ble_eq_true rfl, Nat.le_of_ble_eq_true rfl⟩ h (fun r1 s2 h => ?_)
      refine g_iload C 41 3 rfl rfl ?_
      refine g_iload_n C 42 1 rfl rfl ?_
      refine g_icmp_ge C 43 102 rfl rfl h (fun h => ?_) (fun h => ?_)
      · refine g_iconst (v := 1) C 52 rfl rfl ?_
        refine g_iload C 53 3 rfl rfl ?_
        refine g_iadd C 54 rfl ?_
        exact g_ireturn C 55 rfl h
      · refine g_aload_n C 44 0 rfl rfl ?_
        refine g_getr (b := 64) C 45 rfl flX9_72 (hZ.at (i := 0) rfl) rfl ?_
        refine g_iload C 46 3 rfl rfl ?_
        refine g_iald C 47 rfl (hZ.at (i := 64) rfl) h (fun h => ?_)
        refine g_aload_n C 48 0 rfl rfl ?_
        refine g_getr (b := 22) C 49 rfl flX9_28 (hZ.at (i := 0) rfl) rfl ?_
        refine g_geti C 50 rfl flX9_193 (hZ.at (i := 22) rfl) rfl ?_
        refine g_icmp_eq C 51 107 rfl rfl h (fun h => ?_) (fun h => ?_)
        · refine g_iload C 56 3 rfl rfl ?_
          refine g_iconst (v := 1) C 57 rfl rfl ?_
          refine g_iadd C 58 rfl ?_
          refine g_iload_n C 59 1 rfl rfl ?_
          refine g_icmp_ge C 60 134 rfl rfl h (fun h => ?_) (fun h => ?_)
          · refine g_iconst (v := 2) C 71 rfl rfl ?_
            refine g_iload C 72 3 rfl rfl ?_
            refine g_iadd C 73 rfl ?_
            exact g_ireturn C 74 rfl h
          · refine g_aload_n C 61 0 rfl rfl ?_
            refine g_getr (b := 64) C 62 rfl flX9_72 (hZ.at (i := 0) rfl) rfl ?_
            refine g_iload C 63 3 rfl rfl ?_
            refine g_iconst (v := 1) C 64 rfl rfl ?_
            refine g_iadd C 65 rfl ?_
            refine g_iald C 66 rfl (hZ.at (i := 64) rfl) h (fun h => ?_)
            refine g_aload_n C 67 0 rfl rfl ?_
            refine g_getr (b := 22) C 68 rfl flX9_28 (hZ.at (i := 0) rfl) rfl ?_
            refine g_callVi C 69 [] [.int (s2 64 (nn (l4 + 1)))] rfl (M_X0_heatTogether hZ 22 (Or.inr (Or.inr rfl))) cnX9_212 cwX0_heatTogether ciX0_heatTogether (hZ.at (i := 22) rfl) rfl rfl rfl rfl (Nat.le_of_ble_eq_true rfl) ⟨Nat.le_of_ble_eq_true rfl, Nat.le_of_ble_eq_true rfl⟩ h (fun r3 s4 h => ?_)
            refine g_icmp_eq C 70 139 rfl rfl h (fun h => ?_) (fun h => ?_)
            · refine g_iinc C 75 3 (l4 + 2) [(4, .int (l4 + 2)), (0, .ref (ad 0)), (2, .int l2), (3, .int l3)] rfl rfl (by decide) rfl rfl ?_
              refine g_goto C 76 66 rfl rfl ?_
              refine g_sub C [1, 2, 3, 0] [(0, .ref (ad 0)), (2, .int l2), (3, .int l3), (4, .int (l4 + 2))] rfl ?_
              exact ih _ _ _ _ h
            · refine g_iconst (v := 2) C 71 rfl rfl ?_
              refine g_iload C 72 3 rfl rfl ?_
              refine g_iadd C 73 rfl ?_
              exact g_ireturn C 74 rfl h
        · refine g_iconst (v := 1) C 52 rfl rfl ?_
          refine g_iload C 53 3 rfl rfl ?_
          refine g_iadd C 54 rfl ?_
          exact g_ireturn C 55 rfl h
set_option maxRecDepth 20000 in
set_option maxHeartbeats 4000000 in
theorem M_X9_check {Z : List gH} (hZ : Lay Z) (l1 : Int32) : gMet yX9_check cX9_check 5 (some .int) 7 Z (fun ad => [.ref (ad 0), .int l1]) (F_X9_check Z l1) := by
  refine gMet_intro T_X9_check T_X9_check_ok rfl (fun _ => Nat.le_of_ble_eq_true rfl) (fun g ad σ z C h => ?_)
  show g 0 [(0, .ref (ad 0)), (1, .int l1)] [] σ
  rw [F_X9_check] at h
  refine g_aload_n C 0 0 rfl rfl ?_
  refine g_geti C 1 rfl flX9_75 (hZ.at (i := 0) rfl) rfl ?_
  refine g_let h (fun v1 h => ?_)
  refine g_istore_n C 2 [(2, .int v1), (0, .ref (ad 0)), (1, .int l1)] rfl (by decide) rfl ?_
  refine g_aload_n C 3 1 rfl rfl ?_
  refine g_iconst (v := 0) C 4 rfl rfl ?_
  refine g_put C 5 rfl fpX9_75 (hZ.at (i := 0) rfl) rfl rfl rfl h (fun s2 h => ?_)
  refine g_iload_n C 6 2 rfl rfl ?_
  refine g_iconst (v := 1) C 7 rfl rfl ?_
  refine g_bipush (v := 30) C 8 rfl rfl ?_
  refine g_callSi C 9 [.int l1, .int 1, .int 30] [] rfl (M_X9_within hZ l1 1 30) cnX9_90 cwX9_within csX9_within rfl rfl rfl (Nat.le_of_ble_eq_true rfl) ⟨Nat.le_of_ble_eq_true rfl, Nat.le_of_ble_eq_true rfl⟩ h (fun r3 s4 h => ?_)
  refine g_if_ne C 10 23 rfl rfl h (fun h => ?_) (fun h => ?_)
  · refine g_aload_n C 13 1 rfl rfl ?_
    refine g_geti C 14 rfl flX9_79 (hZ.at (i := 0) rfl) rfl ?_
    refine g_if_ne C 15 34 rfl rfl h (fun h => ?_) (fun h => ?_)
    · refine g_aload_n C 18 1 rfl rfl ?_
      refine g_getr (b := 22) C 19 rfl flX9_28 (hZ.at (i := 0) rfl) rfl ?_
      refine g_aload_n C 20 1 rfl rfl ?_
      refine g_getr (b := 13) C 21 rfl flX9_25 (hZ.at (i := 0) rfl) rfl ?_
      refine g_callVv C 22 [.ref (ad 13)] [] rfl (M_X0_becomeAs hZ 22 (Or.inr (Or.inr rfl)) 13 (Or.inr (Or.inl rfl))) cnX9_215 cwX0_becomeAs ciX0_becomeAs (hZ.at (i := 22) rfl) rfl rfl rfl rfl (Nat.le_of_ble_eq_true rfl) ⟨Nat.le_of_ble_eq_true rfl, Nat.le_of_ble_eq_true rfl⟩ h (fun r5 s6 h => ?_)
      refine g_iconst (v := 2) C 23 rfl rfl ?_
      refine g_iload_n C 24 2 rfl rfl ?_
      refine g_sipush (v := 9999) C 25 rfl rfl ?_
      refine g_aload_n C 26 1 rfl rfl ?_
      refine g_getr (b := 13) C 27 rfl flX9_25 (hZ.at (i := 0) rfl) rfl ?_
      refine g_geti C 28 rfl flX9_196 (hZ.at (i := 13) rfl) rfl ?_
      refine g_isub C 29 rfl ?_
      refine g_mmin C 30 rfl cnX9_143 wm_min ⟨Nat.le_of_ble_eq_true rfl, Nat.le_of_ble_eq_true rfl⟩ ?_
      refine g_imul C 31 rfl ?_
      refine g_let h (fun v7 h => ?_)
      refine g_istore_n C 32 [(3, .int v7), (2, .int v1), (0, .ref (ad 0)), (1, .int l1)] rfl (by decide) rfl ?_
      refine g_iconst (v := 0) C 33 rfl rfl ?_
      refine g_istore C 34 [(4, .int 0), (3, .int v7), (2, .int v1), (0, .ref (ad 0)), (1, .int l1)] rfl (by decide) rfl ?_
      refine g_sub C [3, 2, 1, 0] [(0, .ref (ad 0)), (2, .int v1), (3, .int v7), (4, .int 0)] rfl ?_
      exact C_F_X9_check_L66 C hZ _ _ _ _ _ h
    · refine g_ldcw C 16 rfl kcX9_335 ?_
      exact g_ireturn C 17 rfl h
  · refine g_ldc C 11 rfl kcX9_94 ?_
    exact g_ireturn C 12 rfl h
def T_X9_keep : List (Nat × Instr × Nat) := [(0, .aload_n 0, 1), (1, .getfield 25, 3), (4, .aload_n 0, 1), (5, .getfield 21, 3), (8, .invokevirtual 215, 3), (11, .aload_n 0, 1), (12, .iconst 1, 1), (13, .putfield 79, 3), (16, .aload_n 0, 1), (17, .getfield 25, 3), (20, .getfield 95, 3), (23, .ireturn, 1)]
theorem T_X9_keep_ok : gTb cX9_keep T_X9_keep = true := by decide +kernel
def F_X9_keep (Z : List gH) (σ : gS) : Option (Int32 × gS) := mCall (F_X0_becomeAs Z 13 4 σ) (fun r1 s2 => mLet (gu s2 0 12 1) (fun s3 => some ((s3 13 9), s3)))
set_option maxRecDepth 20000 in
set_option maxHeartbeats 4000000 in
theorem M_X9_keep {Z : List gH} (hZ : Lay Z) : gMet yX9_keep cX9_keep 1 (some .int) 2 Z (fun ad => [.ref (ad 0)]) (F_X9_keep Z) := by
  refine gMet_intro T_X9_keep T_X9_keep_ok rfl (fun _ => Nat.le_of_ble_eq_true rfl) (fun g ad σ z C h => ?_)
  show g 0 [(0, .ref (ad 0))] [] σ
  rw [F_X9_keep] at h
  refine g_aload_n C 0 0 rfl rfl ?_
  refine g_getr (b := 13) C 1 rfl flX9_25 (hZ.at (i := 0) rfl) rfl ?_
  refine g_aload_n C 2 0 rfl rfl ?_
  refine g_getr (b := 4) C 3 rfl flX9_21 (hZ.at (i := 0) rfl) rfl ?_
  refine g_callVv C 4 [.ref (ad 4)] [] rfl (M_X0_becomeAs hZ 13 (Or.inr (Or.inl rfl)) 4 (Or.inl rfl)) cnX9_215 cwX0_becomeAs ciX0_becomeAs (hZ.at (i := 13) rfl) rfl rfl rfl rfl (Nat.le_of_ble_eq_true rfl) ⟨Nat.le_of_ble_eq_true rfl, Nat.le_of_ble_eq_true rfl⟩ h (fun r1 s2 h => ?_)
  refine g_aload_n C 5 0 rfl rfl ?_
  refine g_iconst (v := 1) C 6 rfl rfl ?_
  refine g_put C 7 rfl fpX9_79 (hZ.at (i := 0) rfl) rfl rfl rfl h (fun s3 h => ?_)
  refine g_aload_n C 8 0 rfl rfl ?_
  refine g_getr (b := 13) C 9 rfl flX9_25 (hZ.at (i := 0) rfl) rfl ?_
  refine g_geti C 10 rfl flX9_95 (hZ.at (i := 13) rfl) rfl ?_
  exact g_ireturn C 11 rfl h
def T_X9_back : List (Nat × Instr × Nat) := [(0, .aload_n 0, 1), (1, .getfield 79, 3), (4, .ifCond .ne 7, 3), (7, .ldc_w 335, 3), (10, .ireturn, 1), (11, .aload_n 0, 1), (12, .getfield 21, 3), (15, .aload_n 0, 1), (16, .getfield 25, 3), (19, .invokevirtual 215, 3), (22, .aload_n 0, 1), (23, .getfield 21, 3), (26, .getfield 95, 3), (29, .ireturn, 1)]
theorem T_X9_back_ok : gTb cX9_back T_X9_back = true := by decide +kernel
def F_X9_back (Z : List gH) (σ : gS) : Option (Int32 × gS) := if (σ 0 12) = 0 then some ((-1000000002), σ) else mCall (F_X0_becomeAs Z 4 13 σ) (fun r1 s2 => some ((s2 4 9), s2))
set_option maxRecDepth 20000 in
set_option maxHeartbeats 4000000 in
theorem M_X9_back {Z : List gH} (hZ : Lay Z) : gMet yX9_back cX9_back 1 (some .int) 2 Z (fun ad => [.ref (ad 0)]) (F_X9_back Z) := by
  refine gMet_intro T_X9_back T_X9_back_ok rfl (fun _ => Nat.le_of_ble_eq_true rfl) (fun g ad σ z C h => ?_)
  show g 0 [(0, .ref (ad 0))] [] σ
  rw [F_X9_back] at h
  refine g_aload_n C 0 0 rfl rfl ?_
  refine g_geti C 1 rfl flX9_79 (hZ.at (i := 0) rfl) rfl ?_
  refine g_if_ne C 2 11 rfl rfl h (fun h => ?_) (fun h => ?_)
  · refine g_aload_n C 5 0 rfl rfl ?_
    refine g_getr (b := 4) C 6 rfl flX9_21 (hZ.at (i := 0) rfl) rfl ?_
    refine g_aload_n C 7 0 rfl rfl ?_
    refine g_getr (b := 13) C 8 rfl flX9_25 (hZ.at (i := 0) rfl) rfl ?_
    refine g_callVv C 9 [.ref (ad 13)] [] rfl (M_X0_becomeAs hZ 4 (Or.inl rfl) 13 (Or.inr (Or.inl rfl))) cnX9_215 cwX0_becomeAs ciX0_becomeAs (hZ.at (i := 4) rfl) rfl rfl rfl rfl (Nat.le_of_ble_eq_true rfl) ⟨Nat.le_of_ble_eq_true rfl, Nat.le_of_ble_eq_true rfl⟩ h (fun r1 s2 h => ?_)
    refine g_aload_n C 10 0 rfl rfl ?_
    refine g_getr (b := 4) C 11 rfl flX9_21 (hZ.at (i := 0) rfl) rfl ?_
    refine g_geti C 12 rfl flX9_95 (hZ.at (i := 4) rfl) rfl ?_
    exact g_ireturn C 13 rfl h
  · refine g_ldcw C 3 rfl kcX9_335 ?_
    exact g_ireturn C 4 rfl h
def T_X9_count : List (Nat × Instr × Nat) := [(0, .iload_n 1, 1), (1, .tableswitch 120 0 8 #[51, 59, 67, 75, 83, 91, 99, 104, 112], 51), (52, .aload_n 0, 1), (53, .getfield 21, 3), (56, .getfield 95, 3), (59, .ireturn, 1), (60, .aload_n 0, 1), (61, .getfield 21, 3), (64, .getfield 196, 3), (67, .ireturn, 1), (68, .aload_n 0, 1), (69, .getfield 21, 3), (72, .getfield 167, 3), (75, .ireturn, 1), (76, .aload_n 0, 1), (77, .getfield 21, 3), (80, .getfield 170, 3), (83, .ireturn, 1), (84, .aload_n 0, 1), (85, .getfield 21, 3), (88, .getfield 173, 3), (91, .ireturn, 1), (92, .aload_n 0, 1), (93, .getfield 21, 3), (96, .getfield 258, 3), (99, .ireturn, 1), (100, .aload_n 0, 1), (101, .getfield 75, 3), (104, .ireturn, 1), (105, .aload_n 0, 1), (106, .getfield 41, 3), (109, .getfield 245, 3), (112, .ireturn, 1), (113, .aload_n 0, 1), (114, .getfield 21, 3), (117, .getfield 151, 3), (120, .ireturn, 1), (121, .ldc 94, 2), (123, .ireturn, 1)]
theorem T_X9_count_ok : gTb cX9_count T_X9_count = true := by decide +kernel
def F_X9_count (Z : List gH) (l1 : Int32) (σ : gS) : Option (Int32 × gS) := if l1 = 0 then some ((σ 4 9), σ) else if l1 = 1 then some ((σ 4 17), σ) else if l1 = 2 then some ((σ 4 12), σ) else if l1 = 3 then some ((σ 4 13), σ) else if l1 = 4 then some ((σ 4 10), σ) else if l1 = 5 then some ((σ 4 11), σ) else if l1 = 6 then some ((σ 0 11), σ) else if l1 = 7 then some ((σ 34 1), σ) else if l1 = 8 then some ((σ 4 18), σ) else some ((-1000000001), σ)
set_option maxRecDepth 20000 in
set_option maxHeartbeats 4000000 in
theorem M_X9_count {Z : List gH} (hZ : Lay Z) (l1 : Int32) : gMet yX9_count cX9_count 2 (some .int) 1 Z (fun ad => [.ref (ad 0), .int l1]) (F_X9_count Z l1) := by
  refine gMet_intro T_X9_count T_X9_count_ok rfl (fun _ => Nat.le_of_ble_eq_true rfl) (fun g ad σ z C h => ?_)
  show g 0 [(0, .ref (ad 0)), (1, .int l1)] [] σ
  rw [F_X9_count] at h
  refine g_iload_n C 0 1 rfl rfl ?_
  by_cases hx0_0 : l1 = 0
  · rw [if_pos hx0_0] at h
    refine g_tblAt C 1 0 hx0_0 52 rfl (by decide) (by decide) rfl rfl ?_
    refine g_aload_n C 2 0 rfl rfl ?_
    refine g_getr (b := 4) C 3 rfl flX9_21 (hZ.at (i := 0) rfl) rfl ?_
    refine g_geti C 4 rfl flX9_95 (hZ.at (i := 4) rfl) rfl ?_
    exact g_ireturn C 5 rfl h
  · rw [if_neg hx0_0] at h
    by_cases hx0_1 : l1 = 1
    · rw [if_pos hx0_1] at h
      refine g_tblAt C 1 1 hx0_1 60 rfl (by decide) (by decide) rfl rfl ?_
      refine g_aload_n C 6 0 rfl rfl ?_
      refine g_getr (b := 4) C 7 rfl flX9_21 (hZ.at (i := 0) rfl) rfl ?_
      refine g_geti C 8 rfl flX9_196 (hZ.at (i := 4) rfl) rfl ?_
      exact g_ireturn C 9 rfl h
    · rw [if_neg hx0_1] at h
      by_cases hx0_2 : l1 = 2
      · rw [if_pos hx0_2] at h
        refine g_tblAt C 1 2 hx0_2 68 rfl (by decide) (by decide) rfl rfl ?_
        refine g_aload_n C 10 0 rfl rfl ?_
        refine g_getr (b := 4) C 11 rfl flX9_21 (hZ.at (i := 0) rfl) rfl ?_
        refine g_geti C 12 rfl flX9_167 (hZ.at (i := 4) rfl) rfl ?_
        exact g_ireturn C 13 rfl h
      · rw [if_neg hx0_2] at h
        by_cases hx0_3 : l1 = 3
        · rw [if_pos hx0_3] at h
          refine g_tblAt C 1 3 hx0_3 76 rfl (by decide) (by decide) rfl rfl ?_
          refine g_aload_n C 14 0 rfl rfl ?_
          refine g_getr (b := 4) C 15 rfl flX9_21 (hZ.at (i := 0) rfl) rfl ?_
          refine g_geti C 16 rfl flX9_170 (hZ.at (i := 4) rfl) rfl ?_
          exact g_ireturn C 17 rfl h
        · rw [if_neg hx0_3] at h
          by_cases hx0_4 : l1 = 4
          · rw [if_pos hx0_4] at h
            refine g_tblAt C 1 4 hx0_4 84 rfl (by decide) (by decide) rfl rfl ?_
            refine g_aload_n C 18 0 rfl rfl ?_
            refine g_getr (b := 4) C 19 rfl flX9_21 (hZ.at (i := 0) rfl) rfl ?_
            refine g_geti C 20 rfl flX9_173 (hZ.at (i := 4) rfl) rfl ?_
            exact g_ireturn C 21 rfl h
          · rw [if_neg hx0_4] at h
            by_cases hx0_5 : l1 = 5
            · rw [if_pos hx0_5] at h
              refine g_tblAt C 1 5 hx0_5 92 rfl (by decide) (by decide) rfl rfl ?_
              refine g_aload_n C 22 0 rfl rfl ?_
              refine g_getr (b := 4) C 23 rfl flX9_21 (hZ.at (i := 0) rfl) rfl ?_
              refine g_geti C 24 rfl flX9_258 (hZ.at (i := 4) rfl) rfl ?_
              exact g_ireturn C 25 rfl h
            · rw [if_neg hx0_5] at h
              by_cases hx0_6 : l1 = 6
              · rw [if_pos hx0_6] at h
                refine g_tblAt C 1 6 hx0_6 100 rfl (by decide) (by decide) rfl rfl ?_
                refine g_aload_n C 26 0 rfl rfl ?_
                refine g_geti C 27 rfl flX9_75 (hZ.at (i := 0) rfl) rfl ?_
                exact g_ireturn C 28 rfl h
              · rw [if_neg hx0_6] at h
                by_cases hx0_7 : l1 = 7
                · rw [if_pos hx0_7] at h
                  refine g_tblAt C 1 7 hx0_7 105 rfl (by decide) (by decide) rfl rfl ?_
                  refine g_aload_n C 29 0 rfl rfl ?_
                  refine g_getr (b := 34) C 30 rfl flX9_41 (hZ.at (i := 0) rfl) rfl ?_
                  refine g_geti C 31 rfl flX9_245 (hZ.at (i := 34) rfl) rfl ?_
                  exact g_ireturn C 32 rfl h
                · rw [if_neg hx0_7] at h
                  by_cases hx0_8 : l1 = 8
                  · rw [if_pos hx0_8] at h
                    refine g_tblAt C 1 8 hx0_8 113 rfl (by decide) (by decide) rfl rfl ?_
                    refine g_aload_n C 33 0 rfl rfl ?_
                    refine g_getr (b := 4) C 34 rfl flX9_21 (hZ.at (i := 0) rfl) rfl ?_
                    refine g_geti C 35 rfl flX9_151 (hZ.at (i := 4) rfl) rfl ?_
                    exact g_ireturn C 36 rfl h
                  · rw [if_neg hx0_8] at h
                    refine g_tblOut C 1 121 rfl (by have e0 := i32ne hx0_0 0 rfl; have e1 := i32ne hx0_1 1 rfl; have e2 := i32ne hx0_2 2 rfl; have e3 := i32ne hx0_3 3 rfl; have e4 := i32ne hx0_4 4 rfl; have e5 := i32ne hx0_5 5 rfl; have e6 := i32ne hx0_6 6 rfl; have e7 := i32ne hx0_7 7 rfl; have e8 := i32ne hx0_8 8 rfl; omega) rfl ?_
                    refine g_ldc C 37 rfl kcX9_94 ?_
                    exact g_ireturn C 38 rfl h
