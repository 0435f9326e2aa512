def T_X3_addStep : List (Nat × Instr × Nat) := [(0, .aload_n 0, 1), (1, .getfield 19, 3), (4, .bipush 96, 2), (6, .if_icmp .ge 23, 3), (9, .aload_n 0, 1), (10, .getfield 15, 3), (13, .aload_n 0, 1), (14, .getfield 19, 3), (17, .iload_n 1, 1), (18, .iastore, 1), (19, .aload_n 0, 1), (20, .dup, 1), (21, .getfield 19, 3), (24, .iconst 1, 1), (25, .iadd, 1), (26, .putfield 19, 3), (29, .return_, 1)]
theorem T_X3_addStep_ok : gTb cX3_addStep T_X3_addStep = true := by decide +kernel
def F_X3_addStep (Z : List gH) (l1 : Int32) (σ : gS) : Option (Int32 × gS) := if 96 ≤ (σ 36 2) then some (0, σ) else mIn 96 (σ 36 2) (mLet (gu σ 37 (nn (σ 36 2)) l1) (fun s1 => mLet (gu s1 36 2 ((s1 36 2) + 1)) (fun s2 => some (0, s2))))
set_option maxRecDepth 20000 in
set_option maxHeartbeats 4000000 in
theorem M_X3_addStep {Z : List gH} (hZ : Lay Z) (l1 : Int32) : gMet yX3_addStep cX3_addStep 2 none 1 Z (fun ad => [.ref (ad 36), .int l1]) (F_X3_addStep Z l1) := by
  refine gMet_intro T_X3_addStep T_X3_addStep_ok rfl (fun _ => Nat.le_of_ble_eq_true rfl) (fun g ad σ z C h => ?_)
  show g 0 [(0, .ref (ad 36)), (1, .int l1)] [] σ
  rw [F_X3_addStep] at h
  refine g_aload_n C 0 0 rfl rfl ?_
  refine g_geti C 1 rfl flX3_19 (hZ.at (i := 36) rfl) rfl ?_
  refine g_bipush (v := 96) C 2 rfl rfl ?_
  refine g_icmp_ge C 3 29 rfl rfl h (fun h => ?_) (fun h => ?_)
  · exact g_return C 16 rfl h
  · refine g_aload_n C 4 0 rfl rfl ?_
    refine g_getr (b := 37) C 5 rfl flX3_15 (hZ.at (i := 36) rfl) rfl ?_
    refine g_aload_n C 6 0 rfl rfl ?_
    refine g_geti C 7 rfl flX3_19 (hZ.at (i := 36) rfl) rfl ?_
    refine g_iload_n C 8 1 rfl rfl ?_
    refine g_iast C 9 rfl (hZ.at (i := 37) rfl) h (fun s1 h => ?_)
    refine g_aload_n C 10 0 rfl rfl ?_
    refine g_dup C 11 rfl rfl ?_
    refine g_geti C 12 rfl flX3_19 (hZ.at (i := 36) rfl) rfl ?_
    refine g_iconst (v := 1) C 13 rfl rfl ?_
    refine g_iadd C 14 rfl ?_
    refine g_put C 15 rfl fpX3_19 (hZ.at (i := 36) rfl) rfl rfl rfl h (fun s2 h => ?_)
    exact g_return C 16 rfl h
def T_X3_endOfRow : List (Nat × Instr × Nat) := [(0, .iload_n 1, 1), (1, .istore 4, 2), (3, .iload 4, 2), (5, .aload_n 0, 1), (6, .getfield 9, 3), (9, .getfield 70, 3), (12, .if_icmp .ge 27, 3), (15, .aload_n 0, 1), (16, .getfield 9, 3), (19, .getfield 75, 3), (22, .iload 4, 2), (24, .iaload, 1), (25, .iload_n 2, 1), (26, .iload_n 3, 1), (27, .invokestatic 78, 3), (30, .ifCond .eq 9, 3), (33, .iinc 4 1, 3), (36, .goto (-33), 3), (39, .iload 4, 2), (41, .ireturn, 1)]
theorem T_X3_endOfRow_ok : gTb cX3_endOfRow T_X3_endOfRow = true := by decide +kernel
def F_X3_endOfRow_L3 (Z : List gH) (l2 : Int32) (l3 : Int32) : Nat → Int32 → gS → Option (Int32 × gS)
  | 0, _, _ => none
  | n + 1, l4, σ => if (σ 34 1) ≤ l4 then some (l4, σ) else mIn 96 l4 (mCall (F_X9_within Z (σ 35 (nn l4)) l2 l3 σ) (fun r1 s2 => if r1 = 0 then some (l4, s2) else F_X3_endOfRow_L3 Z l2 l3 n (l4 + 1) s2))
def F_X3_endOfRow (Z : List gH) (l1 : Int32) (l2 : Int32) (l3 : Int32) (σ : gS) : Option (Int32 × gS) := F_X3_endOfRow_L3 Z l2 l3 mFuel l1 σ
set_option maxRecDepth 20000 in
set_option maxHeartbeats 4000000 in
theorem C_F_X3_endOfRow_L3 {g : Nat → List (Nat × Value) → List Value → gS → Prop} {Z : List gH} {ad : Nat → Nat} {z : Int32 × gS}  (C : gOk g T_X3_endOfRow RX3 5 (some .int) 2 Z ad z) (hZ : Lay Z) (l2 : Int32) (l3 : Int32) : ∀ (n : Nat) (l4 : Int32) (σ : gS), F_X3_endOfRow_L3 Z l2 l3 n l4 σ = some z → g 3 [(0, .ref (ad 36)), (2, .int l2), (3, .int l3), (4, .int l4)] [] σ := by
  intro n
  induction n with
  | zero => intro l4 σ h; cases h
  | succ n ih =>
    intro l4 σ h
    rw [F_X3_endOfRow_L3] at h
    refine g_iload C 2 3 rfl rfl ?_
    refine g_aload_n C 3 0 rfl rfl ?_
    refine g_getr (b := 34) C 4 rfl flX3_9 (hZ.at (i := 36) rfl) rfl ?_
    refine g_geti C 5 rfl flX3_70 (hZ.at (i := 34) rfl) rfl ?_
    refine g_icmp_ge C 6 39 rfl rfl h (fun h => ?_) (fun h => ?_)
    · refine g_iload C 18 3 rfl rfl ?_
      exact g_ireturn C 19 rfl h
    · refine g_aload_n C 7 0 rfl rfl ?_
      refine g_getr (b := 34) C 8 rfl flX3_9 (hZ.at (i := 36) rfl) rfl ?_
      refine g_getr (b := 35) C 9 rfl flX3_75 (hZ.at (i := 34) rfl) rfl ?_
      refine g_iload C 10 3 rfl rfl ?_
      refine g_iald C 11 rfl (hZ.at (i := 35) rfl) h (fun h => ?_)
      refine g_iload_n C 12 1 rfl rfl ?_
      refine g_iload_n C 13 2 rfl rfl ?_
      refine g_callSi C 14 [.int (σ 35 (nn l4)), .int l2, .int l3] [] rfl (M_X9_within hZ (σ 35 (nn l4)) l2 l3) cnX3_78 cwX9_within csX9_within rfl rfl rfl (Nat.le_of_ble_eq_true rfl) ⟨Nat.le_of_ble_eq_true rfl, Nat.le_of_ble_eq_true rfl⟩ h (fun r1 s2 h => ?_)
      refine g_if_eq C 15 39 rfl rfl h (fun h => ?_) (fun h => ?_)
      · refine g_iload C 18 3 rfl rfl ?_
        exact g_ireturn C 19 rfl h
      · refine g_iinc C 16 3 (l4 + 1) [(4, .int (l4 + 1)), (0, .ref (ad 36)), (2, .int l2), (3, .int l3)] rfl rfl (by decide) rfl rfl ?_
        refine g_goto C 17 3 rfl rfl ?_
        refine g_sub C [1, 2, 3, 0] [(0, .ref (ad 36)), (2, .int l2), (3, .int l3), (4, .int (l4 + 1))] rfl ?_
        exact ih _ _ h
set_option maxRecDepth 20000 in
set_option maxHeartbeats 4000000 in
theorem M_X3_endOfRow {Z : List gH} (hZ : Lay Z) (l1 : Int32) (l2 : Int32) (l3 : Int32) : gMet yX3_endOfRow cX3_endOfRow 5 (some .int) 2 Z (fun ad => [.ref (ad 36), .int l1, .int l2, .int l3]) (F_X3_endOfRow Z l1 l2 l3) := by
  refine gMet_intro T_X3_endOfRow T_X3_endOfRow_ok rfl (fun _ => Nat.le_of_ble_eq_true rfl) (fun g ad σ z C h => ?_)
  show g 0 [(0, .ref (ad 36)), (1, .int l1), (2, .int l2), (3, .int l3)] [] σ
  rw [F_X3_endOfRow] at h
  refine g_iload_n C 0 1 rfl rfl ?_
  refine g_istore C 1 [(4, .int l1), (0, .ref (ad 36)), (1, .int l1), (2, .int l2), (3, .int l3)] rfl (by decide) rfl ?_
  refine g_sub C [1, 3, 4, 0] [(0, .ref (ad 36)), (2, .int l2), (3, .int l3), (4, .int l1)] rfl ?_
  exact C_F_X3_endOfRow_L3 C hZ _ _ _ _ _ h
def T_X3_goOn : List (Nat × Instr × Nat) := [(0, .aload_n 0, 1), (1, .getfield 32, 3), (4, .bipush (-2), 2), (6, .if_icmp .eq 12, 3), (9, .aload_n 0, 1), (10, .getfield 32, 3), (13, .bipush (-3), 2), (15, .if_icmp .ne 7, 3), (18, .iconst 1, 1), (19, .goto 4, 3), (22, .iconst 0, 1), (23, .istore_n 1, 1), (24, .aload_n 0, 1), (25, .getfield 29, 3), (28, .istore_n 2, 1), (29, .aload_n 0, 1), (30, .aload_n 0, 1), (31, .iload_n 2, 1), (32, .bipush 32, 2), (34, .bipush 32, 2), (36, .invokevirtual 66, 3), (39, .putfield 63, 3), (42, .aload_n 0, 1), (43, .getfield 63, 3), (46, .aload_n 0, 1), (47, .getfield 9, 3), (50, .getfield 70, 3), (53, .if_icmp .lt 17, 3), (56, .aload_n 0, 1), (57, .iconst (-1), 1), (58, .putfield 32, 3), (61, .aload_n 0, 1), (62, .aload_n 0, 1), (63, .getfield 63, 3), (66, .putfield 29, 3), (69, .return_, 1), (70, .iload_n 1, 1), (71, .ifCond .eq 15, 3), (74, .aload_n 0, 1), (75, .getfield 63, 3), (78, .iload_n 2, 1), (79, .if_icmp .ne 7, 3), (82, .iconst 1, 1), (83, .goto 4, 3), (86, .iconst 0, 1), (87, .istore_n 3, 1), (88, .aload_n 0, 1), (89, .getfield 9, 3), (92, .getfield 75, 3), (95, .aload_n 0, 1), (96, .getfield 63, 3), (99, .iaload, 1), (100, .istore 4, 2), (102, .iload 4, 2), (104, .bipush 97, 2), (106, .bipush 122, 2), (108, .invokestatic 78, 3), (111, .ifCond .eq 37, 3), (114, .aload_n 0, 1), (115, .iload_n 3, 1), (116, .ifCond .eq 8, 3), (119, .bipush (-4), 2), (121, .goto 5, 3), (124, .bipush (-2), 2), (126, .putfield 32, 3), (129, .aload_n 0, 1), (130, .aload_n 0, 1), (131, .aload_n 0, 1), (132, .getfield 63, 3), (135, .bipush 97, 2), (137, .bipush 122, 2), (139, .invokevirtual 66, 3), (142, .putfield 29, 3), (145, .goto 65, 3), (148, .iload 4, 2), (150, .bipush 48, 2), (152, .bipush 57, 2), (154, .invokestatic 78, 3), (157, .ifCond .eq 37, 3), (160, .aload_n 0, 1), (161, .iload_n 3, 1), (162, .ifCond .eq 8, 3), (165, .bipush (-4), 2), (167, .goto 5, 3), (170, .bipush (-3), 2), (172, .putfield 32, 3), (175, .aload_n 0, 1), (176, .aload_n 0, 1), (177, .aload_n 0, 1), (178, .getfield 63, 3), (181, .bipush 48, 2), (183, .bipush 57, 2), (185, .invokevirtual 66, 3), (188, .putfield 29, 3), (191, .goto 19, 3), (194, .aload_n 0, 1), (195, .iload 4, 2), (197, .putfield 32, 3), (200, .aload_n 0, 1), (201, .aload_n 0, 1), (202, .getfield 63, 3), (205, .iconst 1, 1), (206, .iadd, 1), (207, .putfield 29, 3), (210, .return_, 1)]
theorem T_X3_goOn_ok : gTb cX3_goOn T_X3_goOn = true := by decide +kernel
def F_X3_goOn_J87 (Z : List gH) (t0 : Int32) (σ : gS) : Option (Int32 × gS) := mIn 96 (σ 36 6) (mLet ((σ 35 (nn (σ 36 6)))) (fun v1 => mCall (F_X9_within Z v1 97 122 σ) (fun r2 s3 => if r2 = 0 then mCall (F_X9_within Z v1 48 57 s3) (fun r4 s5 => if r4 = 0 then mLet (gu s5 36 5 v1) (fun s6 => mLet (gu s6 36 7 ((s6 36 6) + 1)) (fun s7 => some (0, s7))) else if t0 = 0 then mLet (gu s5 36 5 (-3)) (fun s8 => mCall (F_X3_endOfRow Z (s8 36 6) 48 57 s8) (fun r9 s10 => mLet (gu s10 36 7 r9) (fun s11 => some (0, s11)))) else mLet (gu s5 36 5 (-4)) (fun s12 => mCall (F_X3_endOfRow Z (s12 36 6) 48 57 s12) (fun r13 s14 => mLet (gu s14 36 7 r13) (fun s15 => some (0, s15))))) else if t0 = 0 then mLet (gu s3 36 5 (-2)) (fun s16 => mCall (F_X3_endOfRow Z (s16 36 6) 97 122 s16) (fun r17 s18 => mLet (gu s18 36 7 r17) (fun s19 => some (0, s19)))) else mLet (gu s3 36 5 (-4)) (fun s20 => mCall (F_X3_endOfRow Z (s20 36 6) 97 122 s20) (fun r21 s22 => mLet (gu s22 36 7 r21) (fun s23 => some (0, s23)))))))
def F_X3_goOn_J23 (Z : List gH) (t0 : Int32) (σ : gS) : Option (Int32 × gS) := mLet ((σ 36 7)) (fun v1 => mCall (F_X3_endOfRow Z v1 32 32 σ) (fun r2 s3 => mLet (gu s3 36 6 r2) (fun s4 => if (s4 36 6) < (s4 34 1) then if t0 = 0 then F_X3_goOn_J87 Z 0 s4 else if (s4 36 6) = v1 then F_X3_goOn_J87 Z 1 s4 else F_X3_goOn_J87 Z 0 s4 else mLet (gu s4 36 5 (-1)) (fun s5 => mLet (gu s5 36 7 (s5 36 6)) (fun s6 => some (0, s6))))))
def F_X3_goOn (Z : List gH) (σ : gS) : Option (Int32 × gS) := if (σ 36 5) = (-2) then F_X3_goOn_J23 Z 1 σ else if (σ 36 5) = (-3) then F_X3_goOn_J23 Z 1 σ else F_X3_goOn_J23 Z 0 σ
set_option maxRecDepth 20000 in
set_option maxHeartbeats 4000000 in
theorem C_F_X3_goOn_J87 {g : Nat → List (Nat × Value) → List Value → gS → Prop} {Z : List gH} {ad : Nat → Nat} {z : Int32 × gS}  (C : gOk g T_X3_goOn RX3 5 none 3 Z ad z) (hZ : Lay Z) (t0 : Int32) (σ : gS) (h : F_X3_goOn_J87 Z t0 σ = some z) : g 87 [(0, .ref (ad 36))] [.int t0] σ := by
  rw [F_X3_goOn_J87] at h
  refine g_istore_n C 45 [(3, .int t0), (0, .ref (ad 36))] rfl (by decide) rfl ?_
  refine g_aload_n C 46 1 rfl rfl ?_
  refine g_getr (b := 34) C 47 rfl flX3_9 (hZ.at (i := 36) rfl) rfl ?_
  refine g_getr (b := 35) C 48 rfl flX3_75 (hZ.at (i := 34) rfl) rfl ?_
  refine g_aload_n C 49 1 rfl rfl ?_
  refine g_geti C 50 rfl flX3_63 (hZ.at (i := 36) rfl) rfl ?_
  refine g_iald C 51 rfl (hZ.at (i := 35) rfl) h (fun h => ?_)
  refine g_let h (fun v1 h => ?_)
  refine g_istore C 52 [(4, .int v1), (3, .int t0), (0, .ref (ad 36))] rfl (by decide) rfl ?_
  refine g_iload C 53 0 rfl rfl ?_
  refine g_bipush (v := 97) C 54 rfl rfl ?_
  refine g_bipush (v := 122) C 55 rfl rfl ?_
  refine g_callSi C 56 [.int v1, .int 97, .int 122] [] rfl (M_X9_within hZ v1 97 122) cnX3_78 cwX9_within csX9_within rfl rfl rfl (Nat.le_of_ble_eq_true rfl) ⟨Nat.le_of_ble_eq_true rfl, Nat.le_of_ble_eq_true rfl⟩ h (fun r2 s3 h => ?_)
  refine g_if_eq C 57 148 rfl rfl h (fun h => ?_) (fun h => ?_)
  · refine g_iload C 74 0 rfl rfl ?_
    refine g_bipush (v := 48) C 75 rfl rfl ?_
    refine g_bipush (v := 57) C 76 rfl rfl ?_
    refine g_callSi C 77 [.int v1, .int 48, .int 57] [] rfl (M_X9_within hZ v1 48 57) cnX3_78 cwX9_within csX9_within rfl rfl rfl (Nat.le_of_ble_eq_true rfl) ⟨Nat.le_of_ble_eq_true rfl, Nat.le_of_ble_eq_true rfl⟩ h (fun r4 s5 h => ?_)
    refine g_if_eq C 78 194 rfl rfl h (fun h => ?_) (fun h => ?_)
    · refine g_aload_n C 95 2 rfl rfl ?_
      refine g_iload C 96 0 rfl rfl ?_
      refine g_put C 97 rfl fpX3_32 (hZ.at (i := 36) rfl) rfl rfl rfl h (fun s6 h => ?_)
      refine g_aload_n C 98 2 rfl rfl ?_
      refine g_aload_n C 99 2 rfl rfl ?_
      refine g_geti C 100 rfl flX3_63 (hZ.at (i := 36) rfl) rfl ?_
      refine g_iconst (v := 1) C 101 rfl rfl ?_
      refine g_iadd C 102 rfl ?_
      refine g_put C 103 rfl fpX3_29 (hZ.at (i := 36) rfl) rfl rfl rfl h (fun s7 h => ?_)
      exact g_return C 104 rfl h
    · refine g_aload_n C 79 2 rfl rfl ?_
      refine g_iload_n C 80 1 rfl rfl ?_
      refine g_if_eq C 81 170 rfl rfl h (fun h => ?_) (fun h => ?_)
      · refine g_bipush (v := (-3)) C 84 rfl rfl ?_
        refine g_put C 85 rfl fpX3_32 (hZ.at (i := 36) rfl) rfl rfl rfl h (fun s8 h => ?_)
        refine g_aload_n C 86 2 rfl rfl ?_
        refine g_aload_n C 87 2 rfl rfl ?_
        refine g_aload_n C 88 2 rfl rfl ?_
        refine g_geti C 89 rfl flX3_63 (hZ.at (i := 36) rfl) rfl ?_
        refine g_bipush (v := 48) C 90 rfl rfl ?_
        refine g_bipush (v := 57) C 91 rfl rfl ?_
        refine g_callVi C 92 [.int (s8 36 6), .int 48, .int 57] [.ref (ad 36)] rfl (M_X3_endOfRow hZ (s8 36 6) 48 57) cnX3_66 cwX3_endOfRow ciX3_endOfRow (hZ.at (i := 36) rfl) rfl rfl rfl rfl (Nat.le_of_ble_eq_true rfl) ⟨Nat.le_of_ble_eq_true rfl, Nat.le_of_ble_eq_true rfl⟩ h (fun r9 s10 h => ?_)
        refine g_put C 93 rfl fpX3_29 (hZ.at (i := 36) rfl) rfl rfl rfl h (fun s11 h => ?_)
        refine g_goto C 94 210 rfl rfl ?_
        exact g_return C 104 rfl h
      · refine g_bipush (v := (-4)) C 82 rfl rfl ?_
        refine g_goto C 83 172 rfl rfl ?_
        refine g_put C 85 rfl fpX3_32 (hZ.at (i := 36) rfl) rfl rfl rfl h (fun s12 h => ?_)
        refine g_aload_n C 86 2 rfl rfl ?_
        refine g_aload_n C 87 2 rfl rfl ?_
        refine g_aload_n C 88 2 rfl rfl ?_
        refine g_geti C 89 rfl flX3_63 (hZ.at (i := 36) rfl) rfl ?_
        refine g_bipush (v := 48) C 90 rfl rfl ?_
        refine g_bipush (v := 57) C 91 rfl rfl ?_
        refine g_callVi C 92 [.int (s12 36 6), .int 48, .int 57] [.ref (ad 36)] rfl (M_X3_endOfRow hZ (s12 36 6) 48 57) cnX3_66 cwX3_endOfRow ciX3_endOfRow (hZ.at (i := 36) rfl) rfl rfl rfl rfl (Nat.le_of_ble_eq_true rfl) ⟨Nat.le_of_ble_eq_true rfl, Nat.le_of_ble_eq_true rfl⟩ h (fun r13 s14 h => ?_)
        refine g_put C 93 rfl fpX3_29 (hZ.at (i := 36) rfl) rfl rfl rfl h (fun s15 h => ?_)
        refine g_goto C 94 210 rfl rfl ?_
        exact g_return C 104 rfl h
  · refine g_aload_n C 58 2 rfl rfl ?_
    refine g_iload_n C 59 1 rfl rfl ?_
    refine g_if_eq C 60 124 rfl rfl h (fun h => ?_) (fun h => ?_)
    · refine g_bipush (v := (-2)) C 63 rfl rfl ?_
      refine g_put C 64 rfl fpX3_32 (hZ.at (i := 36) rfl) rfl rfl rfl h (fun s16 h => ?_)
      refine g_aload_n C 65 2 rfl rfl ?_
      refine g_aload_n C 66 2 rfl rfl ?_
      refine g_aload_n C 67 2 rfl rfl ?_
      refine g_geti C 68 rfl flX3_63 (hZ.at (i := 36) rfl) rfl ?_
      refine g_bipush (v := 97) C 69 rfl rfl ?_
      refine g_bipush (v := 122) C 70 rfl rfl ?_
      refine g_callVi C 71 [.int (s16 36 6), .int 97, .int 122] [.ref (ad 36)] rfl (M_X3_endOfRow hZ (s16 36 6) 97 122) cnX3_66 cwX3_endOfRow ciX3_endOfRow (hZ.at (i := 36) rfl) rfl rfl rfl rfl (Nat.le_of_ble_eq_true rfl) ⟨Nat.le_of_ble_eq_true rfl, Nat.le_of_ble_eq_true rfl⟩ h (fun r17 s18 h => ?_)
      refine g_put C 72 rfl fpX3_29 (hZ.at (i := 36) rfl) rfl rfl rfl h (fun s19 h => ?_)
      refine g_goto C 73 210 rfl rfl ?_
      exact g_return C 104 rfl h
    · refine g_bipush (v := (-4)) C 61 rfl rfl ?_
      refine g_goto C 62 126 rfl rfl ?_
      refine g_put C 64 rfl fpX3_32 (hZ.at (i := 36) rfl) rfl rfl rfl h (fun s20 h => ?_)
      refine g_aload_n C 65 2 rfl rfl ?_
      refine g_aload_n C 66 2 rfl rfl ?_
      refine g_aload_n C 67 2 rfl rfl ?_
      refine g_geti C 68 rfl flX3_63 (hZ.at (i := 36) rfl) rfl ?_
      refine g_bipush (v := 97) C 69 rfl rfl ?_
      refine g_bipush (v := 122) C 70 rfl rfl ?_
      refine g_callVi C 71 [.int (s20 36 6), .int 97, .int 122] [.ref (ad 36)] rfl (M_X3_endOfRow hZ (s20 36 6) 97 122) cnX3_66 cwX3_endOfRow ciX3_endOfRow (hZ.at (i := 36) rfl) rfl rfl rfl rfl (Nat.le_of_ble_eq_true rfl) ⟨Nat.le_of_ble_eq_true rfl, Nat.le_of_ble_eq_true rfl⟩ h (fun r21 s22 h => ?_)
      refine g_put C 72 rfl fpX3_29 (hZ.at (i := 36) rfl) rfl rfl rfl h (fun s23 h => ?_)
      refine g_goto C 73 210 rfl rfl ?_
      exact g_return C 104 rfl h
set_option maxRecDepth 20000 in
set_option maxHeartbeats 4000000 in
theorem C_F_X3_goOn_J23 {g : Nat → List (Nat × Value) → List Value → gS → Prop} {Z : List gH} {ad : Nat → Nat} {z : Int32 × gS}  (C : gOk g T_X3_goOn RX3 5 none 3 Z ad z) (hZ : Lay Z) (t0 : Int32) (σ : gS) (h : F_X3_goOn_J23 Z t0 σ = some z) : g 23 [(0, .ref (ad 36))] [.int t0] σ := by
  rw [F_X3_goOn_J23] at h
  refine g_istore_n C 11 [(1, .int t0), (0, .ref (ad 36))] rfl (by decide) rfl ?_
  refine g_aload_n C 12 1 rfl rfl ?_
  refine g_geti C 13 rfl flX3_29 (hZ.at (i := 36) rfl) rfl ?_
  refine g_let h (fun v1 h => ?_)
  refine g_istore_n C 14 [(2, .int v1), (1, .int t0), (0, .ref (ad 36))] rfl (by decide) rfl ?_
  refine g_aload_n C 15 2 rfl rfl ?_
  refine g_aload_n C 16 2 rfl rfl ?_
  refine g_iload_n C 17 0 rfl rfl ?_
  refine g_bipush (v := 32) C 18 rfl rfl ?_
  refine g_bipush (v := 32) C 19 rfl rfl ?_
  refine g_callVi C 20 [.int v1, .int 32, .int 32] [.ref (ad 36)] rfl (M_X3_endOfRow hZ v1 32 32) cnX3_66 cwX3_endOfRow ciX3_endOfRow (hZ.at (i := 36) rfl) rfl rfl rfl rfl (Nat.le_of_ble_eq_true rfl) ⟨Nat.le_of_ble_eq_true rfl, Nat.le_of_ble_eq_true rfl⟩ h (fun r2 s3 h => ?_)
  refine g_put C 21 rfl fpX3_63 (hZ.at (i := 36) rfl) rfl rfl rfl h (fun s4 h => ?_)
  refine g_aload_n C 22 2 rfl rfl ?_
  refine g_geti C 23 rfl flX3_63 (hZ.at (i := 36) rfl) rfl ?_
  refine g_aload_n C 24 2 rfl rfl ?_
  refine g_getr (b := 34) C 25 rfl flX3_9 (hZ.at (i := 36) rfl) rfl ?_
  refine g_geti C 26 rfl flX3_70 (hZ.at (i := 34) rfl) rfl ?_
  refine g_icmp_lt C 27 70 rfl rfl h (fun h => ?_) (fun h => ?_)
  · refine g_iload_n C 36 1 rfl rfl ?_
    refine g_if_eq C 37 86 rfl rfl h (fun h => ?_) (fun h => ?_)
    · refine g_iconst (v := 0) C 44 rfl rfl ?_
      refine g_sub C [2] [(0, .ref (ad 36))] rfl ?_
      exact C_F_X3_goOn_J87 C hZ _ _ h
    · refine g_aload_n C 38 2 rfl rfl ?_
      refine g_geti C 39 rfl flX3_63 (hZ.at (i := 36) rfl) rfl ?_
      refine g_iload_n C 40 0 rfl rfl ?_
      refine g_icmp_ne C 41 86 rfl rfl h (fun h => ?_) (fun h => ?_)
      · refine g_iconst (v := 0) C 44 rfl rfl ?_
        refine g_sub C [2] [(0, .ref (ad 36))] rfl ?_
        exact C_F_X3_goOn_J87 C hZ _ _ h
      · refine g_iconst (v := 1) C 42 rfl rfl ?_
        refine g_goto C 43 87 rfl rfl ?_
        refine g_sub C [2] [(0, .ref (ad 36))] rfl ?_
        exact C_F_X3_goOn_J87 C hZ _ _ h
  · refine g_aload_n C 28 2 rfl rfl ?_
    refine g_iconst (v := (-1)) C 29 rfl rfl ?_
    refine g_put C 30 rfl fpX3_32 (hZ.at (i := 36) rfl) rfl rfl rfl h (fun s5 h => ?_)
    refine g_aload_n C 31 2 rfl rfl ?_
    refine g_aload_n C 32 2 rfl rfl ?_
    refine g_geti C 33 rfl flX3_63 (hZ.at (i := 36) rfl) rfl ?_
    refine g_put C 34 rfl fpX3_29 (hZ.at (i := 36) rfl) rfl rfl rfl h (fun s6 h => ?_)
    exact g_return C 35 rfl h
set_option maxRecDepth 20000 in
set_option maxHeartbeats 4000000 in
theorem M_X3_goOn {Z : List gH} (hZ : Lay Z) : gMet yX3_goOn cX3_goOn 5 none 3 Z (fun ad => [.ref (ad 36)]) (F_X3_goOn Z) := by
  refine gMet_intro T_X3_goOn T_X3_goOn_ok rfl (fun _ => Nat.le_of_ble_eq_true rfl) (fun g ad σ z C h => ?_)
  show g 0 [(0, .ref (ad 36))] [] σ
  rw [F_X3_goOn] at h
  refine g_aload_n C 0 0 rfl rfl ?_
  refine g_geti C 1 rfl flX3_32 (hZ.at (i := 36) rfl) rfl ?_
  refine g_bipush (v := (-2)) C 2 rfl rfl ?_
  refine g_icmp_eq C 3 18 rfl rfl h (fun h => ?_) (fun h => ?_)
  · refine g_iconst (v := 1) C 8 rfl rfl ?_
    refine g_goto C 9 23 rfl rfl ?_
    exact C_F_X3_goOn_J23 C hZ _ _ h
  · refine g_aload_n C 4 0 rfl rfl ?_
    refine g_geti C 5 rfl flX3_32 (hZ.at (i := 36) rfl) rfl ?_
    refine g_bipush (v := (-3)) C 6 rfl rfl ?_
    refine g_icmp_ne C 7 22 rfl rfl h (fun h => ?_) (fun h => ?_)
    · refine g_iconst (v := 0) C 10 rfl rfl ?_
      exact C_F_X3_goOn_J23 C hZ _ _ h
    · refine g_iconst (v := 1) C 8 rfl rfl ?_
      refine g_goto C 9 23 rfl rfl ?_
      exact C_F_X3_goOn_J23 C hZ _ _ h
def T_X3_addOperand : List (Nat × Instr × Nat) := [(0, .aload_n 0, 1), (1, .iload_n 1, 1), (2, .invokevirtual 118, 3), (5, .aload_n 0, 1), (6, .dup, 1), (7, .getfield 23, 3), (10, .iconst 1, 1), (11, .iadd, 1), (12, .putfield 23, 3), (15, .aload_n 0, 1), (16, .invokevirtual 35, 3), (19, .return_, 1)]
theorem T_X3_addOperand_ok : gTb cX3_addOperand T_X3_addOperand = true := by decide +kernel
def F_X3_addOperand (Z : List gH) (l1 : Int32) (σ : gS) : Option (Int32 × gS) := mCall (F_X3_addStep Z l1 σ) (fun r1 s2 => mLet (gu s2 36 3 ((s2 36 3) + 1)) (fun s3 => mCall (F_X3_goOn Z s3) (fun r4 s5 => some (0, s5))))
set_option maxRecDepth 20000 in
set_option maxHeartbeats 4000000 in
theorem M_X3_addOperand {Z : List gH} (hZ : Lay Z) (l1 : Int32) : gMet yX3_addOperand cX3_addOperand 2 none 4 Z (fun ad => [.ref (ad 36), .int l1]) (F_X3_addOperand Z l1) := by
  refine gMet_intro T_X3_addOperand T_X3_addOperand_ok rfl (fun _ => Nat.le_of_ble_eq_true rfl) (fun g ad σ z C h => ?_)
  show g 0 [(0, .ref (ad 36)), (1, .int l1)] [] σ
  rw [F_X3_addOperand] at h
  refine g_aload_n C 0 0 rfl rfl ?_
  refine g_iload_n C 1 1 rfl rfl ?_
  refine g_callVv C 2 [.int l1] [] rfl (M_X3_addStep hZ l1) cnX3_118 cwX3_addStep ciX3_addStep (hZ.at (i := 36) rfl) rfl rfl rfl rfl (Nat.le_of_ble_eq_true rfl) ⟨Nat.le_of_ble_eq_true rfl, Nat.le_of_ble_eq_true rfl⟩ h (fun r1 s2 h => ?_)
  refine g_aload_n C 3 0 rfl rfl ?_
  refine g_dup C 4 rfl rfl ?_
  refine g_geti C 5 rfl flX3_23 (hZ.at (i := 36) rfl) rfl ?_
  refine g_iconst (v := 1) C 6 rfl rfl ?_
  refine g_iadd C 7 rfl ?_
  refine g_put C 8 rfl fpX3_23 (hZ.at (i := 36) rfl) rfl rfl rfl h (fun s3 h => ?_)
  refine g_aload_n C 9 0 rfl rfl ?_
  refine g_callVv C 10 [] [] rfl (M_X3_goOn hZ) cnX3_35 cwX3_goOn ciX3_goOn (hZ.at (i := 36) rfl) rfl rfl rfl rfl (Nat.le_of_ble_eq_true rfl) ⟨Nat.le_of_ble_eq_true rfl, Nat.le_of_ble_eq_true rfl⟩ h (fun r4 s5 h => ?_)
  exact g_return C 11 rfl h
def T_X3_stop : List (Nat × Instr × Nat) := [(0, .aload_n 0, 1), (1, .getfield 26, 3), (4, .ifCond .ge 11, 3), (7, .aload_n 0, 1), (8, .aload_n 0, 1), (9, .getfield 63, 3), (12, .putfield 26, 3), (15, .aload_n 0, 1), (16, .bipush (-5), 2), (18, .putfield 32, 3), (21, .return_, 1)]
theorem T_X3_stop_ok : gTb cX3_stop T_X3_stop = true := by decide +kernel
def F_X3_stop (Z : List gH) (σ : gS) : Option (Int32 × gS) := if 0 ≤ (σ 36 8) then mLet (gu σ 36 5 (-5)) (fun s1 => some (0, s1)) else mLet (gu σ 36 8 (σ 36 6)) (fun s2 => mLet (gu s2 36 5 (-5)) (fun s3 => some (0, s3)))
set_option maxRecDepth 20000 in
set_option maxHeartbeats 4000000 in
theorem M_X3_stop {Z : List gH} (hZ : Lay Z) : gMet yX3_stop cX3_stop 1 none 1 Z (fun ad => [.ref (ad 36)]) (F_X3_stop Z) := by
  refine gMet_intro T_X3_stop T_X3_stop_ok rfl (fun _ => Nat.le_of_ble_eq_true rfl) (fun g ad σ z C h => ?_)
  show g 0 [(0, .ref (ad 36))] [] σ
  rw [F_X3_stop] at h
  refine g_aload_n C 0 0 rfl rfl ?_
  refine g_geti C 1 rfl flX3_26 (hZ.at (i := 36) rfl) rfl ?_
  refine g_if_ge C 2 15 rfl rfl h (fun h => ?_) (fun h => ?_)
  · refine g_aload_n C 7 0 rfl rfl ?_
    refine g_bipush (v := (-5)) C 8 rfl rfl ?_
    refine g_put C 9 rfl fpX3_32 (hZ.at (i := 36) rfl) rfl rfl rfl h (fun s1 h => ?_)
    exact g_return C 10 rfl h
  · refine g_aload_n C 3 0 rfl rfl ?_
    refine g_aload_n C 4 0 rfl rfl ?_
    refine g_geti C 5 rfl flX3_63 (hZ.at (i := 36) rfl) rfl ?_
    refine g_put C 6 rfl fpX3_26 (hZ.at (i := 36) rfl) rfl rfl rfl h (fun s2 h => ?_)
    refine g_aload_n C 7 0 rfl rfl ?_
    refine g_bipush (v := (-5)) C 8 rfl rfl ?_
    refine g_put C 9 rfl fpX3_32 (hZ.at (i := 36) rfl) rfl rfl rfl h (fun s3 h => ?_)
    exact g_return C 10 rfl h
def T_X3_numberRead : List (Nat × Instr × Nat) := [(0, .iconst 0, 1), (1, .istore_n 1, 1), (2, .aload_n 0, 1), (3, .getfield 63, 3), (6, .istore_n 2, 1), (7, .iload_n 2, 1), (8, .aload_n 0, 1), (9, .getfield 29, 3), (12, .if_icmp .ge 27, 3), (15, .iload_n 1, 1), (16, .bipush 10, 2), (18, .imul, 1), (19, .aload_n 0, 1), (20, .getfield 9, 3), (23, .getfield 75, 3), (26, .iload_n 2, 1), (27, .iaload, 1), (28, .iadd, 1), (29, .bipush 48, 2), (31, .isub, 1), (32, .istore_n 1, 1), (33, .iinc 2 1, 3), (36, .goto (-29), 3), (39, .iload_n 1, 1), (40, .ireturn, 1)]
theorem T_X3_numberRead_ok : gTb cX3_numberRead T_X3_numberRead = true := by decide +kernel
def F_X3_numberRead_L7 (Z : List gH) : Nat → Int32 → Int32 → gS → Option (Int32 × gS)
  | 0, _, _, _ => none
  | n + 1, l1, l2, σ => if (σ 36 7) ≤ l2 then some (l1, σ) else mIn 96 l2 (mLet ((((l1 * 10) + (σ 35 (nn l2))) - 48)) (fun v1 => F_X3_numberRead_L7 Z n v1 (l2 + 1) σ))
def F_X3_numberRead (Z : List gH) (σ : gS) : Option (Int32 × gS) := mLet ((σ 36 6)) (fun v1 => F_X3_numberRead_L7 Z mFuel 0 v1 σ)
set_option maxRecDepth 20000 in
set_option maxHeartbeats 4000000 in
theorem C_F_X3_numberRead_L7 {g : Nat → List (Nat × Value) → List Value → gS → Prop} {Z : List gH} {ad : Nat → Nat} {z : Int32 × gS}  (C : gOk g T_X3_numberRead RX3 3 (some .int) 1 Z ad z) (hZ : Lay Z) : ∀ (n : Nat) (l1 : Int32) (l2 : Int32) (σ : gS), F_X3_numberRead_L7 Z n l1 l2 σ = some z → g 7 [(0, .ref (ad 36)), (1, .int l1), (2, .int l2)] [] σ := by
  intro n
  induction n with
  | zero => intro l1 l2 σ h; cases h
  | succ n ih =>
    intro l1 l2 σ h
    rw [F_X3_numberRead_L7] at h
    refine g_iload_n C 5 2 rfl rfl ?_
    refine g_aload_n C 6 0 rfl rfl ?_
    refine g_geti C 7 rfl flX3_29 (hZ.at (i := 36) rfl) rfl ?_
    refine g_icmp_ge C 8 39 rfl rfl h (fun h => ?_) (fun h => ?_)
    · refine g_iload_n C 23 1 rfl rfl ?_
      exact g_ireturn C 24 rfl h
    · refine g_iload_n C 9 1 rfl rfl ?_
      refine g_bipush (v := 10) C 10 rfl rfl ?_
      refine g_imul C 11 rfl ?_
      refine g_aload_n C 12 0 rfl rfl ?_
      refine g_getr (b := 34) C 13 rfl flX3_9 (hZ.at (i := 36) rfl) rfl ?_
      refine g_getr (b := 35) C 14 rfl flX3_75 (hZ.at (i := 34) rfl) rfl ?_
      refine g_iload_n C 15 2 rfl rfl ?_
      refine g_iald C 16 rfl (hZ.at (i := 35) rfl) h (fun h => ?_)
      refine g_iadd C 17 rfl ?_
      refine g_bipush (v := 48) C 18 rfl rfl ?_
      refine g_isub C 19 rfl ?_
      refine g_let h (fun v1 h => ?_)
      refine g_istore_n C 20 [(1, .int v1), (0, .ref (ad 36)), (2, .int l2)] rfl (by decide) rfl ?_
      refine g_iinc C 21 2 (l2 + 1) [(2, .int (l2 + 1)), (1, .int v1), (0, .ref (ad 36))] rfl rfl (by decide) rfl rfl ?_
      refine g_goto C 22 7 rfl rfl ?_
      refine g_sub C [2, 1, 0] [(0, .ref (ad 36)), (1, .int v1), (2, .int (l2 + 1))] rfl ?_
      exact ih _ _ _ h
set_option maxRecDepth 20000 in
set_option maxHeartbeats 4000000 in
theorem M_X3_numberRead {Z : List gH} (hZ : Lay Z) : gMet yX3_numberRead cX3_numberRead 3 (some .int) 1 Z (fun ad => [.ref (ad 36)]) (F_X3_numberRead Z) := by
  refine gMet_intro T_X3_numberRead T_X3_numberRead_ok rfl (fun _ => Nat.le_of_ble_eq_true rfl) (fun g ad σ z C h => ?_)
  show g 0 [(0, .ref (ad 36))] [] σ
  rw [F_X3_numberRead] at h
  refine g_iconst (v := 0) C 0 rfl rfl ?_
  refine g_istore_n C 1 [(1, .int 0), (0, .ref (ad 36))] rfl (by decide) rfl ?_
  refine g_aload_n C 2 1 rfl rfl ?_
  refine g_geti C 3 rfl flX3_63 (hZ.at (i := 36) rfl) rfl ?_
  refine g_let h (fun v1 h => ?_)
  refine g_istore_n C 4 [(2, .int v1), (1, .int 0), (0, .ref (ad 36))] rfl (by decide) rfl ?_
  refine g_sub C [2, 1, 0] [(0, .ref (ad 36)), (1, .int 0), (2, .int v1)] rfl ?_
  exact C_F_X3_numberRead_L7 C hZ _ _ _ _ h
def T_X3_isSignOf : List (Nat × Instr × Nat) := [(0, .iload_n 1, 1), (1, .tableswitch 146 0 4 #[35, 50, 65, 98, 122], 35), (36, .aload_n 0, 1), (37, .getfield 32, 3), (40, .bipush 124, 2), (42, .if_icmp .ne 7, 3), (45, .iconst 1, 1), (46, .goto 4, 3), (49, .iconst 0, 1), (50, .ireturn, 1), (51, .aload_n 0, 1), (52, .getfield 32, 3), (55, .bipush 38, 2), (57, .if_icmp .ne 7, 3), (60, .iconst 1, 1), (61, .goto 4, 3), (64, .iconst 0, 1), (65, .ireturn, 1), (66, .aload_n 0, 1), (67, .getfield 32, 3), (70, .bipush 60, 2), (72, .if_icmp .eq 21, 3), (75, .aload_n 0, 1), (76, .getfield 32, 3), (79, .bipush 61, 2), (81, .if_icmp .eq 12, 3), (84, .aload_n 0, 1), (85, .getfield 32, 3), (88, .bipush 62, 2), (90, .if_icmp .ne 7, 3), (93, .iconst 1, 1), (94, .goto 4, 3), (97, .iconst 0, 1), (98, .ireturn, 1), (99, .aload_n 0, 1), (100, .getfield 32, 3), (103, .bipush 43, 2), (105, .if_icmp .eq 12, 3), (108, .aload_n 0, 1), (109, .getfield 32, 3), (112, .bipush 45, 2), (114, .if_icmp .ne 7, 3), (117, .iconst 1, 1), (118, .goto 4, 3), (121, .iconst 0, 1), (122, .ireturn, 1), (123, .aload_n 0, 1), (124, .getfield 32, 3), (127, .bipush 42, 2), (129, .if_icmp .eq 12, 3), (132, .aload_n 0, 1), (133, .getfield 32, 3), (136, .bipush 47, 2), (138, .if_icmp .ne 7, 3), (141, .iconst 1, 1), (142, .goto 4, 3), (145, .iconst 0, 1), (146, .ireturn, 1), (147, .iconst 0, 1), (148, .ireturn, 1)]
theorem T_X3_isSignOf_ok : gTb cX3_isSignOf T_X3_isSignOf = true := by decide +kernel
def F_X3_isSignOf (Z : List gH) (l1 : Int32) (σ : gS) : Option (Int32 × gS) := if l1 = 0 then if (σ 36 5) = 124 then mZ 1 σ else mZ 0 σ else if l1 = 1 then if (σ 36 5) = 38 then mZ 1 σ else mZ 0 σ else if l1 = 2 then if (σ 36 5) = 60 then mZ 1 σ else if (σ 36 5) = 61 then mZ 1 σ else if (σ 36 5) = 62 then mZ 1 σ else mZ 0 σ else if l1 = 3 then if (σ 36 5) = 43 then mZ 1 σ else if (σ 36 5) = 45 then mZ 1 σ else mZ 0 σ else if l1 = 4 then if (σ 36 5) = 42 then mZ 1 σ else if (σ 36 5) = 47 then mZ 1 σ else mZ 0 σ else mZ 0 σ
set_option maxRecDepth 20000 in
set_option maxHeartbeats 4000000 in
theorem M_X3_isSignOf {Z : List gH} (hZ : Lay Z) (l1 : Int32) : gMet yX3_isSignOf cX3_isSignOf 2 (some .boolean) 1 Z (fun ad => [.ref (ad 36), .int l1]) (F_X3_isSignOf Z l1) := by
  refine gMet_intro T_X3_isSignOf T_X3_isSignOf_ok rfl (fun _ => Nat.le_of_ble_eq_true rfl) (fun g ad σ z C h => ?_)
  show g 0 [(0, .ref (ad 36)), (1, .int l1)] [] σ
  rw [F_X3_isSignOf] at h
  refine g_iload_n C 0 1 rfl rfl ?_
  by_cases hx0_0 : l1 = 0
  · rw [if_pos hx0_0] at h
    refine g_tblAt C 1 0 hx0_0 36 rfl (by decide) (by decide) rfl rfl ?_
    refine g_aload_n C 2 0 rfl rfl ?_
    refine g_geti C 3 rfl flX3_32 (hZ.at (i := 36) rfl) rfl ?_
    refine g_bipush (v := 124) C 4 rfl rfl ?_
    refine g_icmp_ne C 5 49 rfl rfl h (fun h => ?_) (fun h => ?_)
    · refine g_iconst (v := 0) C 8 rfl rfl ?_
      exact g_zreturn C 9 rfl h
    · refine g_iconst (v := 1) C 6 rfl rfl ?_
      refine g_goto C 7 50 rfl rfl ?_
      exact g_zreturn C 9 rfl h
  · rw [if_neg hx0_0] at h
    by_cases hx0_1 : l1 = 1
    · rw [if_pos hx0_1] at h
      refine g_tblAt C 1 1 hx0_1 51 rfl (by decide) (by decide) rfl rfl ?_
      refine g_aload_n C 10 0 rfl rfl ?_
      refine g_geti C 11 rfl flX3_32 (hZ.at (i := 36) rfl) rfl ?_
      refine g_bipush (v := 38) C 12 rfl rfl ?_
      refine g_icmp_ne C 13 64 rfl rfl h (fun h => ?_) (fun h => ?_)
      · refine g_iconst (v := 0) C 16 rfl rfl ?_
        exact g_zreturn C 17 rfl h
      · refine g_iconst (v := 1) C 14 rfl rfl ?_
        refine g_goto C 15 65 rfl rfl ?_
        exact g_zreturn C 17 rfl h
    · rw [if_neg hx0_1] at h
      by_cases hx0_2 : l1 = 2
      · rw [if_pos hx0_2] at h
        refine g_tblAt C 1 2 hx0_2 66 rfl (by decide) (by decide) rfl rfl ?_
        refine g_aload_n C 18 0 rfl rfl ?_
        refine g_geti C 19 rfl flX3_32 (hZ.at (i := 36) rfl) rfl ?_
        refine g_bipush (v := 60) C 20 rfl rfl ?_
        refine g_icmp_eq C 21 93 rfl rfl h (fun h => ?_) (fun h => ?_)
        · refine g_iconst (v := 1) C 30 rfl rfl ?_
          refine g_goto C 31 98 rfl rfl ?_
          exact g_zreturn C 33 rfl h
        · refine g_aload_n C 22 0 rfl rfl ?_
          refine g_geti C 23 rfl flX3_32 (hZ.at (i := 36) rfl) rfl ?_
          refine g_bipush (v := 61) C 24 rfl rfl ?_
          refine g_icmp_eq C 25 93 rfl rfl h (fun h => ?_) (fun h => ?_)
          · refine g_iconst (v := 1) C 30 rfl rfl ?_
            refine g_goto C 31 98 rfl rfl ?_
            exact g_zreturn C 33 rfl h
          · refine g_aload_n C 26 0 rfl rfl ?_
            refine g_geti C 27 rfl flX3_32 (hZ.at (i := 36) rfl) rfl ?_
            refine g_bipush (v := 62) C 28 rfl rfl ?_
            refine g_icmp_ne C 29 97 rfl rfl h (fun h => ?_) (fun h => ?_)
            · refine g_iconst (v := 0) C 32 rfl rfl ?_
              exact g_zreturn C 33 rfl h
            · refine g_iconst (v := 1) C 30 rfl rfl ?_
              refine g_goto C 31 98 rfl rfl ?_
              exact g_zreturn C 33 rfl h
      · rw [if_neg hx0_2] at h
        by_cases hx0_3 : l1 = 3
        · rw [if_pos hx0_3] at h
          refine g_tblAt C 1 3 hx0_3 99 rfl (by decide) (by decide) rfl rfl ?_
          refine g_aload_n C 34 0 rfl rfl ?_
          refine g_geti C 35 rfl flX3_32 (hZ.at (i := 36) rfl) rfl ?_
          refine g_bipush (v := 43) C 36 rfl rfl ?_
          refine g_icmp_eq C 37 117 rfl rfl h (fun h => ?_) (fun h => ?_)
          · refine g_iconst (v := 1) C 42 rfl rfl ?_
            refine g_goto C 43 122 rfl rfl ?_
            exact g_zreturn C 45 rfl h
          · refine g_aload_n C 38 0 rfl rfl ?_
            refine g_geti C 39 rfl flX3_32 (hZ.at (i := 36) rfl) rfl ?_
            refine g_bipush (v := 45) C 40 rfl rfl ?_
            refine g_icmp_ne C 41 121 rfl rfl h (fun h => ?_) (fun h => ?_)
            · refine g_iconst (v := 0) C 44 rfl rfl ?_
              exact g_zreturn C 45 rfl h
            · refine g_iconst (v := 1) C 42 rfl rfl ?_
              refine g_goto C 43 122 rfl rfl ?_
              exact g_zreturn C 45 rfl h
        · rw [if_neg hx0_3] at h
          by_cases hx0_4 : l1 = 4
          · rw [if_pos hx0_4] at h
            refine g_tblAt C 1 4 hx0_4 123 rfl (by decide) (by decide) rfl rfl ?_
            refine g_aload_n C 46 0 rfl rfl ?_
            refine g_geti C 47 rfl flX3_32 (hZ.at (i := 36) rfl) rfl ?_
            refine g_bipush (v := 42) C 48 rfl rfl ?_
            refine g_icmp_eq C 49 141 rfl rfl h (fun h => ?_) (fun h => ?_)
            · refine g_iconst (v := 1) C 54 rfl rfl ?_
              refine g_goto C 55 146 rfl rfl ?_
              exact g_zreturn C 57 rfl h
            · refine g_aload_n C 50 0 rfl rfl ?_
              refine g_geti C 51 rfl flX3_32 (hZ.at (i := 36) rfl) rfl ?_
              refine g_bipush (v := 47) C 52 rfl rfl ?_
              refine g_icmp_ne C 53 145 rfl rfl h (fun h => ?_) (fun h => ?_)
              · refine g_iconst (v := 0) C 56 rfl rfl ?_
                exact g_zreturn C 57 rfl h
              · refine g_iconst (v := 1) C 54 rfl rfl ?_
                refine g_goto C 55 146 rfl rfl ?_
                exact g_zreturn C 57 rfl h
          · rw [if_neg hx0_4] at h
            refine g_tblOut C 1 147 rfl (by have e0 := i32ne hx0_0 0 rfl; have e1 := i32ne hx0_1 1 rfl; have e2 := i32ne hx0_2 2 rfl; have e3 := i32ne hx0_3 3 rfl; have e4 := i32ne hx0_4 4 rfl; omega) rfl ?_
            refine g_iconst (v := 0) C 58 rfl rfl ?_
            exact g_zreturn C 59 rfl h
