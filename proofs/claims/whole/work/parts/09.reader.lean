def T_X3_addStep : List (Nat × Instr × Nat) := [(0, .aload_n 0, 1), (1, .getfield 19, 3), (4, .bipush 96, 2), (6, .if_icmp .ge 23, 3), (9, .aload_n 0, 1), (10, .getfield 15, 3), (13, .aload_n 0, 1), (14, .getfield 19, 3), (17, .iload_n 1, 1), (18, .iastore, 1), (19, .aload_n 0, 1), (20, .dup, 1), (21, .getfield 19, 3), (24, .iconst 1, 1), (25, .iadd, 1), (26, .putfield 19, 3), (29, .return_, 1)]
theorem T_X3_addStep_ok : gTb cX3_addStep T_X3_addStep = true := by decide +kernel
def F_X3_addStep (Z : List gH) (l1 : Int32) (σ : gS) : Option (Int32 × gS) := if 96 ≤ (σ 36 2) then some (0, σ) else mIn 96 (σ 36 2) (mLet (gu σ 37 (nn (σ 36 2)) l1) (fun s1 => mLet (gu s1 36 2 ((s1 36 2) + 1)) (fun s2 => some (0, s2))))
set_option maxRecDepth 20000 in
set_option maxHeartbeats 4000000 in
theorem M_X3_addStep {Z : List gH} (hZ : Lay Z) (l1 : Int32) : gMet yX3_addStep cX3_addStep 2 none 1 Z (fun ad => [.ref (ad 36), .int l1]) (F_X3_addStep Z l1) := by
  refine gMet_intro T_X3_addStep T_X3_addStep_ok rfl (fun _ => Nat.le_of_ble_eq_true rfl) (fun g ad σ z C h => ?_)
  show g 0 [(0, .ref (ad 36)), (1, .int l1)] [] σ
  rw [F_X3_addStep] at h
  refine g_aload_n C 0 0 rfl rfl ?_
  refine g_geti C 1 rfl flX3_19 (hZ.at (i := 36) rfl) rfl ?_
  refine g_bipush (v := 96) C 2 rfl rfl ?_
  refine g_icmp_ge C 3 29 rfl rfl h (fun h => ?_) (fun h => ?_)
  · exact g_return C 16 rfl h
  · refine g_aload_n C 4 0 rfl rfl ?_
    refine g_getr (b := 37) C 5 rfl flX3_15 (hZ.at (i := 36) rfl) rfl ?_
    refine g_aload_n C 6 0 rfl rfl ?_
    refine g_geti C 7 rfl flX3_19 (hZ.at (i := 36) rfl) rfl ?_
    refine g_iload_n C 8 1 rfl rfl ?_
    refine g_iast C 9 rfl (hZ.at (i := 37) rfl) h (fun s1 h => ?_)
    refine g_aload_n C 10 0 rfl rfl ?_
    refine g_dup C 11 rfl rfl ?_
    refine g_geti C 12 rfl flX3_19 (hZ.at (i := 36) rfl) rfl ?_
    refine g_iconst (v := 1) C 13 rfl rfl ?_
    refine g_iadd C 14 rfl ?_
    refine g_put C 15 rfl fpX3_19 (hZ.at (i := 36) rfl) rfl rfl rfl h (fun s2 h => ?_)
    exact g_return C 16 rfl h
def T_X3_endOfRow : List (Nat × Instr × Nat) := [(0, .iload_n 1, 1), (1, .istore 4, 2), (3, .iload 4, 2), (5, .aload_n 0, 1), (6, .getfield 9, 3), (9, .getfield 70, 3), (12, .if_icmp .ge 27, 3), (15, .aload_n 0, 1), (16, .getfield 9, 3), (19, .getfield 75, 3), (22, .iload 4, 2), (24, .iaload, 1), (25, .iload_n 2, 1), (26, .iload_n 3, 1), (27, .invokestatic 78, 3), (30, .ifCond .eq 9, 3), (33, .iinc 4 1, 3), (36, .goto (-33), 3), (39, .iload 4, 2), (41, .ireturn, 1)]
theorem T_X3_endOfRow_ok : gTb cX3_endOfRow T_X3_endOfRow = true := by decide +kernel
def F_X3_endOfRow_L3 (Z : List gH) (l2 : Int32) (l3 : Int32) : Nat → Int32 → gS → Option (Int32 × gS)
  | 0, _, _ => none
  | n + 1, l4, σ => if (σ 34 1) ≤ l4 then some (l4, σ) else mIn 96 l4 (mCall (F_X9_within Z (σ 35 (nn l4)) l2 l3 σ) (fun r1 s2 => if r1 = 0 then some (l4, s2) else F_X3_endOfRow_L3 Z l2 l3 n (l4 + 1) s2))
def F_X3_endOfRow (Z : List gH) (l1 : Int32) (l2 : Int32) (l3 : Int32) (σ : gS) : Option (Int32 × gS) := F_X3_endOfRow_L3 Z l2 l3 mFuel l1 σ
set_option maxRecDepth 20000 in
set_option maxHeartbeats 4000000 in
theorem C_F_X3_endOfRow_L3 {g : Nat → List (Nat × Value) → List Value → gS → Prop} {Z : List gH} {ad : Nat → Nat} {z : Int32 × gS}  (C : gOk g T_X3_endOfRow RX3 5 (some .int) 2 Z ad z) (hZ : Lay Z) (l2 : Int32) (l3 : Int32) : ∀ (n : Nat) (l4 : Int32) (σ : gS), F_X3_endOfRow_L3 Z l2 l3 n l4 σ = some z → g 3 [(0, .ref (ad 36)), (2, .int l2), (3, .int l3), (4, .int l4)] [] σ := by
  intro n
  induction n with
  | zero => intro l4 σ h; cases h
  | succ n ih =>
    intro l4 σ h
    rw [F_X3_endOfRow_L3] at h
    refine g_iload C 2 3 rfl rfl ?_
    refine g_aload_n C 3 0 rfl rfl ?_
    refine g_getr (b := 34) C 4 rfl flX3_9 (hZ.at (i := 36) rfl) rfl ?_
    refine g_geti C 5 rfl flX3_70 (hZ.at (i := 34) rfl) rfl ?_
    refine g_icmp_ge C 6 39 rfl rfl h (fun h => ?_) (fun h => ?_)
    · refine g_iload C 18 3 rfl rfl ?_
      exact g_ireturn C 19 rfl h
    · refine g_aload_n C 7 0 rfl rfl ?_
      refine g_getr (b := 34) C 8 rfl flX3_9 (hZ.at (i := 36) rfl) rfl ?_
      refine g_getr (b := 35) C 9 rfl flX3_75 (hZ.at (i := 34) rfl) rfl ?_
      refine g_iload C 10 3 rfl rfl ?_
      refine g_iald C 11 rfl (hZ.at (i := 35) rfl) h (fun h => ?_)
      refine g_iload_n C 12 1 rfl rfl ?_
      refine g_iload_n C 13 2 rfl rfl ?_
      refine g_callSi C 14 [.int (σ 35 (nn l4)), .int l2, .int l3] [] rfl (M_X9_within hZ (σ 35 (nn l4)) l2 l3) cnX3_78 cwX9_within csX9_within rfl rfl rfl (Nat.le_of_ble_eq_true rfl) ⟨Nat.le_of_ble_eq_true rfl, Nat.le_of_ble_eq_true rfl⟩ h (fun r1 s2 h => ?_)
      refine g_if_eq C 15 39 rfl rfl h (fun h => ?_) (fun h => ?_)
      · refine g_iload C 18 3 rfl rfl ?_
        exact g_ireturn C 19 rfl h
      · refine g_iinc C 16 3 (l4 + 1) [(4, .int (l4 + 1)), (0, .ref (ad 36)), (2, .int l2), (3, .int l3)] rfl rfl (by decide) rfl rfl ?_
        refine g_goto C 17 3 rfl rfl ?_
        refine g_sub C [1, 2, 3, 0] [(0, .ref (ad 36)), (2, .int l2), (3, .int l3), (4, .int (l4 + 1))] rfl ?_
        exact ih _ _ h
set_option maxRecDepth 20000 in
set_option maxHeartbeats 4000000 in
theorem M_X3_endOfRow {Z : List gH} (hZ : Lay Z) (l1 : Int32) (l2 : Int32) (l3 : Int32) : gMet yX3_endOfRow cX3_endOfRow 5 (some .int) 2 Z (fun ad => [.ref (ad 36), .int l1, .int l2, .int l3]) (F_X3_endOfRow Z l1 l2 l3) := by
  refine gMet_intro T_X3_endOfRow T_X3_endOfRow_ok rfl (fun _ => Nat.le_of_ble_eq_true rfl) (fun g ad σ z C h => ?_)
  show g 0 [(0, .ref (ad 36)), (1, .int l1), (2, .int l2), (3, .int l3)] [] σ
  rw [F_X3_endOfRow] at h
  refine g_iload_n C 0 1 rfl rfl ?_
  refine g_istore C 1 [(4, .int l1), (0, .ref (ad 36)), (1, .int l1), (2, .int l2), (3, .int l3)] rfl (by decide) rfl ?_
  refine g_sub C [1, 3, 4, 0] [(0, .ref (ad 36)), (2, .int l2), (3, .int l3), (4, .int l1)] rfl ?_
  exact C_F_X3_endOfRow_L3 C hZ _ _ _ _ _ h
def T_X3_goOn : List (Nat × Instr × Nat) := [(0, .aload_n 0, 1), (1, .getfield 32, 3), (4, .bipush (-2), 2), (6, .if_icmp .eq 12, 3), (9, .aload_n 0, 1), (10, .getfield 32, 3), (13, .bipush (-3), 2), (15, .if_icmp .ne 7, 3), (18, .iconst 1, 1), (19, .goto 4, 3), (22, .iconst 0, 1), (23, .istore_n 1, 1), (24, .aload_n 0, 1), (25, .getfield 29, 3), (28, .istore_n 2, 1), (29, .aload_n 0, 1), (30, .aload_n 0, 1), (31, .iload_n 2, 1), (32, .bipush 32, 2), (34, .bipush 32, 2), (36, .invokevirtual 66, 3), (39, .putfield 63, 3), (42, .aload_n 0, 1), (43, .getfield 63, 3), (46, .aload_n 0, 1), (47, .getfield 9, 3), (50, .getfield 70, 3), (53, .if_icmp .lt 17, 3), (56, .aload_n 0, 1), (57, .iconst (-1), 1), (58, .putfield 32, 3), (61, .aload_n 0, 1), (62, .aload_n 0, 1), (63, .getfield 63, 3), (66, .putfield 29, 3), (69, .return_, 1), (70, .iload_n 1, 1), (71, .ifCond .eq 15, 3), (74, .aload_n 0, 1), (75, .getfield 63, 3), (78, .iload_n 2, 1), (79, .if_icmp .ne 7, 3), (82, .iconst 1, 1), (83, .goto 4, 3), (86, .iconst 0, 1), (87, .istore_n 3, 1), (88, .aload_n 0, 1), (89, .getfield 9, 3), (92, .getfield 75, 3), (95, .aload_n 0, 1), (96, .getfield 63, 3), (99, .iaload, 1), (100, .istore 4, 2), (102, .iload 4, 2), (104, .bipush 97, 2), (106, .bipush 122, 2), (108, .invokestatic 78, 3), (111, .ifCond .eq 37, 3), (114, .aload_n 0, 1), (115, .iload_n 3, 1), (116, .ifCond .eq 8, 3), (119, .bipush (-4), 2), (121, .goto 5, 3), (124, .bipush (-2), 2), (126, .putfield 32, 3), (129, .aload_n 0, 1), (130, .aload_n 0, 1), (131, .aload_n 0, 1), (132, .getfield 63, 3), (135, .bipush 97, 2), (137, .bipush 122, 2), (139, .invokevirtual 66, 3), (142, .putfield 29, 3), (145, .goto 65, 3), (148, .iload 4, 2), (150, .bipush 48, 2), (152, .bipush 57, 2), (154, .invokestatic 78, 3), (157, .ifCond .eq 37, 3), (160, .aload_n 0, 1), (161, .iload_n 3, 1), (162, .ifCond .eq 8, 3), (165, .bipush (-4), 2), (167, .goto 5, 3), (170, .bipush (-3), 2), (172, .putfield 32, 3), (175, .aload_n 0, 1), (176, .aload_n 0, 1), (177, .aload_n 0, 1), (178, .getfield 63, 3), (181, .bipush 48, 2), (183, .bipush 57, 2), (185, .invokevirtual 66, 3), (188, .putfield 29, 3), (191, .goto 19, 3), (194, .aload_n 0, 1), (195, .iload 4, 2), (197, .putfield 32, 3), (200, .aload_n 0, 1), (201, .aload_n 0, 1), (202, .getfield 63, 3), (205, .iconst 1, 1), (206, .iadd, 1), (207, .putfield 29, 3), (210, .return_, 1)]
theorem T_X3_goOn_ok : gTb cX3_goOn T_X3_goOn = true := by decide +kernel
def F_X3_goOn_J87 (Z : List gH) (t0 : Int32) (σ : gS) : Option (Int32 × gS) := mIn 96 (σ 36 6) (mLet ((σ 35 (nn (σ 36 6)))) (fun v1 => mCall (F_X9_within Z v1 97 122 σ) (fun r2 s3 => if r2 = 0 then mCall (F_X9_within Z v1 48 57 s3) (fun r4 s5 => if r4 = 0 then mLet (gu s5 36 5 v1) (fun s6 => mLet (gu s6 36 7 ((s6 36 6) + 1)) (fun s7 => some (0, s7))) else if t0 = 0 then mLet (gu s5 36 5 (-3)) (fun s8 => mCall (F_X3_endOfRow Z (s8 36 6) 48 57 s8) (fun r9 s10 => mLet (gu s10 36 7 r9) (fun s11 => some (0, s11)))) else mLet (gu s5 36 5 (-4)) (fun s12 => mCall (F_X3_endOfRow Z (s12 36 6) 48 57 s12) (fun r13 s14 => mLet (gu s14 36 7 r13) (fun s15 => some (0, s15))))) else if t0 = 0 then mLet (gu s3 36 5 (-2)) (fun s16 => mCall (F_X3_endOfRow Z (s16 36 6) 97 122 s16) (fun r17 s18 => mLet (gu s18 36 7 r17) (fun s19 => some (0, s19)))) else mLet (gu s3 36 5 (-4)) (fun s20 => mCall (F_X3_endOfRow Z (s20 36 6) 97 122 s20) (fun r21 s22 => mLet (gu s22 36 7 r21) (fun s23 => some (0, s23)))))))
def F_X3_goOn_J23 (Z : List gH) (t0 : Int32) (σ : gS) : Option (Int32 × gS) := mLet ((σ 36 7)) (fun v1 => mCall (F_X3_endOfRow Z v1 32 32 σ) (fun r2 s3 => mLet (gu s3 36 6 r2) (fun s4 => if (s4 36 6) < (s4 34 1) then if t0 = 0 then F_X3_goOn_J87 Z 0 s4 else if (s4 36 6) = v1 then F_X3_goOn_J87 Z 1 s4 else F_X3_goOn_J87 Z 0 s4 else mLet (gu s4 36 5 (-1)) (fun s5 => mLet (gu s5 36 7 (s5 36 6)) (fun s6 => some (0, s6))))))
def F_X3_goOn (Z : List gH) (σ : gS) : Option (Int32 × gS) := if (σ 36 5) = (-2) then F_X3_goOn_J23 Z 1 σ else if (σ 36 5) = (-3) then F_X3_goOn_J23 Z 1 σ else F_X3_goOn_J23 Z 0 σ
set_option maxRecDepth 20000 in
set_option maxHeartbeats 4000000 in
theorem C_F_X3_goOn_J87 {g : Nat → List (Nat × Value) → List Value → gS → Prop} {Z : List gH} {ad : Nat → Nat} {z : Int32 × gS}  (C : gOk g T_X3_goOn RX3 5 none 3 Z ad z) (hZ : Lay Z) (t0 : Int32) (σ : gS) (h : F_X3_goOn_J87 Z t0 σ = some z) : g 87 [(0, .ref (ad 36))] [.int t0] σ := by
  rw [F_X3_goOn_J87] at h
  refine g_istore_n C 45 [(3, .int t0), (0, .ref (ad 36))] rfl (by decide) rfl ?_
  refine g_aload_n C 46 1 rfl rfl ?_
  refine g_getr (b := 34) C 47 rfl flX3_9 (hZ.at (i := 36) rfl) rfl ?_
  refine g_getr (b := 35) C 48 rfl flX3_75 (hZ.at (i := 34) rfl) rfl ?_
  refine g_aload_n C 49 1 rfl rfl ?_
  refine g_geti C 50 rfl flX3_63 (hZ.at (i := 36) rfl) rfl ?_
  refine g_iald C 51 rfl (hZ.at (i := 35) rfl) h (fun h => ?_)
  refine g_let h (fun v1 h => ?_)
  refine g_istore C 52 [(4, .int v1), (3, .int t0), (0, .ref (ad 36))] rfl (by decide) rfl ?_
  refine g_iload C 53 0 rfl rfl ?_
  refine g_bipush (v := 97) C 54 rfl rfl ?_
  refine g_bipush (v := 122) C 55 rfl rfl ?_
  refine g_callSi C 56 [.int v1, .int 97, .int 122] [] rfl (M_X9_within hZ v1 97 122) cnX3_78 cwX9_within csX9_within rfl rfl rfl (Nat.le_of_ble_eq_true rfl) ⟨Nat.le_of_ble_eq_true rfl, Nat.le_of_ble_eq_true rfl⟩ h (fun r2 s3 h => ?_)
  refine g_if_eq C 57 148 rfl rfl h (fun h => ?_) (fun h => ?_)
  · refine g_iload C 74 0 rfl rfl ?_
    refine g_bipush (v := 48) C 75 rfl rfl ?_
    refine g_bipush (v := 57) C 76 rfl rfl ?_
    refine g_callSi C 77 [.int v1, .int 48, .int 57] [] rfl (M_X9_within hZ v1 48 57) cnX3_78 cwX9_within csX9_within rfl rfl rfl (Nat.le_of_ble_eq_true rfl) ⟨Nat.le_of_ble_eq_true rfl, Nat.le_of_ble_eq_true rfl⟩ h (fun r4 s5 h => ?_)
    refine g_if_eq C 78 194 rfl rfl h (fun h => ?_) (fun h => ?_)
    · refine g_aload_n C 95 2 rfl rfl ?_
      refine g_iload C 96 0 rfl rfl ?_
      refine g_put C 97 rfl fpX3_32 (hZ.at (i := 36) rfl) rfl rfl rfl h (fun s6 h => ?_)
      refine g_aload_n C 98 2 rfl rfl ?_
      refine g_aload_n C 99 2 rfl rfl ?_
      refine g_geti C 100 rfl flX3_63 (hZ.at (i := 36) rfl) rfl ?_
      refine g_iconst (v := 1) C 101 rfl rfl ?_
      refine g_iadd C 102 rfl ?_
      refine g_put C 103 rfl fpX3_29 (hZ.at (i := 36) rfl) rfl rfl rfl h (fun s7 h => ?_)
      exact g_return C 104 rfl h
    · refine g_aload_n C 79 2 rfl rfl ?_
      refine g_iload_n C 80 1 rfl rfl ?_
      refine g_if_eq C 81 170 rfl rfl h (fun h => ?_) (fun h => ?_)
      · refine g_bipush (v := (-3)) C 84 rfl rfl ?_
        refine g_put C 85 rfl fpX3_32 (hZ.at (i := 36) rfl) rfl rfl rfl h (fun s8 h => ?_)
        refine g_aload_n C 86 2 rfl rfl ?_
        refine g_aload_n C 87 2 rfl rfl ?_
        refine g_aload_n C 88 2 rfl rfl ?_
        refine g_geti C 89 rfl flX3_63 (hZ.at (i := 36) rfl) rfl ?_
        refine g_bipush (v := 48) C 90 rfl rfl ?_
        refine g_bipush (v := 57) C 91 rfl rfl ?_
        refine g_callVi C 92 [.int (s8 36 6), .int 48, .int 57] [.ref (ad 36)] rfl (M_X3_endOfRow hZ (s8 36 6) 48 57) cnX3_66 cwX3_endOfRow ciX3_endOfRow (hZ.at (i := 36) rfl) rfl rfl rfl rfl (Nat.le_of_ble_eq_true rfl) ⟨Nat.le_of_ble_eq_true rfl, Nat.le_of_ble_eq_true rfl⟩ h (fun r9 s10 h => ?_)
        refine g_put C 93 rfl fpX3_29 (hZ.at (i := 36) rfl) rfl rfl rfl h (fun s11 h => ?_)
        refine g_goto C 94 210 rfl rfl ?_
        exact g_return C 104 rfl h
      · refine g_bipush (v := (-4)) C 82 rfl rfl ?_
        refine g_goto C 83 172 rfl rfl ?_
        refine g_put C 85 rfl fpX3_32 (hZ.at (i := 36) rfl) rfl rfl rfl h (fun s12 h => ?_)
        refine g_aload_n C 86 2 rfl rfl ?_
        refine g_aload_n C 87 2 rfl rfl ?_
        refine g_aload_n C 88 2 rfl rfl ?_
        refine g_geti C 89 rfl flX3_63 (hZ.at (i := 36) rfl) rfl ?_
        refine g_bipush (v := 48) C 90 rfl rfl ?_
        refine g_bipush (v := 57) C 91 rfl rfl ?_
        refine g_callVi C 92 [.int (s12 36 6), .int 48, .int 57] [.ref (ad 36)] rfl (M_X3_endOfRow hZ (s12 36 6) 48 57) cnX3_66 cwX3_endOfRow ciX3_endOfRow (hZ.at (i := 36) rfl) rfl rfl rfl rfl (Nat.le_of_ble_eq_true rfl) ⟨Nat.le_of_ble_eq_true rfl, Nat.le_of_ble_eq_true rfl⟩ h (fun r13 s14 h => ?_)
        refine g_put C 93 rfl fpX3_29 (hZ.at (i := 36) rfl) rfl rfl rfl h (fun s15 h => ?_)
        refine g_goto C 94 210 rfl rfl ?_
        exact g_return C 104 rfl h
  · refine g_aload_n C 58 2 rfl rfl ?_
    refine g_iload_n C 59 1 rfl rfl ?_
    refine g_if_eq C 60 124 rfl rfl h (fun h => ?_) (fun h => ?_)
    · refine g_bipush (v := (-2)) C 63 rfl rfl ?_
      refine g_put C 64 rfl fpX3_32 (hZ.at (i := 36) rfl) rfl rfl rfl h (fun s16 h => ?_)
      refine g_aload_n C 65 2 rfl rfl ?_
      refine g_aload_n C 66 2 rfl rfl ?_
      refine g_aload_n C 67 2 rfl rfl ?_
      refine g_geti C 68 rfl flX3_63 (hZ.at (i := 36) rfl) rfl ?_
      refine g_bipush (v := 97) C 69 rfl rfl ?_
      refine g_bipush (v := 122) C 70 rfl rfl ?_
      refine g_callVi C 71 [.int (s16 36 6), .int 97, .int 122] [.ref (ad 36)] rfl (M_X3_endOfRow hZ (s16 36 6) 97 122) cnX3_66 cwX3_endOfRow ciX3_endOfRow (hZ.at (i := 36) rfl) rfl rfl rfl rfl (Nat.le_of_ble_eq_true rfl) ⟨Nat.le_of_ble_eq_true rfl, Nat.le_of_ble_eq_true rfl⟩ h (fun r17 s18 h => ?_)
      refine g_put C 72 rfl fpX3_29 (hZ.at (i := 36) rfl) rfl rfl rfl h (fun s19 h => ?_)
      refine g_goto C 73 210 rfl rfl ?_
      exact g_return C 104 rfl h
    · refine g_bipush (v := (-4)) C 61 rfl rfl ?_
      refine g_goto C 62 126 rfl rfl ?_
      refine g_put C 64 rfl fpX3_32 (hZ.at (i := 36) rfl) rfl rfl rfl h (fun s20 h => ?_)
      refine g_aload_n C 65 2 rfl rfl ?_
      refine g_aload_n C 66 2 rfl rfl ?_
      refine g_aload_n C 67 2 rfl rfl ?_
      refine g_geti C 68 rfl flX3_63 (hZ.at (i := 36) rfl) rfl ?_
      refine g_bipush (v := 97) C 69 rfl rfl ?_
      refine g_bipush (v := 122) C 70 rfl rfl ?_
      refine g_callVi C 71 [.int (s20 36 6), .int 97, .int 122] [.ref (ad 36)] rfl (M_X3_endOfRow hZ (s20 36 6) 97 122) cnX3_66 cwX3_endOfRow ciX3_endOfRow (hZ.at (i := 36) rfl) rfl rfl rfl rfl (Nat.le_of_ble_eq_true rfl) ⟨Nat.le_of_ble_eq_true rfl, Nat.le_of_ble_eq_true rfl⟩ h (fun r21 s22 h => ?_)
      refine g_put C 72 rfl fpX3_29 (hZ.at (i := 36) rfl) rfl rfl rfl h (fun s23 h => ?_)
      refine g_goto C 73 210 rfl rfl ?_
      exact g_return C 104 rfl h
set_option maxRecDepth 20000 in
set_option maxHeartbeats 4000000 in
theorem C_F_X3_goOn_J23 {g : Nat → List (Nat × Value) → List Value → gS → Prop} {Z : List gH} {ad : Nat → Nat} {z : Int32 × gS}  (C : gOk g T_X3_goOn RX3 5 none 3 Z ad z) (hZ : Lay Z) (t0 : Int32) (σ : gS) (h : F_X3_goOn_J23 Z t0 σ = some z) : g 23 [(0, .ref (ad 36))] [.int t0] σ := by
  rw [F_X3_goOn_J23] at h
  refine g_istore_n C 11 [(1, .int t0), (0, .ref (ad 36))] rfl (by decide) rfl ?_
  refine g_aload_n C 12 1 rfl rfl ?_
  refine g_geti C 13 rfl flX3_29 (hZ.at (i := 36) rfl) rfl ?_
  refine g_let h (fun v1 h => ?_)
  refine g_istore_n C 14 [(2, .int v1), (1, .int t0), (0, .ref (ad 36))] rfl (by decide) rfl ?_
  refine g_aload_n C 15 2 rfl rfl ?_
  refine g_aload_n C 16 2 rfl rfl ?_
  refine g_iload_n C 17 0 rfl rfl ?_
  refine g_bipush (v := 32) C 18 rfl rfl ?_
  refine g_bipush (v := 32) C 19 rfl rfl ?_
  refine g_callVi C 20 [.int v1, .int 32, .int 32] [.ref (ad 36)] rfl (M_X3_endOfRow hZ v1 32 32) cnX3_66 cwX3_endOfRow ciX3_endOfRow (hZ.at (i := 36) rfl) rfl rfl rfl rfl (Nat.le_of_ble_eq_true rfl) ⟨Nat.le_of_ble_eq_true rfl, Nat.le_of_ble_eq_true rfl⟩ h (fun r2 s3 h => ?_)
  refine g_put C 21 rfl fpX3_63 (hZ.at (i := 36) rfl) rfl rfl rfl h (fun s4 h => ?_)
  refine g_aload_n C 22 2 rfl rfl ?_
  refine g_geti C 23 rfl flX3_63 (hZ.at (i := 36) rfl) rfl ?_
  refine g_aload_n C 24 2 rfl rfl ?_
  refine g_getr (b := 34) C 25 rfl flX3_9 (hZ.at (i := 36) rfl) rfl ?_
  refine g_geti C 26 rfl flX3_70 (hZ.at (i := 34) rfl) rfl ?_
  refine g_icmp_lt C 27 70 rfl rfl h (fun h => ?_) (fun h => ?_)
  · refine g_iload_n C 36 1 rfl rfl ?_
    refine g_if_eq C 37 86 rfl rfl h (fun h => ?_) (fun h => ?_)
    · refine g_iconst (v := 0) C 44 rfl rfl ?_
      refine g_sub C [2] [(0, .ref (ad 36))] rfl ?_
      exact C_F_X3_goOn_J87 C hZ _ _ h
    · refine g_aload_n C 38 2 rfl rfl ?_
      refine g_geti C 39 rfl flX3_63 (hZ.at (i := 36) rfl) rfl ?_
      refine g_iload_n C 40 0 rfl rfl ?_
      refine g_icmp_ne C 41 86 rfl rfl h (fun h => ?_) (fun h => ?_)
      · refine g_iconst (v := 0) C 44 rfl rfl ?_
        refine g_sub C [2] [(0, .ref (ad 36))] rfl ?_
        exact C_F_X3_goOn_J87 C hZ _ _ h
      · refine g_iconst (v := 1) C 42 rfl rfl ?_
        refine g_goto C 43 87 rfl rfl ?_
        refine g_sub C [2] [(0, .ref (ad 36))] rfl ?_
        exact C_F_X3_goOn_J87 C hZ _ _ h
  · refine g_aload_n C 28 2 rfl rfl ?_
    refine g_iconst (v := (-1)) C 29 rfl rfl ?_
    refine g_put C 30 rfl fpX3_32 (hZ.at (i := 36) rfl) rfl rfl rfl h (fun s5 h => ?_)
    refine g_aload_n C 31 2 rfl rfl ?_
    refine g_aload_n C 32 2 rfl rfl ?_
    refine g_geti C 33 rfl flX3_63 (hZ.at (i := 36) rfl) rfl ?_
    refine g_put C 34 rfl fpX3_29 (hZ.at (i := 36) rfl) rfl rfl rfl h (fun s6 h => ?_)
    exact g_return C 35 rfl h
set_option maxRecDepth 20000 in
set_option maxHeartbeats 4000000 in
theorem M_X3_goOn {Z : List gH} (hZ : Lay Z) : gMet yX3_goOn cX3_goOn 5 none 3 Z (fun ad => [.ref (ad 36)]) (F_X3_goOn Z) := by
  refine gMet_intro T_X3_goOn T_X3_goOn_ok rfl (fun _ => Nat.le_of_ble_eq_true rfl) (fun g ad σ z C h => ?_)
  show g 0 [(0, .ref (ad 36))] [] σ
  rw [F_X3_goOn] at h
  refine g_aload_n C 0 0 rfl rfl ?_
  refine g_geti C 1 rfl flX3_32 (hZ.at (i := 36) rfl) rfl ?_
  refine g_bipush (v := (-2)) C 2 rfl rfl ?_
  refine g_icmp_eq C 3 18 rfl rfl h (fun h => ?_) (fun h => ?_)
  · refine g_iconst (v := 1) C 8 rfl rfl ?_
    refine g_goto C 9 23 rfl rfl ?_
    exact C_F_X3_goOn_J23 C hZ _ _ h
  · refine g_aload_n C 4 0 rfl rfl ?_
    refine g_geti C 5 rfl flX3_32 (hZ.at (i := 36) rfl) rfl ?_
    refine g_bipush (v := (-3)) C 6 rfl rfl ?_
    refine g_icmp_ne C 7 22 rfl rfl h (fun h => ?_) (fun h => ?_)
    · refine g_iconst (v := 0) C 10 rfl rfl ?_
      exact C_F_X3_goOn_J23 C hZ _ _ h
    · refine g_iconst (v := 1) C 8 rfl rfl ?_
      refine g_goto C 9 23 rfl rfl ?_
      exact C_F_X3_goOn_J23 C hZ _ _ h
def T_X3_nameRead : List (Nat × Instr × Nat) := [(0, .aload_n 0, 1), (1, .getfield 32, 3), (4, .bipush (-2), 2), (6, .if_icmp .ne 16, 3), (9, .aload_n 0, 1), (10, .getfield 29, 3), (13, .aload_n 0, 1), (14, .getfield 63, 3), (17, .isub, 1), (18, .iconst 1, 1), (19, .if_icmp .eq 5, 3), (22, .iconst (-1), 1), (23, .ireturn, 1), (24, .aload_n 0, 1), (25, .getfield 42, 3), (28, .ifCond .ne 8, 3), (31, .ldc 100, 2), (33, .goto 18, 3), (36, .aload_n 0, 1), (37, .getfield 42, 3), (40, .iconst 1, 1), (41, .if_icmp .ne 8, 3), (44, .ldc 102, 2), (46, .goto 5, 3), (49, .ldc 104, 2), (51, .astore_n 1, 1), (52, .aload_n 1, 1), (53, .aload_n 0, 1), (54, .getfield 9, 3), (57, .getfield 75, 3), (60, .aload_n 0, 1), (61, .getfield 63, 3), (64, .iaload, 1), (65, .i2c, 1), (66, .invokevirtual 106, 3), (69, .ireturn, 1)]
theorem T_X3_nameRead_ok : gTb cX3_nameRead T_X3_nameRead = true := by decide +kernel
def F_X3_nameRead_J51 (Z : List gH) (t0 : Nat) (σ : gS) : Option (Int32 × gS) := mIn 96 (σ 36 6) (mCall (F_JS_indexOf Z t0 (((σ 35 (nn (σ 36 6))).toUInt32 % 65536).toInt32) σ) (fun r1 s2 => some (r1, s2)))
def F_X3_nameRead (Z : List gH) (σ : gS) : Option (Int32 × gS) := if (σ 36 5) = (-2) then if ((σ 36 7) - (σ 36 6)) = 1 then if (σ 36 4) = 0 then F_X3_nameRead_J51 Z 3 σ else if (σ 36 4) = 1 then F_X3_nameRead_J51 Z 4 σ else F_X3_nameRead_J51 Z 5 σ else some ((-1), σ) else some ((-1), σ)
set_option maxRecDepth 20000 in
set_option maxHeartbeats 4000000 in
theorem C_F_X3_nameRead_J51 {g : Nat → List (Nat × Value) → List Value → gS → Prop} {Z : List gH} {ad : Nat → Nat} {z : Int32 × gS}  (C : gOk g T_X3_nameRead RX3 2 (some .int) 5 Z ad z) (hZ : Lay Z) (t0 : Nat) (ht0 : t0 < 6) (σ : gS) (h : F_X3_nameRead_J51 Z t0 σ = some z) : g 51 [(0, .ref (ad 36))] [.ref (ad (100000 + t0))] σ := by
  rw [F_X3_nameRead_J51] at h
  refine g_astore_n C 25 [(1, .ref (ad (100000 + t0))), (0, .ref (ad 36))] rfl (by decide) rfl ?_
  refine g_aload_n C 26 0 rfl rfl ?_
  refine g_aload_n C 27 1 rfl rfl ?_
  refine g_getr (b := 34) C 28 rfl flX3_9 (hZ.at (i := 36) rfl) rfl ?_
  refine g_getr (b := 35) C 29 rfl flX3_75 (hZ.at (i := 34) rfl) rfl ?_
  refine g_aload_n C 30 1 rfl rfl ?_
  refine g_geti C 31 rfl flX3_63 (hZ.at (i := 36) rfl) rfl ?_
  refine g_iald C 32 rfl (hZ.at (i := 35) rfl) h (fun h => ?_)
  refine g_i2c C 33 rfl ?_
  refine g_callKi C 34 [.int (((σ 35 (nn (σ 36 6))).toUInt32 % 65536).toInt32)] [] ht0 rfl (M_JS_indexOf hZ t0 ht0 (((σ 35 (nn (σ 36 6))).toUInt32 % 65536).toInt32)) cnX3_106 cwJS_indexOf ciJS_indexOf rfl rfl rfl rfl (by simp [Value.category, *]) ⟨Nat.le_of_ble_eq_true rfl, Nat.le_of_ble_eq_true rfl⟩ h (fun r1 s2 h => ?_)
  exact g_ireturn C 35 rfl h
set_option maxRecDepth 20000 in
set_option maxHeartbeats 4000000 in
theorem M_X3_nameRead {Z : List gH} (hZ : Lay Z) : gMet yX3_nameRead cX3_nameRead 2 (some .int) 5 Z (fun ad => [.ref (ad 36)]) (F_X3_nameRead Z) := by
  refine gMet_intro T_X3_nameRead T_X3_nameRead_ok rfl (fun _ => Nat.le_of_ble_eq_true rfl) (fun g ad σ z C h => ?_)
  show g 0 [(0, .ref (ad 36))] [] σ
  rw [F_X3_nameRead] at h
  refine g_aload_n C 0 0 rfl rfl ?_
  refine g_geti C 1 rfl flX3_32 (hZ.at (i := 36) rfl) rfl ?_
  refine g_bipush (v := (-2)) C 2 rfl rfl ?_
  refine g_icmp_ne C 3 22 rfl rfl h (fun h => ?_) (fun h => ?_)
  · refine g_iconst (v := (-1)) C 11 rfl rfl ?_
    exact g_ireturn C 12 rfl h
  · refine g_aload_n C 4 0 rfl rfl ?_
    refine g_geti C 5 rfl flX3_29 (hZ.at (i := 36) rfl) rfl ?_
    refine g_aload_n C 6 0 rfl rfl ?_
    refine g_geti C 7 rfl flX3_63 (hZ.at (i := 36) rfl) rfl ?_
    refine g_isub C 8 rfl ?_
    refine g_iconst (v := 1) C 9 rfl rfl ?_
    refine g_icmp_eq C 10 24 rfl rfl h (fun h => ?_) (fun h => ?_)
    · refine g_aload_n C 13 0 rfl rfl ?_
      refine g_geti C 14 rfl flX3_42 (hZ.at (i := 36) rfl) rfl ?_
      refine g_if_ne C 15 36 rfl rfl h (fun h => ?_) (fun h => ?_)
      · refine g_aload_n C 18 0 rfl rfl ?_
        refine g_geti C 19 rfl flX3_42 (hZ.at (i := 36) rfl) rfl ?_
        refine g_iconst (v := 1) C 20 rfl rfl ?_
        refine g_icmp_ne C 21 49 rfl rfl h (fun h => ?_) (fun h => ?_)
        · refine g_ldcS C 24 5 (by decide) rfl rfl rfl ?_
          exact C_F_X3_nameRead_J51 C hZ _ (by decide) _ h
        · refine g_ldcS C 22 4 (by decide) rfl rfl rfl ?_
          refine g_goto C 23 51 rfl rfl ?_
          exact C_F_X3_nameRead_J51 C hZ _ (by decide) _ h
      · refine g_ldcS C 16 3 (by decide) rfl rfl rfl ?_
        refine g_goto C 17 51 rfl rfl ?_
        exact C_F_X3_nameRead_J51 C hZ _ (by decide) _ h
    · refine g_iconst (v := (-1)) C 11 rfl rfl ?_
      exact g_ireturn C 12 rfl h
def T_X3_addOperand : List (Nat × Instr × Nat) := [(0, .aload_n 0, 1), (1, .iload_n 1, 1), (2, .invokevirtual 118, 3), (5, .aload_n 0, 1), (6, .dup, 1), (7, .getfield 23, 3), (10, .iconst 1, 1), (11, .iadd, 1), (12, .putfield 23, 3), (15, .aload_n 0, 1), (16, .invokevirtual 35, 3), (19, .return_, 1)]
theorem T_X3_addOperand_ok : gTb cX3_addOperand T_X3_addOperand = true := by decide +kernel
def F_X3_addOperand (Z : List gH) (l1 : Int32) (σ : gS) : Option (Int32 × gS) := mCall (F_X3_addStep Z l1 σ) (fun r1 s2 => mLet (gu s2 36 3 ((s2 36 3) + 1)) (fun s3 => mCall (F_X3_goOn Z s3) (fun r4 s5 => some (0, s5))))
set_option maxRecDepth 20000 in
set_option maxHeartbeats 4000000 in
theorem M_X3_addOperand {Z : List gH} (hZ : Lay Z) (l1 : Int32) : gMet yX3_addOperand cX3_addOperand 2 none 4 Z (fun ad => [.ref (ad 36), .int l1]) (F_X3_addOperand Z l1) := by
  refine gMet_intro T_X3_addOperand T_X3_addOperand_ok rfl (fun _ => Nat.le_of_ble_eq_true rfl) (fun g ad σ z C h => ?_)
  show g 0 [(0, .ref (ad 36)), (1, .int l1)] [] σ
  rw [F_X3_addOperand] at h
  refine g_aload_n C 0 0 rfl rfl ?_
  refine g_iload_n C 1 1 rfl rfl ?_
  refine g_callVv C 2 [.int l1] [] rfl (M_X3_addStep hZ l1) cnX3_118 cwX3_addStep ciX3_addStep (hZ.at (i := 36) rfl) rfl rfl rfl rfl (Nat.le_of_ble_eq_true rfl) ⟨Nat.le_of_ble_eq_true rfl, Nat.le_of_ble_eq_true rfl⟩ h (fun r1 s2 h => ?_)
  refine g_aload_n C 3 0 rfl rfl ?_
  refine g_dup C 4 rfl rfl ?_
  refine g_geti C 5 rfl flX3_23 (hZ.at (i := 36) rfl) rfl ?_
  refine g_iconst (v := 1) C 6 rfl rfl ?_
  refine g_iadd C 7 rfl ?_
  refine g_put C 8 rfl fpX3_23 (hZ.at (i := 36) rfl) rfl rfl rfl h (fun s3 h => ?_)
  refine g_aload_n C 9 0 rfl rfl ?_
  refine g_callVv C 10 [] [] rfl (M_X3_goOn hZ) cnX3_35 cwX3_goOn ciX3_goOn (hZ.at (i := 36) rfl) rfl rfl rfl rfl (Nat.le_of_ble_eq_true rfl) ⟨Nat.le_of_ble_eq_true rfl, Nat.le_of_ble_eq_true rfl⟩ h (fun r4 s5 h => ?_)
  exact g_return C 11 rfl h
def T_X3_numberRead : List (Nat × Instr × Nat) := [(0, .iconst 0, 1), (1, .istore_n 1, 1), (2, .aload_n 0, 1), (3, .getfield 63, 3), (6, .istore_n 2, 1), (7, .iload_n 2, 1), (8, .aload_n 0, 1), (9, .getfield 29, 3), (12, .if_icmp .ge 27, 3), (15, .iload_n 1, 1), (16, .bipush 10, 2), (18, .imul, 1), (19, .aload_n 0, 1), (20, .getfield 9, 3), (23, .getfield 75, 3), (26, .iload_n 2, 1), (27, .iaload, 1), (28, .iadd, 1), (29, .bipush 48, 2), (31, .isub, 1), (32, .istore_n 1, 1), (33, .iinc 2 1, 3), (36, .goto (-29), 3), (39, .iload_n 1, 1), (40, .ireturn, 1)]
theorem T_X3_numberRead_ok : gTb cX3_numberRead T_X3_numberRead = true := by decide +kernel
def F_X3_numberRead_L7 (Z : List gH) : Nat → Int32 → Int32 → gS → Option (Int32 × gS)
  | 0, _, _, _ => none
  | n + 1, l1, l2, σ => if (σ 36 7) ≤ l2 then some (l1, σ) else mIn 96 l2 (mLet ((((l1 * 10) + (σ 35 (nn l2))) - 48)) (fun v1 => F_X3_numberRead_L7 Z n v1 (l2 + 1) σ))
def F_X3_numberRead (Z : List gH) (σ : gS) : Option (Int32 × gS) := mLet ((σ 36 6)) (fun v1 => F_X3_numberRead_L7 Z mFuel 0 v1 σ)
set_option maxRecDepth 20000 in
set_option maxHeartbeats 4000000 in
theorem C_F_X3_numberRead_L7 {g : Nat → List (Nat × Value) → List Value → gS → Prop} {Z : List gH} {ad : Nat → Nat} {z : Int32 × gS}  (C : gOk g T_X3_numberRead RX3 3 (some .int) 1 Z ad z) (hZ : Lay Z) : ∀ (n : Nat) (l1 : Int32) (l2 : Int32) (σ : gS), F_X3_numberRead_L7 Z n l1 l2 σ = some z → g 7 [(0, .ref (ad 36)), (1, .int l1), (2, .int l2)] [] σ := by
  intro n
  induction n with
  | zero => intro l1 l2 σ h; cases h
  | succ n ih =>
    intro l1 l2 σ h
    rw [F_X3_numberRead_L7] at h
    refine g_iload_n C 5 2 rfl rfl ?_
    refine g_aload_n C 6 0 rfl rfl ?_
    refine g_geti C 7 rfl flX3_29 (hZ.at (i := 36) rfl) rfl ?_
    refine g_icmp_ge C 8 39 rfl rfl h (fun h => ?_) (fun h => ?_)
    · refine g_iload_n C 23 1 rfl rfl ?_
      exact g_ireturn C 24 rfl h
    · refine g_iload_n C 9 1 rfl rfl ?_
      refine g_bipush (v := 10) C 10 rfl rfl ?_
      refine g_imul C 11 rfl ?_
      refine g_aload_n C 12 0 rfl rfl ?_
      refine g_getr (b := 34) C 13 rfl flX3_9 (hZ.at (i := 36) rfl) rfl ?_
      refine g_getr (b := 35) C 14 rfl flX3_75 (hZ.at (i := 34) rfl) rfl ?_
      refine g_iload_n C 15 2 rfl rfl ?_
      refine g_iald C 16 rfl (hZ.at (i := 35) rfl) h (fun h => ?_)
      refine g_iadd C 17 rfl ?_
      refine g_bipush (v := 48) C 18 rfl rfl ?_
      refine g_isub C 19 rfl ?_
      refine g_let h (fun v1 h => ?_)
      refine g_istore_n C 20 [(1, .int v1), (0, .ref (ad 36)), (2, .int l2)] rfl (by decide) rfl ?_
      refine g_iinc C 21 2 (l2 + 1) [(2, .int (l2 + 1)), (1, .int v1), (0, .ref (ad 36))] rfl rfl (by decide) rfl rfl ?_
      refine g_goto C 22 7 rfl rfl ?_
      refine g_sub C [2, 1, 0] [(0, .ref (ad 36)), (1, .int v1), (2, .int (l2 + 1))] rfl ?_
      exact ih _ _ _ h
set_option maxRecDepth 20000 in
set_option maxHeartbeats 4000000 in
theorem M_X3_numberRead {Z : List gH} (hZ : Lay Z) : gMet yX3_numberRead cX3_numberRead 3 (some .int) 1 Z (fun ad => [.ref (ad 36)]) (F_X3_numberRead Z) := by
  refine gMet_intro T_X3_numberRead T_X3_numberRead_ok rfl (fun _ => Nat.le_of_ble_eq_true rfl) (fun g ad σ z C h => ?_)
  show g 0 [(0, .ref (ad 36))] [] σ
  rw [F_X3_numberRead] at h
  refine g_iconst (v := 0) C 0 rfl rfl ?_
  refine g_istore_n C 1 [(1, .int 0), (0, .ref (ad 36))] rfl (by decide) rfl ?_
  refine g_aload_n C 2 1 rfl rfl ?_
  refine g_geti C 3 rfl flX3_63 (hZ.at (i := 36) rfl) rfl ?_
  refine g_let h (fun v1 h => ?_)
  refine g_istore_n C 4 [(2, .int v1), (1, .int 0), (0, .ref (ad 36))] rfl (by decide) rfl ?_
  refine g_sub C [2, 1, 0] [(0, .ref (ad 36)), (1, .int 0), (2, .int v1)] rfl ?_
  exact C_F_X3_numberRead_L7 C hZ _ _ _ _ h
def T_X3_stop : List (Nat × Instr × Nat) := [(0, .aload_n 0, 1), (1, .getfield 26, 3), (4, .ifCond .ge 11, 3), (7, .aload_n 0, 1), (8, .aload_n 0, 1), (9, .getfield 63, 3), (12, .putfield 26, 3), (15, .aload_n 0, 1), (16, .bipush (-5), 2), (18, .putfield 32, 3), (21, .return_, 1)]
theorem T_X3_stop_ok : gTb cX3_stop T_X3_stop = true := by decide +kernel
def F_X3_stop (Z : List gH) (σ : gS) : Option (Int32 × gS) := if 0 ≤ (σ 36 8) then mLet (gu σ 36 5 (-5)) (fun s1 => some (0, s1)) else mLet (gu σ 36 8 (σ 36 6)) (fun s2 => mLet (gu s2 36 5 (-5)) (fun s3 => some (0, s3)))
set_option maxRecDepth 20000 in
set_option maxHeartbeats 4000000 in
theorem M_X3_stop {Z : List gH} (hZ : Lay Z) : gMet yX3_stop cX3_stop 1 none 1 Z (fun ad => [.ref (ad 36)]) (F_X3_stop Z) := by
  refine gMet_intro T_X3_stop T_X3_stop_ok rfl (fun _ => Nat.le_of_ble_eq_true rfl) (fun g ad σ z C h => ?_)
  show g 0 [(0, .ref (ad 36))] [] σ
  rw [F_X3_stop] at h
  refine g_aload_n C 0 0 rfl rfl ?_
  refine g_geti C 1 rfl flX3_26 (hZ.at (i := 36) rfl) rfl ?_
  refine g_if_ge C 2 15 rfl rfl h (fun h => ?_) (fun h => ?_)
  · refine g_aload_n C 7 0 rfl rfl ?_
    refine g_bipush (v := (-5)) C 8 rfl rfl ?_
    refine g_put C 9 rfl fpX3_32 (hZ.at (i := 36) rfl) rfl rfl rfl h (fun s1 h => ?_)
    exact g_return C 10 rfl h
  · refine g_aload_n C 3 0 rfl rfl ?_
    refine g_aload_n C 4 0 rfl rfl ?_
    refine g_geti C 5 rfl flX3_63 (hZ.at (i := 36) rfl) rfl ?_
    refine g_put C 6 rfl fpX3_26 (hZ.at (i := 36) rfl) rfl rfl rfl h (fun s2 h => ?_)
    refine g_aload_n C 7 0 rfl rfl ?_
    refine g_bipush (v := (-5)) C 8 rfl rfl ?_
    refine g_put C 9 rfl fpX3_32 (hZ.at (i := 36) rfl) rfl rfl rfl h (fun s3 h => ?_)
    exact g_return C 10 rfl h
def T_X3_isSignOf : List (Nat × Instr × Nat) := [(0, .iload_n 1, 1), (1, .tableswitch 146 0 4 #[35, 50, 65, 98, 122], 35), (36, .aload_n 0, 1), (37, .getfield 32, 3), (40, .bipush 124, 2), (42, .if_icmp .ne 7, 3), (45, .iconst 1, 1), (46, .goto 4, 3), (49, .iconst 0, 1), (50, .ireturn, 1), (51, .aload_n 0, 1), (52, .getfield 32, 3), (55, .bipush 38, 2), (57, .if_icmp .ne 7, 3), (60, .iconst 1, 1), (61, .goto 4, 3), (64, .iconst 0, 1), (65, .ireturn, 1), (66, .aload_n 0, 1), (67, .getfield 32, 3), (70, .bipush 60, 2), (72, .if_icmp .eq 21, 3), (75, .aload_n 0, 1), (76, .getfield 32, 3), (79, .bipush 61, 2), (81, .if_icmp .eq 12, 3), (84, .aload_n 0, 1), (85, .getfield 32, 3), (88, .bipush 62, 2), (90, .if_icmp .ne 7, 3), (93, .iconst 1, 1), (94, .goto 4, 3), (97, .iconst 0, 1), (98, .ireturn, 1), (99, .aload_n 0, 1), (100, .getfield 32, 3), (103, .bipush 43, 2), (105, .if_icmp .eq 12, 3), (108, .aload_n 0, 1), (109, .getfield 32, 3), (112, .bipush 45, 2), (114, .if_icmp .ne 7, 3), (117, .iconst 1, 1), (118, .goto 4, 3), (121, .iconst 0, 1), (122, .ireturn, 1), (123, .aload_n 0, 1), (124, .getfield 32, 3), (127, .bipush 42, 2), (129, .if_icmp .eq 12, 3), (132, .aload_n 0, 1), (133, .getfield 32, 3), (136, .bipush 47, 2), (138, .if_icmp .ne 7, 3), (141, .iconst 1, 1), (142, .goto 4, 3), (145, .iconst 0, 1), (146, .ireturn, 1), (147, .iconst 0, 1), (148, .ireturn, 1)]
theorem T_X3_isSignOf_ok : gTb cX3_isSignOf T_X3_isSignOf = true := by decide +kernel
def F_X3_isSignOf (Z : List gH) (l1 : Int32) (σ : gS) : Option (Int32 × gS) := if l1 = 0 then if (σ 36 5) = 124 then mZ 1 σ else mZ 0 σ else if l1 = 1 then if (σ 36 5) = 38 then mZ 1 σ else mZ 0 σ else if l1 = 2 then if (σ 36 5) = 60 then mZ 1 σ else if (σ 36 5) = 61 then mZ 1 σ else if (σ 36 5) = 62 then mZ 1 σ else mZ 0 σ else if l1 = 3 then if (σ 36 5) = 43 then mZ 1 σ else if (σ 36 5) = 45 then mZ 1 σ else mZ 0 σ else if l1 = 4 then if (σ 36 5) = 42 then mZ 1 σ else if (σ 36 5) = 47 then mZ 1 σ else mZ 0 σ else mZ 0 σ
set_option maxRecDepth 20000 in
set_option maxHeartbeats 4000000 in
theorem M_X3_isSignOf {Z : List gH} (hZ : Lay Z) (l1 : Int32) : gMet yX3_isSignOf cX3_isSignOf 2 (some .boolean) 1 Z (fun ad => [.ref (ad 36), .int l1]) (F_X3_isSignOf Z l1) := by
  refine gMet_intro T_X3_isSignOf T_X3_isSignOf_ok rfl (fun _ => Nat.le_of_ble_eq_true rfl) (fun g ad σ z C h => ?_)
  show g 0 [(0, .ref (ad 36)), (1, .int l1)] [] σ
  rw [F_X3_isSignOf] at h
  refine g_iload_n C 0 1 rfl rfl ?_
  by_cases hx0_0 : l1 = 0
  · rw [if_pos hx0_0] at h
    refine g_tblAt C 1 0 hx0_0 36 rfl (by decide) (by decide) rfl rfl ?_
    refine g_aload_n C 2 0 rfl rfl ?_
    refine g_geti C 3 rfl flX3_32 (hZ.at (i := 36) rfl) rfl ?_
    refine g_bipush (v := 124) C 4 rfl rfl ?_
    refine g_icmp_ne C 5 49 rfl rfl h (fun h => ?_) (fun h => ?_)
    · refine g_iconst (v := 0) C 8 rfl rfl ?_
      exact g_zreturn C 9 rfl h
    · refine g_iconst (v := 1) C 6 rfl rfl ?_
      refine g_goto C 7 50 rfl rfl ?_
      exact g_zreturn C 9 rfl h
  · rw [if_neg hx0_0] at h
    by_cases hx0_1 : l1 = 1
    · rw [if_pos hx0_1] at h
      refine g_tblAt C 1 1 hx0_1 51 rfl (by decide) (by decide) rfl rfl ?_
      refine g_aload_n C 10 0 rfl rfl ?_
      refine g_geti C 11 rfl flX3_32 (hZ.at (i := 36) rfl) rfl ?_
      refine g_bipush (v := 38) C 12 rfl rfl ?_
      refine g_icmp_ne C 13 64 rfl rfl h (fun h => ?_) (fun h => ?_)
      · refine g_iconst (v := 0) C 16 rfl rfl ?_
        exact g_zreturn C 17 rfl h
      · refine g_iconst (v := 1) C 14 rfl rfl ?_
        refine g_goto C 15 65 rfl rfl ?_
        exact g_zreturn C 17 rfl h
    · rw [if_neg hx0_1] at h
      by_cases hx0_2 : l1 = 2
      · rw [if_pos hx0_2] at h
        refine g_tblAt C 1 2 hx0_2 66 rfl (by decide) (by decide) rfl rfl ?_
        refine g_aload_n C 18 0 rfl rfl ?_
        refine g_geti C 19 rfl flX3_32 (hZ.at (i := 36) rfl) rfl ?_
        refine g_bipush (v := 60) C 20 rfl rfl ?_
        refine g_icmp_eq C 21 93 rfl rfl h (fun h => ?_) (fun h => ?_)
        · refine g_iconst (v := 1) C 30 rfl rfl ?_
          refine g_goto C 31 98 rfl rfl ?_
          exact g_zreturn C 33 rfl h
        · refine g_aload_n C 22 0 rfl rfl ?_
          refine g_geti C 23 rfl flX3_32 (hZ.at (i := 36) rfl) rfl ?_
          refine g_bipush (v := 61) C 24 rfl rfl ?_
          refine g_icmp_eq C 25 93 rfl rfl h (fun h => ?_) (fun h => ?_)
          · refine g_iconst (v := 1) C 30 rfl rfl ?_
            refine g_goto C 31 98 rfl rfl ?_
            exact g_zreturn C 33 rfl h
          · refine g_aload_n C 26 0 rfl rfl ?_
            refine g_geti C 27 rfl flX3_32 (hZ.at (i := 36) rfl) rfl ?_
            refine g_bipush (v := 62) C 28 rfl rfl ?_
            refine g_icmp_ne C 29 97 rfl rfl h (fun h => ?_) (fun h => ?_)
            · refine g_iconst (v := 0) C 32 rfl rfl ?_
              exact g_zreturn C 33 rfl h
            · refine g_iconst (v := 1) C 30 rfl rfl ?_
              refine g_goto C 31 98 rfl rfl ?_
              exact g_zreturn C 33 rfl h
      · rw [if_neg hx0_2] at h
        by_cases hx0_3 : l1 = 3
        · rw [if_pos hx0_3] at h
          refine g_tblAt C 1 3 hx0_3 99 rfl (by decide) (by decide) rfl rfl ?_
          refine g_aload_n C 34 0 rfl rfl ?_
          refine g_geti C 35 rfl flX3_32 (hZ.at (i := 36) rfl) rfl ?_
          refine g_bipush (v := 43) C 36 rfl rfl ?_
          refine g_icmp_eq C 37 117 rfl rfl h (fun h => ?_) (fun h => ?_)
          · refine g_iconst (v := 1) C 42 rfl rfl ?_
            refine g_goto C 43 122 rfl rfl ?_
            exact g_zreturn C 45 rfl h
          · refine g_aload_n C 38 0 rfl rfl ?_
            refine g_geti C 39 rfl flX3_32 (hZ.at (i := 36) rfl) rfl ?_
            refine g_bipush (v := 45) C 40 rfl rfl ?_
            refine g_icmp_ne C 41 121 rfl rfl h (fun h => ?_) (fun h => ?_)
            · refine g_iconst (v := 0) C 44 rfl rfl ?_
              exact g_zreturn C 45 rfl h
            · refine g_iconst (v := 1) C 42 rfl rfl ?_
              refine g_goto C 43 122 rfl rfl ?_
              exact g_zreturn C 45 rfl h
        · rw [if_neg hx0_3] at h
          by_cases hx0_4 : l1 = 4
          · rw [if_pos hx0_4] at h
            refine g_tblAt C 1 4 hx0_4 123 rfl (by decide) (by decide) rfl rfl ?_
            refine g_aload_n C 46 0 rfl rfl ?_
            refine g_geti C 47 rfl flX3_32 (hZ.at (i := 36) rfl) rfl ?_
            refine g_bipush (v := 42) C 48 rfl rfl ?_
            refine g_icmp_eq C 49 141 rfl rfl h (fun h => ?_) (fun h => ?_)
            · refine g_iconst (v := 1) C 54 rfl rfl ?_
              refine g_goto C 55 146 rfl rfl ?_
              exact g_zreturn C 57 rfl h
            · refine g_aload_n C 50 0 rfl rfl ?_
              refine g_geti C 51 rfl flX3_32 (hZ.at (i := 36) rfl) rfl ?_
              refine g_bipush (v := 47) C 52 rfl rfl ?_
              refine g_icmp_ne C 53 145 rfl rfl h (fun h => ?_) (fun h => ?_)
              · refine g_iconst (v := 0) C 56 rfl rfl ?_
                exact g_zreturn C 57 rfl h
              · refine g_iconst (v := 1) C 54 rfl rfl ?_
                refine g_goto C 55 146 rfl rfl ?_
                exact g_zreturn C 57 rfl h
          · rw [if_neg hx0_4] at h
            refine g_tblOut C 1 147 rfl (by have e0 := i32ne hx0_0 0 rfl; have e1 := i32ne hx0_1 1 rfl; have e2 := i32ne hx0_2 2 rfl; have e3 := i32ne hx0_3 3 rfl; have e4 := i32ne hx0_4 4 rfl; omega) rfl ?_
            refine g_iconst (v := 0) C 58 rfl rfl ?_
            exact g_zreturn C 59 rfl h
def T_X3_isWord : List (Nat × Instr × Nat) := [(0, .aload_n 0, 1), (1, .getfield 32, 3), (4, .bipush (-2), 2), (6, .if_icmp .ne 19, 3), (9, .aload_n 0, 1), (10, .getfield 29, 3), (13, .aload_n 0, 1), (14, .getfield 63, 3), (17, .isub, 1), (18, .aload_n 1, 1), (19, .invokevirtual 92, 3), (22, .if_icmp .eq 5, 3), (25, .iconst 0, 1), (26, .ireturn, 1), (27, .iconst 0, 1), (28, .istore_n 2, 1), (29, .iload_n 2, 1), (30, .aload_n 1, 1), (31, .invokevirtual 92, 3), (34, .if_icmp .ge 33, 3), (37, .aload_n 0, 1), (38, .getfield 9, 3), (41, .getfield 75, 3), (44, .aload_n 0, 1), (45, .getfield 63, 3), (48, .iload_n 2, 1), (49, .iadd, 1), (50, .iaload, 1), (51, .aload_n 1, 1), (52, .iload_n 2, 1), (53, .invokevirtual 96, 3), (56, .if_icmp .eq 5, 3), (59, .iconst 0, 1), (60, .ireturn, 1), (61, .iinc 2 1, 3), (64, .goto (-35), 3), (67, .iconst 1, 1), (68, .ireturn, 1)]
theorem T_X3_isWord_ok : gTb cX3_isWord T_X3_isWord = true := by decide +kernel
def F_X3_isWord_L29 (Z : List gH) (l1 : Nat) : Nat → Int32 → gS → Option (Int32 × gS)
  | 0, _, _ => none
  | n + 1, l2, σ => mCall (F_JS_length Z l1 σ) (fun r1 s2 => if r1 ≤ l2 then mZ 1 s2 else mIn 96 ((s2 36 6) + l2) (mCall (F_JS_charAt Z l1 l2 s2) (fun r3 s4 => if (s2 35 (nn ((s2 36 6) + l2))) = r3 then F_X3_isWord_L29 Z l1 n (l2 + 1) s4 else mZ 0 s4)))
def F_X3_isWord (Z : List gH) (l1 : Nat) (σ : gS) : Option (Int32 × gS) := if (σ 36 5) = (-2) then mCall (F_JS_length Z l1 σ) (fun r1 s2 => if ((σ 36 7) - (σ 36 6)) = r1 then F_X3_isWord_L29 Z l1 mFuel 0 s2 else mZ 0 s2) else mZ 0 σ
set_option maxRecDepth 20000 in
set_option maxHeartbeats 4000000 in
theorem C_F_X3_isWord_L29 {g : Nat → List (Nat × Value) → List Value → gS → Prop} {Z : List gH} {ad : Nat → Nat} {z : Int32 × gS}  (C : gOk g T_X3_isWord RX3 3 (some .boolean) 5 Z ad z) (hZ : Lay Z) (l1 : Nat) (hl1 : l1 < 6) : ∀ (n : Nat) (l2 : Int32) (σ : gS), F_X3_isWord_L29 Z l1 n l2 σ = some z → g 29 [(0, .ref (ad 36)), (1, .ref (ad (100000 + l1))), (2, .int l2)] [] σ := by
  intro n
  induction n with
  | zero => intro l2 σ h; cases h
  | succ n ih =>
    intro l2 σ h
    rw [F_X3_isWord_L29] at h
    refine g_iload_n C 16 2 rfl rfl ?_
    refine g_aload_n C 17 1 rfl rfl ?_
    refine g_callKi C 18 [] [.int l2] hl1 rfl (M_JS_length hZ l1 hl1) cnX3_92 cwJS_length ciJS_length rfl rfl rfl rfl (by simp [Value.category, *]) ⟨Nat.le_of_ble_eq_true rfl, Nat.le_of_ble_eq_true rfl⟩ h (fun r1 s2 h => ?_)
    refine g_icmp_ge C 19 67 rfl rfl h (fun h => ?_) (fun h => ?_)
    · refine g_iconst (v := 1) C 36 rfl rfl ?_
      exact g_zreturn C 37 rfl h
    · refine g_aload_n C 20 0 rfl rfl ?_
      refine g_getr (b := 34) C 21 rfl flX3_9 (hZ.at (i := 36) rfl) rfl ?_
      refine g_getr (b := 35) C 22 rfl flX3_75 (hZ.at (i := 34) rfl) rfl ?_
      refine g_aload_n C 23 0 rfl rfl ?_
      refine g_geti C 24 rfl flX3_63 (hZ.at (i := 36) rfl) rfl ?_
      refine g_iload_n C 25 2 rfl rfl ?_
      refine g_iadd C 26 rfl ?_
      refine g_iald C 27 rfl (hZ.at (i := 35) rfl) h (fun h => ?_)
      refine g_aload_n C 28 1 rfl rfl ?_
      refine g_iload_n C 29 2 rfl rfl ?_
      refine g_callKi C 30 [.int l2] [.int (s2 35 (nn ((s2 36 6) + l2)))] hl1 rfl (M_JS_charAt hZ l1 hl1 l2) cnX3_96 cwJS_charAt ciJS_charAt rfl rfl rfl rfl (by simp [Value.category, *]) ⟨Nat.le_of_ble_eq_true rfl, Nat.le_of_ble_eq_true rfl⟩ h (fun r3 s4 h => ?_)
      refine g_icmp_eq C 31 61 rfl rfl h (fun h => ?_) (fun h => ?_)
      · refine g_iinc C 34 2 (l2 + 1) [(2, .int (l2 + 1)), (0, .ref (ad 36)), (1, .ref (ad (100000 + l1)))] rfl rfl (by decide) rfl rfl ?_
        refine g_goto C 35 29 rfl rfl ?_
        refine g_sub C [1, 2, 0] [(0, .ref (ad 36)), (1, .ref (ad (100000 + l1))), (2, .int (l2 + 1))] rfl ?_
        exact ih _ _ h
      · refine g_iconst (v := 0) C 32 rfl rfl ?_
        exact g_zreturn C 33 rfl h
set_option maxRecDepth 20000 in
set_option maxHeartbeats 4000000 in
theorem M_X3_isWord {Z : List gH} (hZ : Lay Z) (l1 : Nat) (hl1 : l1 < 6) : gMet yX3_isWord cX3_isWord 3 (some .boolean) 5 Z (fun ad => [.ref (ad 36), .ref (ad (100000 + l1))]) (F_X3_isWord Z l1) := by
  refine gMet_intro T_X3_isWord T_X3_isWord_ok rfl (fun _ => Nat.le_of_ble_eq_true rfl) (fun g ad σ z C h => ?_)
  show g 0 [(0, .ref (ad 36)), (1, .ref (ad (100000 + l1)))] [] σ
  rw [F_X3_isWord] at h
  refine g_aload_n C 0 0 rfl rfl ?_
  refine g_geti C 1 rfl flX3_32 (hZ.at (i := 36) rfl) rfl ?_
  refine g_bipush (v := (-2)) C 2 rfl rfl ?_
  refine g_icmp_ne C 3 25 rfl rfl h (fun h => ?_) (fun h => ?_)
  · refine g_iconst (v := 0) C 12 rfl rfl ?_
    exact g_zreturn C 13 rfl h
  · refine g_aload_n C 4 0 rfl rfl ?_
    refine g_geti C 5 rfl flX3_29 (hZ.at (i := 36) rfl) rfl ?_
    refine g_aload_n C 6 0 rfl rfl ?_
    refine g_geti C 7 rfl flX3_63 (hZ.at (i := 36) rfl) rfl ?_
    refine g_isub C 8 rfl ?_
    refine g_aload_n C 9 1 rfl rfl ?_
    refine g_callKi C 10 [] [.int ((σ 36 7) - (σ 36 6))] hl1 rfl (M_JS_length hZ l1 hl1) cnX3_92 cwJS_length ciJS_length rfl rfl rfl rfl (by simp [Value.category, *]) ⟨Nat.le_of_ble_eq_true rfl, Nat.le_of_ble_eq_true rfl⟩ h (fun r1 s2 h => ?_)
    refine g_icmp_eq C 11 27 rfl rfl h (fun h => ?_) (fun h => ?_)
    · refine g_iconst (v := 0) C 14 rfl rfl ?_
      refine g_istore_n C 15 [(2, .int 0), (0, .ref (ad 36)), (1, .ref (ad (100000 + l1)))] rfl (by decide) rfl ?_
      refine g_sub C [1, 2, 0] [(0, .ref (ad 36)), (1, .ref (ad (100000 + l1))), (2, .int 0)] rfl ?_
      exact C_F_X3_isWord_L29 C hZ _ hl1 _ _ _ h
    · refine g_iconst (v := 0) C 12 rfl rfl ?_
      exact g_zreturn C 13 rfl h
def T_X3_keyRead : List (Nat × Instr × Nat) := [(0, .aload_n 0, 1), (1, .ldc 82, 2), (3, .invokevirtual 84, 3), (6, .ifCond .eq 5, 3), (9, .iconst 0, 1), (10, .ireturn, 1), (11, .aload_n 0, 1), (12, .ldc 88, 2), (14, .invokevirtual 84, 3), (17, .ifCond .eq 5, 3), (20, .iconst 1, 1), (21, .ireturn, 1), (22, .aload_n 0, 1), (23, .ldc 90, 2), (25, .invokevirtual 84, 3), (28, .ifCond .eq 7, 3), (31, .iconst 2, 1), (32, .goto 4, 3), (35, .iconst (-1), 1), (36, .ireturn, 1)]
theorem T_X3_keyRead_ok : gTb cX3_keyRead T_X3_keyRead = true := by decide +kernel
def F_X3_keyRead (Z : List gH) (σ : gS) : Option (Int32 × gS) := mCall (F_X3_isWord Z 0 σ) (fun r1 s2 => if r1 = 0 then mCall (F_X3_isWord Z 1 s2) (fun r3 s4 => if r3 = 0 then mCall (F_X3_isWord Z 2 s4) (fun r5 s6 => if r5 = 0 then some ((-1), s6) else some (2, s6)) else some (1, s4)) else some (0, s2))
set_option maxRecDepth 20000 in
set_option maxHeartbeats 4000000 in
theorem M_X3_keyRead {Z : List gH} (hZ : Lay Z) : gMet yX3_keyRead cX3_keyRead 1 (some .int) 6 Z (fun ad => [.ref (ad 36)]) (F_X3_keyRead Z) := by
  refine gMet_intro T_X3_keyRead T_X3_keyRead_ok rfl (fun _ => Nat.le_of_ble_eq_true rfl) (fun g ad σ z C h => ?_)
  show g 0 [(0, .ref (ad 36))] [] σ
  rw [F_X3_keyRead] at h
  refine g_aload_n C 0 0 rfl rfl ?_
  refine g_ldcS C 1 0 (by decide) rfl rfl rfl ?_
  refine g_callVi C 2 [.ref (ad (100000 + 0))] [] rfl (M_X3_isWord hZ 0 (by decide)) cnX3_84 cwX3_isWord ciX3_isWord (hZ.at (i := 36) rfl) rfl rfl rfl rfl (Nat.le_of_ble_eq_true rfl) ⟨Nat.le_of_ble_eq_true rfl, Nat.le_of_ble_eq_true rfl⟩ h (fun r1 s2 h => ?_)
  refine g_if_eq C 3 11 rfl rfl h (fun h => ?_) (fun h => ?_)
  · refine g_aload_n C 6 0 rfl rfl ?_
    refine g_ldcS C 7 1 (by decide) rfl rfl rfl ?_
    refine g_callVi C 8 [.ref (ad (100000 + 1))] [] rfl (M_X3_isWord hZ 1 (by decide)) cnX3_84 cwX3_isWord ciX3_isWord (hZ.at (i := 36) rfl) rfl rfl rfl rfl (Nat.le_of_ble_eq_true rfl) ⟨Nat.le_of_ble_eq_true rfl, Nat.le_of_ble_eq_true rfl⟩ h (fun r3 s4 h => ?_)
    refine g_if_eq C 9 22 rfl rfl h (fun h => ?_) (fun h => ?_)
    · refine g_aload_n C 12 0 rfl rfl ?_
      refine g_ldcS C 13 2 (by decide) rfl rfl rfl ?_
      refine g_callVi C 14 [.ref (ad (100000 + 2))] [] rfl (M_X3_isWord hZ 2 (by decide)) cnX3_84 cwX3_isWord ciX3_isWord (hZ.at (i := 36) rfl) rfl rfl rfl rfl (Nat.le_of_ble_eq_true rfl) ⟨Nat.le_of_ble_eq_true rfl, Nat.le_of_ble_eq_true rfl⟩ h (fun r5 s6 h => ?_)
      refine g_if_eq C 15 35 rfl rfl h (fun h => ?_) (fun h => ?_)
      · refine g_iconst (v := (-1)) C 18 rfl rfl ?_
        exact g_ireturn C 19 rfl h
      · refine g_iconst (v := 2) C 16 rfl rfl ?_
        refine g_goto C 17 36 rfl rfl ?_
        exact g_ireturn C 19 rfl h
    · refine g_iconst (v := 1) C 10 rfl rfl ?_
      exact g_ireturn C 11 rfl h
  · refine g_iconst (v := 0) C 4 rfl rfl ?_
    exact g_ireturn C 5 rfl h
def T_X3_readLevel : List (Nat × Instr × Nat) := [(0, .iload_n 1, 1), (1, .iconst 5, 1), (2, .if_icmp .lt 10, 3), (5, .aload_n 0, 1), (6, .iload_n 2, 1), (7, .iload_n 3, 1), (8, .invokevirtual 110, 3), (11, .return_, 1), (12, .aload_n 0, 1), (13, .iload_n 1, 1), (14, .iconst 1, 1), (15, .iadd, 1), (16, .iload_n 2, 1), (17, .iload_n 3, 1), (18, .invokevirtual 48, 3), (21, .iload_n 1, 1), (22, .iconst 2, 1), (23, .if_icmp .ne 7, 3), (26, .iconst 1, 1), (27, .goto 5, 3), (30, .bipush 96, 2), (32, .istore 4, 2), (34, .iconst 0, 1), (35, .istore 5, 2), (37, .iload 5, 2), (39, .iload 4, 2), (41, .if_icmp .ge 43, 3), (44, .aload_n 0, 1), (45, .iload_n 1, 1), (46, .invokevirtual 114, 3), (49, .ifCond .eq 35, 3), (52, .aload_n 0, 1), (53, .getfield 32, 3), (56, .istore 6, 2), (58, .aload_n 0, 1), (59, .invokevirtual 35, 3), (62, .aload_n 0, 1), (63, .iload_n 1, 1), (64, .iconst 1, 1), (65, .iadd, 1), (66, .iload_n 2, 1), (67, .iload_n 3, 1), (68, .invokevirtual 48, 3), (71, .aload_n 0, 1), (72, .iload 6, 2), (74, .ineg, 1), (75, .invokevirtual 118, 3), (78, .iinc 5 1, 3), (81, .goto (-44), 3), (84, .return_, 1)]
theorem T_X3_readLevel_ok : gTb cX3_readLevel T_X3_readLevel = true := by decide +kernel
def F_X3_readLevel_L37 (Z : List gH) (rL : Int32 → Int32 → Int32 → gS → Option (Int32 × gS)) (rP : Int32 → Int32 → gS → Option (Int32 × gS)) (l1 : Int32) (l2 : Int32) (l3 : Int32) : Nat → Int32 → Int32 → gS → Option (Int32 × gS)
  | 0, _, _, _ => none
  | n + 1, l4, l5, σ => if l4 ≤ l5 then some (0, σ) else mCall (F_X3_isSignOf Z l1 σ) (fun r1 s2 => if r1 = 0 then some (0, s2) else mLet ((s2 36 5)) (fun v3 => mCall (F_X3_goOn Z s2) (fun r4 s5 => mCall (rL (l1 + 1) l2 l3 s5) (fun r6 s7 => mCall (F_X3_addStep Z (-v3) s7) (fun r8 s9 => F_X3_readLevel_L37 Z rL rP l1 l2 l3 n l4 (l5 + 1) s9)))))
def F_X3_readLevel (Z : List gH) (rL : Int32 → Int32 → Int32 → gS → Option (Int32 × gS)) (rP : Int32 → Int32 → gS → Option (Int32 × gS)) (l1 : Int32) (l2 : Int32) (l3 : Int32) (σ : gS) : Option (Int32 × gS) := if l1 < 5 then mCall (rL (l1 + 1) l2 l3 σ) (fun r1 s2 => if l1 = 2 then F_X3_readLevel_L37 Z rL rP l1 l2 l3 mFuel 1 0 s2 else F_X3_readLevel_L37 Z rL rP l1 l2 l3 mFuel 96 0 s2) else mCall (rP l2 l3 σ) (fun r3 s4 => some (0, s4))
set_option maxRecDepth 20000 in
set_option maxHeartbeats 4000000 in
theorem C_F_X3_readLevel_L37 {g : Nat → List (Nat × Value) → List Value → gS → Prop} {Z : List gH} {ad : Nat → Nat} {z : Int32 × gS} {d : Nat}  {rL : Int32 → Int32 → Int32 → gS → Option (Int32 × gS)} {rP : Int32 → Int32 → gS → Option (Int32 × gS)} (C : gOk g T_X3_readLevel RX3 7 none (6 + d) Z ad z) (hZ : Lay Z) (hrL : ∀ (a b c : Int32), gMet yX3_readLevel cX3_readLevel 7 none (5 + d) Z (fun ad => [.ref (ad 36), .int a, .int b, .int c]) (rL a b c)) (hrP : ∀ (a b : Int32), gMet yX3_readPiece cX3_readPiece 4 none (5 + d) Z (fun ad => [.ref (ad 36), .int a, .int b]) (rP a b)) (l1 : Int32) (l2 : Int32) (l3 : Int32) : ∀ (n : Nat) (l4 : Int32) (l5 : Int32) (σ : gS), F_X3_readLevel_L37 Z rL rP l1 l2 l3 n l4 l5 σ = some z → g 37 [(0, .ref (ad 36)), (1, .int l1), (2, .int l2), (3, .int l3), (4, .int l4), (5, .int l5)] [] σ := by
  intro n
  induction n with
  | zero => intro l4 l5 σ h; cases h
  | succ n ih =>
    intro l4 l5 σ h
    rw [F_X3_readLevel_L37] at h
    refine g_iload C 24 5 rfl rfl ?_
    refine g_iload C 25 4 rfl rfl ?_
    refine g_icmp_ge C 26 84 rfl rfl h (fun h => ?_) (fun h => ?_)
    · exact g_return C 49 rfl h
    · refine g_aload_n C 27 0 rfl rfl ?_
      refine g_iload_n C 28 1 rfl rfl ?_
      refine g_callVi C 29 [.int l1] [] rfl (M_X3_isSignOf hZ l1) cnX3_114 cwX3_isSignOf ciX3_isSignOf (hZ.at (i := 36) rfl) rfl rfl rfl rfl (Nat.le_of_ble_eq_true rfl) ⟨by show _ ≤ _; simp only [gR]; omega, by show _ ≤ _; simp only [gR]; omega⟩ h (fun r1 s2 h => ?_)
      refine g_if_eq C 30 84 rfl rfl h (fun h => ?_) (fun h => ?_)
      · exact g_return C 49 rfl h
      · refine g_aload_n C 31 0 rfl rfl ?_
        refine g_geti C 32 rfl flX3_32 (hZ.at (i := 36) rfl) rfl ?_
        refine g_let h (fun v3 h => ?_)
        refine g_istore C 33 [(6, .int v3), (0, .ref (ad 36)), (1, .int l1), (2, .int l2), (3, .int l3), (4, .int l4), (5, .int l5)] rfl (by decide) rfl ?_
        refine g_aload_n C 34 1 rfl rfl ?_
        refine g_callVv C 35 [] [] rfl (M_X3_goOn hZ) cnX3_35 cwX3_goOn ciX3_goOn (hZ.at (i := 36) rfl) rfl rfl rfl rfl (Nat.le_of_ble_eq_true rfl) ⟨by show _ ≤ _; simp only [gR]; omega, by show _ ≤ _; simp only [gR]; omega⟩ h (fun r4 s5 h => ?_)
        refine g_aload_n C 36 1 rfl rfl ?_
        refine g_iload_n C 37 2 rfl rfl ?_
        refine g_iconst (v := 1) C 38 rfl rfl ?_
        refine g_iadd C 39 rfl ?_
        refine g_iload_n C 40 3 rfl rfl ?_
        refine g_iload_n C 41 4 rfl rfl ?_
        refine g_callVv C 42 [.int (l1 + 1), .int l2, .int l3] [] rfl (hrL (l1 + 1) l2 l3) cnX3_48 cwX3_readLevel ciX3_readLevel (hZ.at (i := 36) rfl) rfl rfl rfl rfl (Nat.le_of_ble_eq_true rfl) ⟨by show _ ≤ _; simp only [gR]; omega, by show _ ≤ _; simp only [gR]; omega⟩ h (fun r6 s7 h => ?_)
        refine g_aload_n C 43 1 rfl rfl ?_
        refine g_iload C 44 0 rfl rfl ?_
        refine g_ineg C 45 rfl ?_
        refine g_callVv C 46 [.int (-v3)] [] rfl (M_X3_addStep hZ (-v3)) cnX3_118 cwX3_addStep ciX3_addStep (hZ.at (i := 36) rfl) rfl rfl rfl rfl (Nat.le_of_ble_eq_true rfl) ⟨by show _ ≤ _; simp only [gR]; omega, by show _ ≤ _; simp only [gR]; omega⟩ h (fun r8 s9 h => ?_)
        refine g_iinc C 47 6 (l5 + 1) [(5, .int (l5 + 1)), (6, .int v3), (0, .ref (ad 36)), (1, .int l1), (2, .int l2), (3, .int l3), (4, .int l4)] rfl rfl (by decide) rfl rfl ?_
        refine g_goto C 48 37 rfl rfl ?_
        refine g_sub C [2, 3, 4, 5, 6, 0] [(0, .ref (ad 36)), (1, .int l1), (2, .int l2), (3, .int l3), (4, .int l4), (5, .int (l5 + 1))] rfl ?_
        exact ih _ _ _ h
set_option maxRecDepth 20000 in
set_option maxHeartbeats 4000000 in
theorem M_X3_readLevel {Z : List gH} {d : Nat} {rL : Int32 → Int32 → Int32 → gS → Option (Int32 × gS)} {rP : Int32 → Int32 → gS → Option (Int32 × gS)} (hZ : Lay Z) (hrL : ∀ (a b c : Int32), gMet yX3_readLevel cX3_readLevel 7 none (5 + d) Z (fun ad => [.ref (ad 36), .int a, .int b, .int c]) (rL a b c)) (hrP : ∀ (a b : Int32), gMet yX3_readPiece cX3_readPiece 4 none (5 + d) Z (fun ad => [.ref (ad 36), .int a, .int b]) (rP a b)) (l1 : Int32) (l2 : Int32) (l3 : Int32) : gMet yX3_readLevel cX3_readLevel 7 none (6 + d) Z (fun ad => [.ref (ad 36), .int l1, .int l2, .int l3]) (F_X3_readLevel Z rL rP l1 l2 l3) := by
  refine gMet_intro T_X3_readLevel T_X3_readLevel_ok rfl (fun _ => Nat.le_of_ble_eq_true rfl) (fun g ad σ z C h => ?_)
  show g 0 [(0, .ref (ad 36)), (1, .int l1), (2, .int l2), (3, .int l3)] [] σ
  rw [F_X3_readLevel] at h
  refine g_iload_n C 0 1 rfl rfl ?_
  refine g_iconst (v := 5) C 1 rfl rfl ?_
  refine g_icmp_lt C 2 12 rfl rfl h (fun h => ?_) (fun h => ?_)
  · refine g_aload_n C 8 0 rfl rfl ?_
    refine g_iload_n C 9 1 rfl rfl ?_
    refine g_iconst (v := 1) C 10 rfl rfl ?_
    refine g_iadd C 11 rfl ?_
    refine g_iload_n C 12 2 rfl rfl ?_
    refine g_iload_n C 13 3 rfl rfl ?_
    refine g_callVv C 14 [.int (l1 + 1), .int l2, .int l3] [] rfl (hrL (l1 + 1) l2 l3) cnX3_48 cwX3_readLevel ciX3_readLevel (hZ.at (i := 36) rfl) rfl rfl rfl rfl (Nat.le_of_ble_eq_true rfl) ⟨by show _ ≤ _; simp only [gR]; omega, by show _ ≤ _; simp only [gR]; omega⟩ h (fun r1 s2 h => ?_)
    refine g_iload_n C 15 1 rfl rfl ?_
    refine g_iconst (v := 2) C 16 rfl rfl ?_
    refine g_icmp_ne C 17 30 rfl rfl h (fun h => ?_) (fun h => ?_)
    · refine g_bipush (v := 96) C 20 rfl rfl ?_
      refine g_istore C 21 [(4, .int 96), (0, .ref (ad 36)), (1, .int l1), (2, .int l2), (3, .int l3)] rfl (by decide) rfl ?_
      refine g_iconst (v := 0) C 22 rfl rfl ?_
      refine g_istore C 23 [(5, .int 0), (4, .int 96), (0, .ref (ad 36)), (1, .int l1), (2, .int l2), (3, .int l3)] rfl (by decide) rfl ?_
      refine g_sub C [2, 3, 4, 5, 1, 0] [(0, .ref (ad 36)), (1, .int l1), (2, .int l2), (3, .int l3), (4, .int 96), (5, .int 0)] rfl ?_
      exact C_F_X3_readLevel_L37 C hZ hrL hrP _ _ _ _ _ _ _ h
    · refine g_iconst (v := 1) C 18 rfl rfl ?_
      refine g_goto C 19 32 rfl rfl ?_
      refine g_istore C 21 [(4, .int 1), (0, .ref (ad 36)), (1, .int l1), (2, .int l2), (3, .int l3)] rfl (by decide) rfl ?_
      refine g_iconst (v := 0) C 22 rfl rfl ?_
      refine g_istore C 23 [(5, .int 0), (4, .int 1), (0, .ref (ad 36)), (1, .int l1), (2, .int l2), (3, .int l3)] rfl (by decide) rfl ?_
      refine g_sub C [2, 3, 4, 5, 1, 0] [(0, .ref (ad 36)), (1, .int l1), (2, .int l2), (3, .int l3), (4, .int 1), (5, .int 0)] rfl ?_
      exact C_F_X3_readLevel_L37 C hZ hrL hrP _ _ _ _ _ _ _ h
  · refine g_aload_n C 3 0 rfl rfl ?_
    refine g_iload_n C 4 2 rfl rfl ?_
    refine g_iload_n C 5 3 rfl rfl ?_
    refine g_callVv C 6 [.int l2, .int l3] [] rfl (hrP l2 l3) cnX3_110 cwX3_readPiece ciX3_readPiece (hZ.at (i := 36) rfl) rfl rfl rfl rfl (Nat.le_of_ble_eq_true rfl) ⟨by show _ ≤ _; simp only [gR]; omega, by show _ ≤ _; simp only [gR]; omega⟩ h (fun r3 s4 h => ?_)
    exact g_return C 7 rfl h
def T_X3_readPiece : List (Nat × Instr × Nat) := [(0, .aload_n 0, 1), (1, .invokevirtual 122, 3), (4, .istore_n 3, 1), (5, .iload_n 3, 1), (6, .ifCond .lt 15, 3), (9, .aload_n 0, 1), (10, .sipush 10000, 3), (13, .iload_n 3, 1), (14, .iadd, 1), (15, .invokevirtual 127, 3), (18, .goto 127, 3), (21, .aload_n 0, 1), (22, .getfield 32, 3), (25, .bipush (-3), 2), (27, .if_icmp .ne 27, 3), (30, .aload_n 0, 1), (31, .getfield 29, 3), (34, .aload_n 0, 1), (35, .getfield 63, 3), (38, .isub, 1), (39, .iconst 4, 1), (40, .if_icmp .gt 14, 3), (43, .aload_n 0, 1), (44, .aload_n 0, 1), (45, .invokevirtual 130, 3), (48, .invokevirtual 127, 3), (51, .goto 94, 3), (54, .aload_n 0, 1), (55, .getfield 32, 3), (58, .bipush 33, 2), (60, .if_icmp .ne 30, 3), (63, .iload_n 2, 1), (64, .bipush 8, 2), (66, .if_icmp .ge 24, 3), (69, .aload_n 0, 1), (70, .invokevirtual 35, 3), (73, .aload_n 0, 1), (74, .iload_n 1, 1), (75, .iload_n 2, 1), (76, .iconst 1, 1), (77, .iadd, 1), (78, .invokevirtual 110, 3), (81, .aload_n 0, 1), (82, .bipush (-33), 2), (84, .invokevirtual 118, 3), (87, .goto 58, 3), (90, .aload_n 0, 1), (91, .getfield 32, 3), (94, .bipush 40, 2), (96, .if_icmp .ne 45, 3), (99, .iload_n 1, 1), (100, .bipush 8, 2), (102, .if_icmp .ge 39, 3), (105, .aload_n 0, 1), (106, .invokevirtual 35, 3), (109, .aload_n 0, 1), (110, .iconst 0, 1), (111, .iload_n 1, 1), (112, .iconst 1, 1), (113, .iadd, 1), (114, .iload_n 2, 1), (115, .invokevirtual 48, 3), (118, .aload_n 0, 1), (119, .getfield 32, 3), (122, .bipush 41, 2), (124, .if_icmp .ne 10, 3), (127, .aload_n 0, 1), (128, .invokevirtual 35, 3), (131, .goto 14, 3), (134, .aload_n 0, 1), (135, .invokevirtual 45, 3), (138, .goto 7, 3), (141, .aload_n 0, 1), (142, .invokevirtual 45, 3), (145, .return_, 1)]
theorem T_X3_readPiece_ok : gTb cX3_readPiece T_X3_readPiece = true := by decide +kernel
def F_X3_readPiece_J90 (Z : List gH) (rL : Int32 → Int32 → Int32 → gS → Option (Int32 × gS)) (rP : Int32 → Int32 → gS → Option (Int32 × gS)) (l1 : Int32) (l2 : Int32) (σ : gS) : Option (Int32 × gS) := if (σ 36 5) = 40 then if 8 ≤ l1 then mCall (F_X3_stop Z σ) (fun r3 s4 => some (0, s4)) else mCall (F_X3_goOn Z σ) (fun r5 s6 => mCall (rL 0 (l1 + 1) l2 s6) (fun r7 s8 => if (s8 36 5) = 41 then mCall (F_X3_goOn Z s8) (fun r11 s12 => some (0, s12)) else mCall (F_X3_stop Z s8) (fun r9 s10 => some (0, s10)))) else mCall (F_X3_stop Z σ) (fun r1 s2 => some (0, s2))
def F_X3_readPiece_J54 (Z : List gH) (rL : Int32 → Int32 → Int32 → gS → Option (Int32 × gS)) (rP : Int32 → Int32 → gS → Option (Int32 × gS)) (l1 : Int32) (l2 : Int32) (σ : gS) : Option (Int32 × gS) := if (σ 36 5) = 33 then if 8 ≤ l2 then F_X3_readPiece_J90 Z rL rP l1 l2 σ else mCall (F_X3_goOn Z σ) (fun r1 s2 => mCall (rP l1 (l2 + 1) s2) (fun r3 s4 => mCall (F_X3_addStep Z (-33) s4) (fun r5 s6 => some (0, s6)))) else F_X3_readPiece_J90 Z rL rP l1 l2 σ
def F_X3_readPiece (Z : List gH) (rL : Int32 → Int32 → Int32 → gS → Option (Int32 × gS)) (rP : Int32 → Int32 → gS → Option (Int32 × gS)) (l1 : Int32) (l2 : Int32) (σ : gS) : Option (Int32 × gS) := mCall (F_X3_nameRead Z σ) (fun r1 s2 => if r1 < 0 then if (s2 36 5) = (-3) then if 4 < ((s2 36 7) - (s2 36 6)) then F_X3_readPiece_J54 Z rL rP l1 l2 s2 else mCall (F_X3_numberRead Z s2) (fun r3 s4 => mCall (F_X3_addOperand Z r3 s4) (fun r5 s6 => some (0, s6))) else F_X3_readPiece_J54 Z rL rP l1 l2 s2 else mCall (F_X3_addOperand Z (10000 + r1) s2) (fun r7 s8 => some (0, s8)))
set_option maxRecDepth 20000 in
set_option maxHeartbeats 4000000 in
theorem C_F_X3_readPiece_J90 {g : Nat → List (Nat × Value) → List Value → gS → Prop} {Z : List gH} {ad : Nat → Nat} {z : Int32 × gS} {d : Nat}  {rL : Int32 → Int32 → Int32 → gS → Option (Int32 × gS)} {rP : Int32 → Int32 → gS → Option (Int32 × gS)} (C : gOk g T_X3_readPiece RX3 4 none (6 + d) Z ad z) (hZ : Lay Z) (hrL : ∀ (a b c : Int32), gMet yX3_readLevel cX3_readLevel 7 none (5 + d) Z (fun ad => [.ref (ad 36), .int a, .int b, .int c]) (rL a b c)) (hrP : ∀ (a b : Int32), gMet yX3_readPiece cX3_readPiece 4 none (5 + d) Z (fun ad => [.ref (ad 36), .int a, .int b]) (rP a b)) (l1 : Int32) (l2 : Int32) (σ : gS) (h : F_X3_readPiece_J90 Z rL rP l1 l2  σ = some z) : g 90 [(0, .ref (ad 36)), (1, .int l1), (2, .int l2)] [] σ := by
  rw [F_X3_readPiece_J90] at h
  refine g_aload_n C 46 0 rfl rfl ?_
  refine g_geti C 47 rfl flX3_32 (hZ.at (i := 36) rfl) rfl ?_
  refine g_bipush (v := 40) C 48 rfl rfl ?_
  refine g_icmp_ne C 49 141 rfl rfl h (fun h => ?_) (fun h => ?_)
  · refine g_aload_n C 72 0 rfl rfl ?_
    refine g_callVv C 73 [] [] rfl (M_X3_stop hZ) cnX3_45 cwX3_stop ciX3_stop (hZ.at (i := 36) rfl) rfl rfl rfl rfl (Nat.le_of_ble_eq_true rfl) ⟨by show _ ≤ _; simp only [gR]; omega, by show _ ≤ _; simp only [gR]; omega⟩ h (fun r1 s2 h => ?_)
    exact g_return C 74 rfl h
  · refine g_iload_n C 50 1 rfl rfl ?_
    refine g_bipush (v := 8) C 51 rfl rfl ?_
    refine g_icmp_ge C 52 141 rfl rfl h (fun h => ?_) (fun h => ?_)
    · refine g_aload_n C 72 0 rfl rfl ?_
      refine g_callVv C 73 [] [] rfl (M_X3_stop hZ) cnX3_45 cwX3_stop ciX3_stop (hZ.at (i := 36) rfl) rfl rfl rfl rfl (Nat.le_of_ble_eq_true rfl) ⟨by show _ ≤ _; simp only [gR]; omega, by show _ ≤ _; simp only [gR]; omega⟩ h (fun r3 s4 h => ?_)
      exact g_return C 74 rfl h
    · refine g_aload_n C 53 0 rfl rfl ?_
      refine g_callVv C 54 [] [] rfl (M_X3_goOn hZ) cnX3_35 cwX3_goOn ciX3_goOn (hZ.at (i := 36) rfl) rfl rfl rfl rfl (Nat.le_of_ble_eq_true rfl) ⟨by show _ ≤ _; simp only [gR]; omega, by show _ ≤ _; simp only [gR]; omega⟩ h (fun r5 s6 h => ?_)
      refine g_aload_n C 55 0 rfl rfl ?_
      refine g_iconst (v := 0) C 56 rfl rfl ?_
      refine g_iload_n C 57 1 rfl rfl ?_
      refine g_iconst (v := 1) C 58 rfl rfl ?_
      refine g_iadd C 59 rfl ?_
      refine g_iload_n C 60 2 rfl rfl ?_
      refine g_callVv C 61 [.int 0, .int (l1 + 1), .int l2] [] rfl (hrL 0 (l1 + 1) l2) cnX3_48 cwX3_readLevel ciX3_readLevel (hZ.at (i := 36) rfl) rfl rfl rfl rfl (Nat.le_of_ble_eq_true rfl) ⟨by show _ ≤ _; simp only [gR]; omega, by show _ ≤ _; simp only [gR]; omega⟩ h (fun r7 s8 h => ?_)
      refine g_aload_n C 62 0 rfl rfl ?_
      refine g_geti C 63 rfl flX3_32 (hZ.at (i := 36) rfl) rfl ?_
      refine g_bipush (v := 41) C 64 rfl rfl ?_
      refine g_icmp_ne C 65 134 rfl rfl h (fun h => ?_) (fun h => ?_)
      · refine g_aload_n C 69 0 rfl rfl ?_
        refine g_callVv C 70 [] [] rfl (M_X3_stop hZ) cnX3_45 cwX3_stop ciX3_stop (hZ.at (i := 36) rfl) rfl rfl rfl rfl (Nat.le_of_ble_eq_true rfl) ⟨by show _ ≤ _; simp only [gR]; omega, by show _ ≤ _; simp only [gR]; omega⟩ h (fun r9 s10 h => ?_)
        refine g_goto C 71 145 rfl rfl ?_
        exact g_return C 74 rfl h
      · refine g_aload_n C 66 0 rfl rfl ?_
        refine g_callVv C 67 [] [] rfl (M_X3_goOn hZ) cnX3_35 cwX3_goOn ciX3_goOn (hZ.at (i := 36) rfl) rfl rfl rfl rfl (Nat.le_of_ble_eq_true rfl) ⟨by show _ ≤ _; simp only [gR]; omega, by show _ ≤ _; simp only [gR]; omega⟩ h (fun r11 s12 h => ?_)
        refine g_goto C 68 145 rfl rfl ?_
        exact g_return C 74 rfl h
set_option maxRecDepth 20000 in
set_option maxHeartbeats 4000000 in
theorem C_F_X3_readPiece_J54 {g : Nat → List (Nat × Value) → List Value → gS → Prop} {Z : List gH} {ad : Nat → Nat} {z : Int32 × gS} {d : Nat}  {rL : Int32 → Int32 → Int32 → gS → Option (Int32 × gS)} {rP : Int32 → Int32 → gS → Option (Int32 × gS)} (C : gOk g T_X3_readPiece RX3 4 none (6 + d) Z ad z) (hZ : Lay Z) (hrL : ∀ (a b c : Int32), gMet yX3_readLevel cX3_readLevel 7 none (5 + d) Z (fun ad => [.ref (ad 36), .int a, .int b, .int c]) (rL a b c)) (hrP : ∀ (a b : Int32), gMet yX3_readPiece cX3_readPiece 4 none (5 + d) Z (fun ad => [.ref (ad 36), .int a, .int b]) (rP a b)) (l1 : Int32) (l2 : Int32) (σ : gS) (h : F_X3_readPiece_J54 Z rL rP l1 l2  σ = some z) : g 54 [(0, .ref (ad 36)), (1, .int l1), (2, .int l2)] [] σ := by
  rw [F_X3_readPiece_J54] at h
  refine g_aload_n C 27 0 rfl rfl ?_
  refine g_geti C 28 rfl flX3_32 (hZ.at (i := 36) rfl) rfl ?_
  refine g_bipush (v := 33) C 29 rfl rfl ?_
  refine g_icmp_ne C 30 90 rfl rfl h (fun h => ?_) (fun h => ?_)
  · exact C_F_X3_readPiece_J90 C hZ hrL hrP _ _ _ h
  · refine g_iload_n C 31 2 rfl rfl ?_
    refine g_bipush (v := 8) C 32 rfl rfl ?_
    refine g_icmp_ge C 33 90 rfl rfl h (fun h => ?_) (fun h => ?_)
    · exact C_F_X3_readPiece_J90 C hZ hrL hrP _ _ _ h
    · refine g_aload_n C 34 0 rfl rfl ?_
      refine g_callVv C 35 [] [] rfl (M_X3_goOn hZ) cnX3_35 cwX3_goOn ciX3_goOn (hZ.at (i := 36) rfl) rfl rfl rfl rfl (Nat.le_of_ble_eq_true rfl) ⟨by show _ ≤ _; simp only [gR]; omega, by show _ ≤ _; simp only [gR]; omega⟩ h (fun r1 s2 h => ?_)
      refine g_aload_n C 36 0 rfl rfl ?_
      refine g_iload_n C 37 1 rfl rfl ?_
      refine g_iload_n C 38 2 rfl rfl ?_
      refine g_iconst (v := 1) C 39 rfl rfl ?_
      refine g_iadd C 40 rfl ?_
      refine g_callVv C 41 [.int l1, .int (l2 + 1)] [] rfl (hrP l1 (l2 + 1)) cnX3_110 cwX3_readPiece ciX3_readPiece (hZ.at (i := 36) rfl) rfl rfl rfl rfl (Nat.le_of_ble_eq_true rfl) ⟨by show _ ≤ _; simp only [gR]; omega, by show _ ≤ _; simp only [gR]; omega⟩ h (fun r3 s4 h => ?_)
      refine g_aload_n C 42 0 rfl rfl ?_
      refine g_bipush (v := (-33)) C 43 rfl rfl ?_
      refine g_callVv C 44 [.int (-33)] [] rfl (M_X3_addStep hZ (-33)) cnX3_118 cwX3_addStep ciX3_addStep (hZ.at (i := 36) rfl) rfl rfl rfl rfl (Nat.le_of_ble_eq_true rfl) ⟨by show _ ≤ _; simp only [gR]; omega, by show _ ≤ _; simp only [gR]; omega⟩ h (fun r5 s6 h => ?_)
      refine g_goto C 45 145 rfl rfl ?_
      exact g_return C 74 rfl h
set_option maxRecDepth 20000 in
set_option maxHeartbeats 4000000 in
theorem M_X3_readPiece {Z : List gH} {d : Nat} {rL : Int32 → Int32 → Int32 → gS → Option (Int32 × gS)} {rP : Int32 → Int32 → gS → Option (Int32 × gS)} (hZ : Lay Z) (hrL : ∀ (a b c : Int32), gMet yX3_readLevel cX3_readLevel 7 none (5 + d) Z (fun ad => [.ref (ad 36), .int a, .int b, .int c]) (rL a b c)) (hrP : ∀ (a b : Int32), gMet yX3_readPiece cX3_readPiece 4 none (5 + d) Z (fun ad => [.ref (ad 36), .int a, .int b]) (rP a b)) (l1 : Int32) (l2 : Int32) : gMet yX3_readPiece cX3_readPiece 4 none (6 + d) Z (fun ad => [.ref (ad 36), .int l1, .int l2]) (F_X3_readPiece Z rL rP l1 l2) := by
  refine gMet_intro T_X3_readPiece T_X3_readPiece_ok rfl (fun _ => Nat.le_of_ble_eq_true rfl) (fun g ad σ z C h => ?_)
  show g 0 [(0, .ref (ad 36)), (1, .int l1), (2, .int l2)] [] σ
  rw [F_X3_readPiece] at h
  refine g_aload_n C 0 0 rfl rfl ?_
  refine g_callVi C 1 [] [] rfl (M_X3_nameRead hZ) cnX3_122 cwX3_nameRead ciX3_nameRead (hZ.at (i := 36) rfl) rfl rfl rfl rfl (Nat.le_of_ble_eq_true rfl) ⟨by show _ ≤ _; simp only [gR]; omega, by show _ ≤ _; simp only [gR]; omega⟩ h (fun r1 s2 h => ?_)
  refine g_istore_n C 2 [(3, .int r1), (0, .ref (ad 36)), (1, .int l1), (2, .int l2)] rfl (by decide) rfl ?_
  refine g_iload_n C 3 0 rfl rfl ?_
  refine g_if_lt C 4 21 rfl rfl h (fun h => ?_) (fun h => ?_)
  · refine g_aload_n C 11 1 rfl rfl ?_
    refine g_geti C 12 rfl flX3_32 (hZ.at (i := 36) rfl) rfl ?_
    refine g_bipush (v := (-3)) C 13 rfl rfl ?_
    refine g_icmp_ne C 14 54 rfl rfl h (fun h => ?_) (fun h => ?_)
    · refine g_sub C [1, 2, 3] [(0, .ref (ad 36)), (1, .int l1), (2, .int l2)] rfl ?_
      exact C_F_X3_readPiece_J54 C hZ hrL hrP _ _ _ h
    · refine g_aload_n C 15 1 rfl rfl ?_
      refine g_geti C 16 rfl flX3_29 (hZ.at (i := 36) rfl) rfl ?_
      refine g_aload_n C 17 1 rfl rfl ?_
      refine g_geti C 18 rfl flX3_63 (hZ.at (i := 36) rfl) rfl ?_
      refine g_isub C 19 rfl ?_
      refine g_iconst (v := 4) C 20 rfl rfl ?_
      refine g_icmp_gt C 21 54 rfl rfl h (fun h => ?_) (fun h => ?_)
      · refine g_sub C [1, 2, 3] [(0, .ref (ad 36)), (1, .int l1), (2, .int l2)] rfl ?_
        exact C_F_X3_readPiece_J54 C hZ hrL hrP _ _ _ h
      · refine g_aload_n C 22 1 rfl rfl ?_
        refine g_aload_n C 23 1 rfl rfl ?_
        refine g_callVi C 24 [] [.ref (ad 36)] rfl (M_X3_numberRead hZ) cnX3_130 cwX3_numberRead ciX3_numberRead (hZ.at (i := 36) rfl) rfl rfl rfl rfl (Nat.le_of_ble_eq_true rfl) ⟨by show _ ≤ _; simp only [gR]; omega, by show _ ≤ _; simp only [gR]; omega⟩ h (fun r3 s4 h => ?_)
        refine g_callVv C 25 [.int r3] [] rfl (M_X3_addOperand hZ r3) cnX3_127 cwX3_addOperand ciX3_addOperand (hZ.at (i := 36) rfl) rfl rfl rfl rfl (Nat.le_of_ble_eq_true rfl) ⟨by show _ ≤ _; simp only [gR]; omega, by show _ ≤ _; simp only [gR]; omega⟩ h (fun r5 s6 h => ?_)
        refine g_goto C 26 145 rfl rfl ?_
        exact g_return C 74 rfl h
  · refine g_aload_n C 5 1 rfl rfl ?_
    refine g_sipush (v := 10000) C 6 rfl rfl ?_
    refine g_iload_n C 7 0 rfl rfl ?_
    refine g_iadd C 8 rfl ?_
    refine g_callVv C 9 [.int (10000 + r1)] [] rfl (M_X3_addOperand hZ (10000 + r1)) cnX3_127 cwX3_addOperand ciX3_addOperand (hZ.at (i := 36) rfl) rfl rfl rfl rfl (Nat.le_of_ble_eq_true rfl) ⟨by show _ ≤ _; simp only [gR]; omega, by show _ ≤ _; simp only [gR]; omega⟩ h (fun r7 s8 h => ?_)
    refine g_goto C 10 145 rfl rfl ?_
    exact g_return C 74 rfl h
def F_RD (Z : List gH) : Nat → (Int32 → Int32 → Int32 → gS → Option (Int32 × gS)) × (Int32 → Int32 → gS → Option (Int32 × gS))
  | 0 => (fun _ _ _ _ => none, fun _ _ _ => none)
  | d + 1 => (F_X3_readLevel Z (F_RD Z d).1 (F_RD Z d).2, F_X3_readPiece Z (F_RD Z d).1 (F_RD Z d).2)
theorem M_RD {Z : List gH} (hZ : Lay Z) : ∀ (d : Nat), (∀ (a b c : Int32), gMet yX3_readLevel cX3_readLevel 7 none (5 + d) Z (fun ad => [.ref (ad 36), .int a, .int b, .int c]) ((F_RD Z d).1 a b c)) ∧ (∀ (a b : Int32), gMet yX3_readPiece cX3_readPiece 4 none (5 + d) Z (fun ad => [.ref (ad 36), .int a, .int b]) ((F_RD Z d).2 a b)) := by
  intro d
  induction d with
  | zero => exact ⟨fun a b c l D cy ad sz σ z h => (by cases h), fun a b l D cy ad sz σ z h => (by cases h)⟩
  | succ d ih =>
    rw [show 5 + (d + 1) = 6 + d by omega]
    exact ⟨fun a b c => M_X3_readLevel (d := d) hZ ih.1 ih.2 a b c, fun a b => M_X3_readPiece (d := d) hZ ih.1 ih.2 a b⟩
def T_X3_readText : List (Nat × Instr × Nat) := [(0, .aload_n 0, 1), (1, .iconst 0, 1), (2, .putfield 19, 3), (5, .aload_n 0, 1), (6, .iconst 0, 1), (7, .putfield 23, 3), (10, .aload_n 0, 1), (11, .iconst (-1), 1), (12, .putfield 26, 3), (15, .aload_n 0, 1), (16, .iconst 0, 1), (17, .putfield 29, 3), (20, .aload_n 0, 1), (21, .iconst (-1), 1), (22, .putfield 32, 3), (25, .aload_n 0, 1), (26, .invokevirtual 35, 3), (29, .aload_n 0, 1), (30, .aload_n 0, 1), (31, .invokevirtual 38, 3), (34, .putfield 42, 3), (37, .aload_n 0, 1), (38, .getfield 42, 3), (41, .ifCond .ge 8, 3), (44, .aload_n 0, 1), (45, .invokevirtual 45, 3), (48, .return_, 1), (49, .aload_n 0, 1), (50, .invokevirtual 35, 3), (53, .aload_n 0, 1), (54, .iconst 0, 1), (55, .iconst 0, 1), (56, .iconst 0, 1), (57, .invokevirtual 48, 3), (60, .aload_n 0, 1), (61, .getfield 32, 3), (64, .iconst (-1), 1), (65, .if_icmp .eq 7, 3), (68, .aload_n 0, 1), (69, .invokevirtual 45, 3), (72, .return_, 1)]
theorem T_X3_readText_ok : gTb cX3_readText T_X3_readText = true := by decide +kernel
def F_X3_readText (Z : List gH) (σ : gS) : Option (Int32 × gS) := mLet (gu σ 36 2 0) (fun s1 => mLet (gu s1 36 3 0) (fun s2 => mLet (gu s2 36 8 (-1)) (fun s3 => mLet (gu s3 36 7 0) (fun s4 => mLet (gu s4 36 5 (-1)) (fun s5 => mCall (F_X3_goOn Z s5) (fun r6 s7 => mCall (F_X3_keyRead Z s7) (fun r8 s9 => mLet (gu s9 36 4 r8) (fun s10 => if 0 ≤ (s10 36 4) then mCall (F_X3_goOn Z s10) (fun r11 s12 => mCall ((F_RD Z 120).1 0 0 0 s12) (fun r13 s14 => if (s14 36 5) = (-1) then some (0, s14) else mCall (F_X3_stop Z s14) (fun r15 s16 => some (0, s16)))) else mCall (F_X3_stop Z s10) (fun r17 s18 => some (0, s18))))))))))
set_option maxRecDepth 20000 in
set_option maxHeartbeats 4000000 in
theorem M_X3_readText {Z : List gH} (hZ : Lay Z) : gMet yX3_readText cX3_readText 1 none 126 Z (fun ad => [.ref (ad 36)]) (F_X3_readText Z) := by
  refine gMet_intro T_X3_readText T_X3_readText_ok rfl (fun _ => Nat.le_of_ble_eq_true rfl) (fun g ad σ z C h => ?_)
  show g 0 [(0, .ref (ad 36))] [] σ
  rw [F_X3_readText] at h
  refine g_aload_n C 0 0 rfl rfl ?_
  refine g_iconst (v := 0) C 1 rfl rfl ?_
  refine g_put C 2 rfl fpX3_19 (hZ.at (i := 36) rfl) rfl rfl rfl h (fun s1 h => ?_)
  refine g_aload_n C 3 0 rfl rfl ?_
  refine g_iconst (v := 0) C 4 rfl rfl ?_
  refine g_put C 5 rfl fpX3_23 (hZ.at (i := 36) rfl) rfl rfl rfl h (fun s2 h => ?_)
  refine g_aload_n C 6 0 rfl rfl ?_
  refine g_iconst (v := (-1)) C 7 rfl rfl ?_
  refine g_put C 8 rfl fpX3_26 (hZ.at (i := 36) rfl) rfl rfl rfl h (fun s3 h => ?_)
  refine g_aload_n C 9 0 rfl rfl ?_
  refine g_iconst (v := 0) C 10 rfl rfl ?_
  refine g_put C 11 rfl fpX3_29 (hZ.at (i := 36) rfl) rfl rfl rfl h (fun s4 h => ?_)
  refine g_aload_n C 12 0 rfl rfl ?_
  refine g_iconst (v := (-1)) C 13 rfl rfl ?_
  refine g_put C 14 rfl fpX3_32 (hZ.at (i := 36) rfl) rfl rfl rfl h (fun s5 h => ?_)
  refine g_aload_n C 15 0 rfl rfl ?_
  refine g_callVv C 16 [] [] rfl (M_X3_goOn hZ) cnX3_35 cwX3_goOn ciX3_goOn (hZ.at (i := 36) rfl) rfl rfl rfl rfl (Nat.le_of_ble_eq_true rfl) ⟨Nat.le_of_ble_eq_true rfl, Nat.le_of_ble_eq_true rfl⟩ h (fun r6 s7 h => ?_)
  refine g_aload_n C 17 0 rfl rfl ?_
  refine g_aload_n C 18 0 rfl rfl ?_
  refine g_callVi C 19 [] [.ref (ad 36)] rfl (M_X3_keyRead hZ) cnX3_38 cwX3_keyRead ciX3_keyRead (hZ.at (i := 36) rfl) rfl rfl rfl rfl (Nat.le_of_ble_eq_true rfl) ⟨Nat.le_of_ble_eq_true rfl, Nat.le_of_ble_eq_true rfl⟩ h (fun r8 s9 h => ?_)
  refine g_put C 20 rfl fpX3_42 (hZ.at (i := 36) rfl) rfl rfl rfl h (fun s10 h => ?_)
  refine g_aload_n C 21 0 rfl rfl ?_
  refine g_geti C 22 rfl flX3_42 (hZ.at (i := 36) rfl) rfl ?_
  refine g_if_ge C 23 49 rfl rfl h (fun h => ?_) (fun h => ?_)
  · refine g_aload_n C 27 0 rfl rfl ?_
    refine g_callVv C 28 [] [] rfl (M_X3_goOn hZ) cnX3_35 cwX3_goOn ciX3_goOn (hZ.at (i := 36) rfl) rfl rfl rfl rfl (Nat.le_of_ble_eq_true rfl) ⟨Nat.le_of_ble_eq_true rfl, Nat.le_of_ble_eq_true rfl⟩ h (fun r11 s12 h => ?_)
    refine g_aload_n C 29 0 rfl rfl ?_
    refine g_iconst (v := 0) C 30 rfl rfl ?_
    refine g_iconst (v := 0) C 31 rfl rfl ?_
    refine g_iconst (v := 0) C 32 rfl rfl ?_
    refine g_callVv C 33 [.int 0, .int 0, .int 0] [] rfl ((M_RD hZ 120).1 0 0 0) cnX3_48 cwX3_readLevel ciX3_readLevel (hZ.at (i := 36) rfl) rfl rfl rfl rfl (Nat.le_of_ble_eq_true rfl) ⟨Nat.le_of_ble_eq_true rfl, Nat.le_of_ble_eq_true rfl⟩ h (fun r13 s14 h => ?_)
    refine g_aload_n C 34 0 rfl rfl ?_
    refine g_geti C 35 rfl flX3_32 (hZ.at (i := 36) rfl) rfl ?_
    refine g_iconst (v := (-1)) C 36 rfl rfl ?_
    refine g_icmp_eq C 37 72 rfl rfl h (fun h => ?_) (fun h => ?_)
    · exact g_return C 40 rfl h
    · refine g_aload_n C 38 0 rfl rfl ?_
      refine g_callVv C 39 [] [] rfl (M_X3_stop hZ) cnX3_45 cwX3_stop ciX3_stop (hZ.at (i := 36) rfl) rfl rfl rfl rfl (Nat.le_of_ble_eq_true rfl) ⟨Nat.le_of_ble_eq_true rfl, Nat.le_of_ble_eq_true rfl⟩ h (fun r15 s16 h => ?_)
      exact g_return C 40 rfl h
  · refine g_aload_n C 24 0 rfl rfl ?_
    refine g_callVv C 25 [] [] rfl (M_X3_stop hZ) cnX3_45 cwX3_stop ciX3_stop (hZ.at (i := 36) rfl) rfl rfl rfl rfl (Nat.le_of_ble_eq_true rfl) ⟨Nat.le_of_ble_eq_true rfl, Nat.le_of_ble_eq_true rfl⟩ h (fun r17 s18 h => ?_)
    exact g_return C 26 rfl h
