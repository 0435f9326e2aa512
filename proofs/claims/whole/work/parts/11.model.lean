def T_X10_in : List (Nat × Instr × Nat) := [(0, .iload_n 0, 1), (1, .iload_n 1, 1), (2, .if_icmp .lt 12, 3), (5, .iload_n 0, 1), (6, .iload_n 2, 1), (7, .if_icmp .gt 7, 3), (10, .iconst 1, 1), (11, .goto 4, 3), (14, .iconst 0, 1), (15, .ireturn, 1)]
theorem T_X10_in_ok : gTb cX10_in T_X10_in = true := by decide +kernel
def F_X10_in (Z : List gH) (l0 : Int32) (l1 : Int32) (l2 : Int32) (σ : gS) : Option (Int32 × gS) := if l0 < l1 then mZ 0 σ else if l2 < l0 then mZ 0 σ else mZ 1 σ
set_option maxRecDepth 20000 in
set_option maxHeartbeats 4000000 in
theorem M_X10_in {Z : List gH} (hZ : Lay Z) (l0 : Int32) (l1 : Int32) (l2 : Int32) : gMet yX10_in cX10_in 3 (some .boolean) 1 Z (fun ad => [.int l0, .int l1, .int l2]) (F_X10_in Z l0 l1 l2) := by
  refine gMet_intro T_X10_in T_X10_in_ok rfl (fun _ => Nat.le_of_ble_eq_true rfl) (fun g ad σ z C h => ?_)
  show g 0 [(0, .int l0), (1, .int l1), (2, .int l2)] [] σ
  rw [F_X10_in] at h
  refine g_iload_n C 0 0 rfl rfl ?_
  refine g_iload_n C 1 1 rfl rfl ?_
  refine g_icmp_lt C 2 14 rfl rfl h (fun h => ?_) (fun h => ?_)
  · refine g_iconst (v := 0) C 8 rfl rfl ?_
    exact g_zreturn C 9 rfl h
  · refine g_iload_n C 3 0 rfl rfl ?_
    refine g_iload_n C 4 2 rfl rfl ?_
    refine g_icmp_gt C 5 14 rfl rfl h (fun h => ?_) (fun h => ?_)
    · refine g_iconst (v := 0) C 8 rfl rfl ?_
      exact g_zreturn C 9 rfl h
    · refine g_iconst (v := 1) C 6 rfl rfl ?_
      refine g_goto C 7 15 rfl rfl ?_
      exact g_zreturn C 9 rfl h
def T_X10_put : List (Nat × Instr × Nat) := [(0, .aload_n 0, 1), (1, .getfield 9, 3), (4, .bipush 82, 2), (6, .iconst 4, 1), (7, .iload_n 1, 1), (8, .imul, 1), (9, .iadd, 1), (10, .iload_n 2, 1), (11, .iadd, 1), (12, .iload_n 3, 1), (13, .iastore, 1), (14, .return_, 1)]
theorem T_X10_put_ok : gTb cX10_put T_X10_put = true := by decide +kernel
def F_X10_put (Z : List gH) (l1 : Int32) (l2 : Int32) (l3 : Int32) (σ : gS) : Option (Int32 × gS) := mIn 1508 ((82 + (4 * l1)) + l2) (mLet (gu σ 66 (nn ((82 + (4 * l1)) + l2)) l3) (fun s1 => some (0, s1)))
set_option maxRecDepth 20000 in
set_option maxHeartbeats 4000000 in
theorem M_X10_put {Z : List gH} (hZ : Lay Z) (l1 : Int32) (l2 : Int32) (l3 : Int32) : gMet yX10_put cX10_put 4 none 1 Z (fun ad => [.ref (ad 65), .int l1, .int l2, .int l3]) (F_X10_put Z l1 l2 l3) := by
  refine gMet_intro T_X10_put T_X10_put_ok rfl (fun _ => Nat.le_of_ble_eq_true rfl) (fun g ad σ z C h => ?_)
  show g 0 [(0, .ref (ad 65)), (1, .int l1), (2, .int l2), (3, .int l3)] [] σ
  rw [F_X10_put] at h
  refine g_aload_n C 0 0 rfl rfl ?_
  refine g_getr (b := 66) C 1 rfl flX10_9 (hZ.at (i := 65) rfl) rfl ?_
  refine g_bipush (v := 82) C 2 rfl rfl ?_
  refine g_iconst (v := 4) C 3 rfl rfl ?_
  refine g_iload_n C 4 1 rfl rfl ?_
  refine g_imul C 5 rfl ?_
  refine g_iadd C 6 rfl ?_
  refine g_iload_n C 7 2 rfl rfl ?_
  refine g_iadd C 8 rfl ?_
  refine g_iload_n C 9 3 rfl rfl ?_
  refine g_iast C 10 rfl (hZ.at (i := 66) rfl) h (fun s1 h => ?_)
  exact g_return C 11 rfl h
def T_X10_comes : List (Nat × Instr × Nat) := [(0, .aload_n 0, 1), (1, .getfield 9, 3), (4, .iconst 1, 1), (5, .iaload, 1), (6, .istore 5, 2), (8, .aload_n 0, 1), (9, .getfield 9, 3), (12, .iconst 1, 1), (13, .dup2, 1), (14, .iaload, 1), (15, .iconst 1, 1), (16, .iadd, 1), (17, .iastore, 1), (18, .aload_n 0, 1), (19, .iload 5, 2), (21, .iconst 0, 1), (22, .iload_n 1, 1), (23, .invokevirtual 107, 3), (26, .aload_n 0, 1), (27, .iload 5, 2), (29, .iconst 1, 1), (30, .iload_n 2, 1), (31, .invokevirtual 107, 3), (34, .aload_n 0, 1), (35, .iload 5, 2), (37, .iconst 2, 1), (38, .iload_n 3, 1), (39, .invokevirtual 107, 3), (42, .aload_n 0, 1), (43, .iload 5, 2), (45, .iconst 3, 1), (46, .iload 4, 2), (48, .invokevirtual 107, 3), (51, .iload 5, 2), (53, .ireturn, 1)]
theorem T_X10_comes_ok : gTb cX10_comes T_X10_comes = true := by decide +kernel
def F_X10_comes (Z : List gH) (l1 : Int32) (l2 : Int32) (l3 : Int32) (l4 : Int32) (σ : gS) : Option (Int32 × gS) := mLet ((σ 66 1)) (fun v1 => mLet (gu σ 66 1 ((σ 66 1) + 1)) (fun s2 => mCall (F_X10_put Z v1 0 l1 s2) (fun r3 s4 => mCall (F_X10_put Z v1 1 l2 s4) (fun r5 s6 => mCall (F_X10_put Z v1 2 l3 s6) (fun r7 s8 => mCall (F_X10_put Z v1 3 l4 s8) (fun r9 s10 => some (v1, s10)))))))
set_option maxRecDepth 20000 in
set_option maxHeartbeats 4000000 in
theorem M_X10_comes {Z : List gH} (hZ : Lay Z) (l1 : Int32) (l2 : Int32) (l3 : Int32) (l4 : Int32) : gMet yX10_comes cX10_comes 6 (some .int) 2 Z (fun ad => [.ref (ad 65), .int l1, .int l2, .int l3, .int l4]) (F_X10_comes Z l1 l2 l3 l4) := by
  refine gMet_intro T_X10_comes T_X10_comes_ok rfl (fun _ => Nat.le_of_ble_eq_true rfl) (fun g ad σ z C h => ?_)
  show g 0 [(0, .ref (ad 65)), (1, .int l1), (2, .int l2), (3, .int l3), (4, .int l4)] [] σ
  rw [F_X10_comes] at h
  refine g_aload_n C 0 0 rfl rfl ?_
  refine g_getr (b := 66) C 1 rfl flX10_9 (hZ.at (i := 65) rfl) rfl ?_
  refine g_iconst (v := 1) C 2 rfl rfl ?_
  refine g_ialdK C 3 1 rfl (hZ.at (i := 66) rfl) rfl (vp_k rfl) ?_
  refine g_let h (fun v1 h => ?_)
  refine g_istore C 4 [(5, .int v1), (0, .ref (ad 65)), (1, .int l1), (2, .int l2), (3, .int l3), (4, .int l4)] rfl (by decide) rfl ?_
  refine g_aload_n C 5 1 rfl rfl ?_
  refine g_getr (b := 66) C 6 rfl flX10_9 (hZ.at (i := 65) rfl) rfl ?_
  refine g_iconst (v := 1) C 7 rfl rfl ?_
  refine g_dup2 C 8 rfl rfl rfl ?_
  refine g_ialdK C 9 1 rfl (hZ.at (i := 66) rfl) rfl (vp_k rfl) ?_
  refine g_iconst (v := 1) C 10 rfl rfl ?_
  refine g_iadd C 11 rfl ?_
  refine g_iastK C 12 1 rfl (hZ.at (i := 66) rfl) rfl (vp_k rfl) h (fun s2 h => ?_)
  refine g_aload_n C 13 1 rfl rfl ?_
  refine g_iload C 14 0 rfl rfl ?_
  refine g_iconst (v := 0) C 15 rfl rfl ?_
  refine g_iload_n C 16 2 rfl rfl ?_
  refine g_callVv C 17 [.int v1, .int 0, .int l1] [] rfl (M_X10_put hZ v1 0 l1) cnX10_107 cwX10_put ciX10_put (hZ.at (i := 65) rfl) rfl rfl rfl rfl (Nat.le_of_ble_eq_true rfl) ⟨Nat.le_of_ble_eq_true rfl, Nat.le_of_ble_eq_true rfl⟩ h (fun r3 s4 h => ?_)
  refine g_aload_n C 18 1 rfl rfl ?_
  refine g_iload C 19 0 rfl rfl ?_
  refine g_iconst (v := 1) C 20 rfl rfl ?_
  refine g_iload_n C 21 3 rfl rfl ?_
  refine g_callVv C 22 [.int v1, .int 1, .int l2] [] rfl (M_X10_put hZ v1 1 l2) cnX10_107 cwX10_put ciX10_put (hZ.at (i := 65) rfl) rfl rfl rfl rfl (Nat.le_of_ble_eq_true rfl) ⟨Nat.le_of_ble_eq_true rfl, Nat.le_of_ble_eq_true rfl⟩ h (fun r5 s6 h => ?_)
  refine g_aload_n C 23 1 rfl rfl ?_
  refine g_iload C 24 0 rfl rfl ?_
  refine g_iconst (v := 2) C 25 rfl rfl ?_
  refine g_iload_n C 26 4 rfl rfl ?_
  refine g_callVv C 27 [.int v1, .int 2, .int l3] [] rfl (M_X10_put hZ v1 2 l3) cnX10_107 cwX10_put ciX10_put (hZ.at (i := 65) rfl) rfl rfl rfl rfl (Nat.le_of_ble_eq_true rfl) ⟨Nat.le_of_ble_eq_true rfl, Nat.le_of_ble_eq_true rfl⟩ h (fun r7 s8 h => ?_)
  refine g_aload_n C 28 1 rfl rfl ?_
  refine g_iload C 29 0 rfl rfl ?_
  refine g_iconst (v := 3) C 30 rfl rfl ?_
  refine g_iload C 31 5 rfl rfl ?_
  refine g_callVv C 32 [.int v1, .int 3, .int l4] [] rfl (M_X10_put hZ v1 3 l4) cnX10_107 cwX10_put ciX10_put (hZ.at (i := 65) rfl) rfl rfl rfl rfl (Nat.le_of_ble_eq_true rfl) ⟨Nat.le_of_ble_eq_true rfl, Nat.le_of_ble_eq_true rfl⟩ h (fun r9 s10 h => ?_)
  refine g_iload C 33 0 rfl rfl ?_
  exact g_ireturn C 34 rfl h
def T_X10_isRoom : List (Nat × Instr × Nat) := [(0, .iload_n 0, 1), (1, .iconst 0, 1), (2, .bipush 7, 2), (4, .invokestatic 84, 3), (7, .ireturn, 1)]
theorem T_X10_isRoom_ok : gTb cX10_isRoom T_X10_isRoom = true := by decide +kernel
def F_X10_isRoom (Z : List gH) (l0 : Int32) (σ : gS) : Option (Int32 × gS) := mCall (F_X10_in Z l0 0 7 σ) (fun r1 s2 => mZ r1 s2)
set_option maxRecDepth 20000 in
set_option maxHeartbeats 4000000 in
theorem M_X10_isRoom {Z : List gH} (hZ : Lay Z) (l0 : Int32) : gMet yX10_isRoom cX10_isRoom 1 (some .boolean) 2 Z (fun ad => [.int l0]) (F_X10_isRoom Z l0) := by
  refine gMet_intro T_X10_isRoom T_X10_isRoom_ok rfl (fun _ => Nat.le_of_ble_eq_true rfl) (fun g ad σ z C h => ?_)
  show g 0 [(0, .int l0)] [] σ
  rw [F_X10_isRoom] at h
  refine g_iload_n C 0 0 rfl rfl ?_
  refine g_iconst (v := 0) C 1 rfl rfl ?_
  refine g_bipush (v := 7) C 2 rfl rfl ?_
  refine g_callSi C 3 [.int l0, .int 0, .int 7] [] rfl (M_X10_in hZ l0 0 7) cnX10_84 cwX10_in csX10_in rfl rfl rfl (Nat.le_of_ble_eq_true rfl) ⟨Nat.le_of_ble_eq_true rfl, Nat.le_of_ble_eq_true rfl⟩ h (fun r1 s2 h => ?_)
  exact g_zreturn C 4 rfl h
def T_X10_isOf : List (Nat × Instr × Nat) := [(0, .iload_n 0, 1), (1, .iconst 1, 1), (2, .if_icmp .ne 10, 3), (5, .iload_n 1, 1), (6, .invokestatic 103, 3), (9, .goto 37, 3), (12, .iload_n 0, 1), (13, .iconst 2, 1), (14, .if_icmp .ne 13, 3), (17, .iload_n 1, 1), (18, .iconst 0, 1), (19, .bipush 99, 2), (21, .invokestatic 84, 3), (24, .goto 22, 3), (27, .iload_n 0, 1), (28, .iconst 3, 1), (29, .if_icmp .ne 16, 3), (32, .iload_n 1, 1), (33, .iconst 0, 1), (34, .iconst 1, 1), (35, .invokestatic 84, 3), (38, .ifCond .eq 7, 3), (41, .iconst 1, 1), (42, .goto 4, 3), (45, .iconst 0, 1), (46, .ireturn, 1)]
theorem T_X10_isOf_ok : gTb cX10_isOf T_X10_isOf = true := by decide +kernel
def F_X10_isOf (Z : List gH) (l0 : Int32) (l1 : Int32) (σ : gS) : Option (Int32 × gS) := if l0 = 1 then mCall (F_X10_isRoom Z l1 σ) (fun r5 s6 => mZ r5 s6) else if l0 = 2 then mCall (F_X10_in Z l1 0 99 σ) (fun r3 s4 => mZ r3 s4) else if l0 = 3 then mCall (F_X10_in Z l1 0 1 σ) (fun r1 s2 => if r1 = 0 then mZ 0 s2 else mZ 1 s2) else mZ 0 σ
set_option maxRecDepth 20000 in
set_option maxHeartbeats 4000000 in
theorem M_X10_isOf {Z : List gH} (hZ : Lay Z) (l0 : Int32) (l1 : Int32) : gMet yX10_isOf cX10_isOf 2 (some .boolean) 3 Z (fun ad => [.int l0, .int l1]) (F_X10_isOf Z l0 l1) := by
  refine gMet_intro T_X10_isOf T_X10_isOf_ok rfl (fun _ => Nat.le_of_ble_eq_true rfl) (fun g ad σ z C h => ?_)
  show g 0 [(0, .int l0), (1, .int l1)] [] σ
  rw [F_X10_isOf] at h
  refine g_iload_n C 0 0 rfl rfl ?_
  refine g_iconst (v := 1) C 1 rfl rfl ?_
  refine g_icmp_ne C 2 12 rfl rfl h (fun h => ?_) (fun h => ?_)
  · refine g_iload_n C 6 0 rfl rfl ?_
    refine g_iconst (v := 2) C 7 rfl rfl ?_
    refine g_icmp_ne C 8 27 rfl rfl h (fun h => ?_) (fun h => ?_)
    · refine g_iload_n C 14 0 rfl rfl ?_
      refine g_iconst (v := 3) C 15 rfl rfl ?_
      refine g_icmp_ne C 16 45 rfl rfl h (fun h => ?_) (fun h => ?_)
      · refine g_iconst (v := 0) C 24 rfl rfl ?_
        exact g_zreturn C 25 rfl h
      · refine g_iload_n C 17 1 rfl rfl ?_
        refine g_iconst (v := 0) C 18 rfl rfl ?_
        refine g_iconst (v := 1) C 19 rfl rfl ?_
        refine g_callSi C 20 [.int l1, .int 0, .int 1] [] rfl (M_X10_in hZ l1 0 1) cnX10_84 cwX10_in csX10_in rfl rfl rfl (Nat.le_of_ble_eq_true rfl) ⟨Nat.le_of_ble_eq_true rfl, Nat.le_of_ble_eq_true rfl⟩ h (fun r1 s2 h => ?_)
        refine g_if_eq C 21 45 rfl rfl h (fun h => ?_) (fun h => ?_)
        · refine g_iconst (v := 0) C 24 rfl rfl ?_
          exact g_zreturn C 25 rfl h
        · refine g_iconst (v := 1) C 22 rfl rfl ?_
          refine g_goto C 23 46 rfl rfl ?_
          exact g_zreturn C 25 rfl h
    · refine g_iload_n C 9 1 rfl rfl ?_
      refine g_iconst (v := 0) C 10 rfl rfl ?_
      refine g_bipush (v := 99) C 11 rfl rfl ?_
      refine g_callSi C 12 [.int l1, .int 0, .int 99] [] rfl (M_X10_in hZ l1 0 99) cnX10_84 cwX10_in csX10_in rfl rfl rfl (Nat.le_of_ble_eq_true rfl) ⟨Nat.le_of_ble_eq_true rfl, Nat.le_of_ble_eq_true rfl⟩ h (fun r3 s4 h => ?_)
      refine g_goto C 13 46 rfl rfl ?_
      exact g_zreturn C 25 rfl h
  · refine g_iload_n C 3 1 rfl rfl ?_
    refine g_callSi C 4 [.int l1] [] rfl (M_X10_isRoom hZ l1) cnX10_103 cwX10_isRoom csX10_isRoom rfl rfl rfl (Nat.le_of_ble_eq_true rfl) ⟨Nat.le_of_ble_eq_true rfl, Nat.le_of_ble_eq_true rfl⟩ h (fun r5 s6 h => ?_)
    refine g_goto C 5 46 rfl rfl ?_
    exact g_zreturn C 25 rfl h
def T_X10_thing : List (Nat × Instr × Nat) := [(0, .iload_n 1, 1), (1, .iconst 0, 1), (2, .iconst 5, 1), (3, .invokestatic 84, 3), (6, .ifCond .eq 28, 3), (9, .iconst 1, 1), (10, .iload_n 2, 1), (11, .invokestatic 111, 3), (14, .ifCond .eq 20, 3), (17, .iconst 2, 1), (18, .iload_n 3, 1), (19, .invokestatic 111, 3), (22, .ifCond .eq 12, 3), (25, .iconst 3, 1), (26, .iload 4, 2), (28, .invokestatic 111, 3), (31, .ifCond .ne 6, 3), (34, .ldc 115, 2), (36, .ireturn, 1), (37, .aload_n 0, 1), (38, .getfield 9, 3), (41, .iconst 1, 1), (42, .iaload, 1), (43, .bipush 12, 2), (45, .if_icmp .ne 8, 3), (48, .ldc 116, 2), (50, .goto 12, 3), (53, .aload_n 0, 1), (54, .iload_n 1, 1), (55, .iload_n 2, 1), (56, .iload_n 3, 1), (57, .iload 4, 2), (59, .invokevirtual 117, 3), (62, .ireturn, 1)]
theorem T_X10_thing_ok : gTb cX10_thing T_X10_thing = true := by decide +kernel
def F_X10_thing (Z : List gH) (l1 : Int32) (l2 : Int32) (l3 : Int32) (l4 : Int32) (σ : gS) : Option (Int32 × gS) := mCall (F_X10_in Z l1 0 5 σ) (fun r1 s2 => if r1 = 0 then some ((-1000000001), s2) else mCall (F_X10_isOf Z 1 l2 s2) (fun r3 s4 => if r3 = 0 then some ((-1000000001), s4) else mCall (F_X10_isOf Z 2 l3 s4) (fun r5 s6 => if r5 = 0 then some ((-1000000001), s6) else mCall (F_X10_isOf Z 3 l4 s6) (fun r7 s8 => if r7 = 0 then some ((-1000000001), s8) else if (s8 66 1) = 12 then some ((-1000000003), s8) else mCall (F_X10_comes Z l1 l2 l3 l4 s8) (fun r9 s10 => some (r9, s10))))))
set_option maxRecDepth 20000 in
set_option maxHeartbeats 4000000 in
theorem M_X10_thing {Z : List gH} (hZ : Lay Z) (l1 : Int32) (l2 : Int32) (l3 : Int32) (l4 : Int32) : gMet yX10_thing cX10_thing 5 (some .int) 4 Z (fun ad => [.ref (ad 65), .int l1, .int l2, .int l3, .int l4]) (F_X10_thing Z l1 l2 l3 l4) := by
  refine gMet_intro T_X10_thing T_X10_thing_ok rfl (fun _ => Nat.le_of_ble_eq_true rfl) (fun g ad σ z C h => ?_)
  show g 0 [(0, .ref (ad 65)), (1, .int l1), (2, .int l2), (3, .int l3), (4, .int l4)] [] σ
  rw [F_X10_thing] at h
  refine g_iload_n C 0 1 rfl rfl ?_
  refine g_iconst (v := 0) C 1 rfl rfl ?_
  refine g_iconst (v := 5) C 2 rfl rfl ?_
  refine g_callSi C 3 [.int l1, .int 0, .int 5] [] rfl (M_X10_in hZ l1 0 5) cnX10_84 cwX10_in csX10_in rfl rfl rfl (Nat.le_of_ble_eq_true rfl) ⟨Nat.le_of_ble_eq_true rfl, Nat.le_of_ble_eq_true rfl⟩ h (fun r1 s2 h => ?_)
  refine g_if_eq C 4 34 rfl rfl h (fun h => ?_) (fun h => ?_)
  · refine g_ldc C 17 rfl kcX10_115 ?_
    exact g_ireturn C 18 rfl h
  · refine g_iconst (v := 1) C 5 rfl rfl ?_
    refine g_iload_n C 6 2 rfl rfl ?_
    refine g_callSi C 7 [.int 1, .int l2] [] rfl (M_X10_isOf hZ 1 l2) cnX10_111 cwX10_isOf csX10_isOf rfl rfl rfl (Nat.le_of_ble_eq_true rfl) ⟨Nat.le_of_ble_eq_true rfl, Nat.le_of_ble_eq_true rfl⟩ h (fun r3 s4 h => ?_)
    refine g_if_eq C 8 34 rfl rfl h (fun h => ?_) (fun h => ?_)
    · refine g_ldc C 17 rfl kcX10_115 ?_
      exact g_ireturn C 18 rfl h
    · refine g_iconst (v := 2) C 9 rfl rfl ?_
      refine g_iload_n C 10 3 rfl rfl ?_
      refine g_callSi C 11 [.int 2, .int l3] [] rfl (M_X10_isOf hZ 2 l3) cnX10_111 cwX10_isOf csX10_isOf rfl rfl rfl (Nat.le_of_ble_eq_true rfl) ⟨Nat.le_of_ble_eq_true rfl, Nat.le_of_ble_eq_true rfl⟩ h (fun r5 s6 h => ?_)
      refine g_if_eq C 12 34 rfl rfl h (fun h => ?_) (fun h => ?_)
      · refine g_ldc C 17 rfl kcX10_115 ?_
        exact g_ireturn C 18 rfl h
      · refine g_iconst (v := 3) C 13 rfl rfl ?_
        refine g_iload C 14 4 rfl rfl ?_
        refine g_callSi C 15 [.int 3, .int l4] [] rfl (M_X10_isOf hZ 3 l4) cnX10_111 cwX10_isOf csX10_isOf rfl rfl rfl (Nat.le_of_ble_eq_true rfl) ⟨Nat.le_of_ble_eq_true rfl, Nat.le_of_ble_eq_true rfl⟩ h (fun r7 s8 h => ?_)
        refine g_if_ne C 16 37 rfl rfl h (fun h => ?_) (fun h => ?_)
        · refine g_aload_n C 19 0 rfl rfl ?_
          refine g_getr (b := 66) C 20 rfl flX10_9 (hZ.at (i := 65) rfl) rfl ?_
          refine g_iconst (v := 1) C 21 rfl rfl ?_
          refine g_ialdK C 22 1 rfl (hZ.at (i := 66) rfl) rfl (vp_k rfl) ?_
          refine g_bipush (v := 12) C 23 rfl rfl ?_
          refine g_icmp_ne C 24 53 rfl rfl h (fun h => ?_) (fun h => ?_)
          · refine g_aload_n C 27 0 rfl rfl ?_
            refine g_iload_n C 28 1 rfl rfl ?_
            refine g_iload_n C 29 2 rfl rfl ?_
            refine g_iload_n C 30 3 rfl rfl ?_
            refine g_iload C 31 4 rfl rfl ?_
            refine g_callVi C 32 [.int l1, .int l2, .int l3, .int l4] [] rfl (M_X10_comes hZ l1 l2 l3 l4) cnX10_117 cwX10_comes ciX10_comes (hZ.at (i := 65) rfl) rfl rfl rfl rfl (Nat.le_of_ble_eq_true rfl) ⟨Nat.le_of_ble_eq_true rfl, Nat.le_of_ble_eq_true rfl⟩ h (fun r9 s10 h => ?_)
            exact g_ireturn C 33 rfl h
          · refine g_ldc C 25 rfl kcX10_116 ?_
            refine g_goto C 26 62 rfl rfl ?_
            exact g_ireturn C 33 rfl h
        · refine g_ldc C 17 rfl kcX10_115 ?_
          exact g_ireturn C 18 rfl h
def T_X10_of : List (Nat × Instr × Nat) := [(0, .aload_n 0, 1), (1, .getfield 9, 3), (4, .bipush 82, 2), (6, .iconst 4, 1), (7, .iload_n 1, 1), (8, .imul, 1), (9, .iadd, 1), (10, .iload_n 2, 1), (11, .iadd, 1), (12, .iaload, 1), (13, .ireturn, 1)]
theorem T_X10_of_ok : gTb cX10_of T_X10_of = true := by decide +kernel
def F_X10_of (Z : List gH) (l1 : Int32) (l2 : Int32) (σ : gS) : Option (Int32 × gS) := mIn 1508 ((82 + (4 * l1)) + l2) (some ((σ 66 (nn ((82 + (4 * l1)) + l2))), σ))
set_option maxRecDepth 20000 in
set_option maxHeartbeats 4000000 in
theorem M_X10_of {Z : List gH} (hZ : Lay Z) (l1 : Int32) (l2 : Int32) : gMet yX10_of cX10_of 3 (some .int) 1 Z (fun ad => [.ref (ad 65), .int l1, .int l2]) (F_X10_of Z l1 l2) := by
  refine gMet_intro T_X10_of T_X10_of_ok rfl (fun _ => Nat.le_of_ble_eq_true rfl) (fun g ad σ z C h => ?_)
  show g 0 [(0, .ref (ad 65)), (1, .int l1), (2, .int l2)] [] σ
  rw [F_X10_of] at h
  refine g_aload_n C 0 0 rfl rfl ?_
  refine g_getr (b := 66) C 1 rfl flX10_9 (hZ.at (i := 65) rfl) rfl ?_
  refine g_bipush (v := 82) C 2 rfl rfl ?_
  refine g_iconst (v := 4) C 3 rfl rfl ?_
  refine g_iload_n C 4 1 rfl rfl ?_
  refine g_imul C 5 rfl ?_
  refine g_iadd C 6 rfl ?_
  refine g_iload_n C 7 2 rfl rfl ?_
  refine g_iadd C 8 rfl ?_
  refine g_iald C 9 rfl (hZ.at (i := 66) rfl) h (fun h => ?_)
  exact g_ireturn C 10 rfl h
def T_X10_worthOf : List (Nat × Instr × Nat) := [(0, .aload_n 0, 1), (1, .iload_n 1, 1), (2, .iconst 2, 1), (3, .invokevirtual 92, 3), (6, .istore_n 2, 1), (7, .aload_n 0, 1), (8, .iload_n 1, 1), (9, .iconst 0, 1), (10, .invokevirtual 92, 3), (13, .tableswitch 57 1 5 #[35, 39, 44, 50, 55], 35), (48, .iload_n 2, 1), (49, .iconst 4, 1), (50, .iadd, 1), (51, .ireturn, 1), (52, .bipush 120, 2), (54, .iload_n 2, 1), (55, .isub, 1), (56, .ireturn, 1), (57, .iconst 2, 1), (58, .iload_n 2, 1), (59, .iconst 4, 1), (60, .iadd, 1), (61, .imul, 1), (62, .ireturn, 1), (63, .bipush 114, 2), (65, .iload_n 2, 1), (66, .isub, 1), (67, .ireturn, 1), (68, .iconst 3, 1), (69, .ireturn, 1), (70, .iload_n 2, 1), (71, .ireturn, 1)]
theorem T_X10_worthOf_ok : gTb cX10_worthOf T_X10_worthOf = true := by decide +kernel
def F_X10_worthOf (Z : List gH) (l1 : Int32) (σ : gS) : Option (Int32 × gS) := mCall (F_X10_of Z l1 2 σ) (fun r1 s2 => mCall (F_X10_of Z l1 0 s2) (fun r3 s4 => if r3 = 1 then some ((r1 + 4), s4) else if r3 = 2 then some ((120 - r1), s4) else if r3 = 3 then some ((2 * (r1 + 4)), s4) else if r3 = 4 then some ((114 - r1), s4) else if r3 = 5 then some (3, s4) else some (r1, s4)))
set_option maxRecDepth 20000 in
set_option maxHeartbeats 4000000 in
theorem M_X10_worthOf {Z : List gH} (hZ : Lay Z) (l1 : Int32) : gMet yX10_worthOf cX10_worthOf 3 (some .int) 2 Z (fun ad => [.ref (ad 65), .int l1]) (F_X10_worthOf Z l1) := by
  refine gMet_intro T_X10_worthOf T_X10_worthOf_ok rfl (fun _ => Nat.le_of_ble_eq_true rfl) (fun g ad σ z C h => ?_)
  show g 0 [(0, .ref (ad 65)), (1, .int l1)] [] σ
  rw [F_X10_worthOf] at h
  refine g_aload_n C 0 0 rfl rfl ?_
  refine g_iload_n C 1 1 rfl rfl ?_
  refine g_iconst (v := 2) C 2 rfl rfl ?_
  refine g_callVi C 3 [.int l1, .int 2] [] rfl (M_X10_of hZ l1 2) cnX10_92 cwX10_of ciX10_of (hZ.at (i := 65) rfl) rfl rfl rfl rfl (Nat.le_of_ble_eq_true rfl) ⟨Nat.le_of_ble_eq_true rfl, Nat.le_of_ble_eq_true rfl⟩ h (fun r1 s2 h => ?_)
  refine g_istore_n C 4 [(2, .int r1), (0, .ref (ad 65)), (1, .int l1)] rfl (by decide) rfl ?_
  refine g_aload_n C 5 1 rfl rfl ?_
  refine g_iload_n C 6 2 rfl rfl ?_
  refine g_iconst (v := 0) C 7 rfl rfl ?_
  refine g_callVi C 8 [.int l1, .int 0] [] rfl (M_X10_of hZ l1 0) cnX10_92 cwX10_of ciX10_of (hZ.at (i := 65) rfl) rfl rfl rfl rfl (Nat.le_of_ble_eq_true rfl) ⟨Nat.le_of_ble_eq_true rfl, Nat.le_of_ble_eq_true rfl⟩ h (fun r3 s4 h => ?_)
  by_cases hx4_0 : r3 = 1
  · rw [if_pos hx4_0] at h
    refine g_tblAt C 9 1 hx4_0 48 rfl (by decide) (by decide) rfl rfl ?_
    refine g_iload_n C 10 0 rfl rfl ?_
    refine g_iconst (v := 4) C 11 rfl rfl ?_
    refine g_iadd C 12 rfl ?_
    exact g_ireturn C 13 rfl h
  · rw [if_neg hx4_0] at h
    by_cases hx4_1 : r3 = 2
    · rw [if_pos hx4_1] at h
      refine g_tblAt C 9 2 hx4_1 52 rfl (by decide) (by decide) rfl rfl ?_
      refine g_bipush (v := 120) C 14 rfl rfl ?_
      refine g_iload_n C 15 0 rfl rfl ?_
      refine g_isub C 16 rfl ?_
      exact g_ireturn C 17 rfl h
    · rw [if_neg hx4_1] at h
      by_cases hx4_2 : r3 = 3
      · rw [if_pos hx4_2] at h
        refine g_tblAt C 9 3 hx4_2 57 rfl (by decide) (by decide) rfl rfl ?_
        refine g_iconst (v := 2) C 18 rfl rfl ?_
        refine g_iload_n C 19 0 rfl rfl ?_
        refine g_iconst (v := 4) C 20 rfl rfl ?_
        refine g_iadd C 21 rfl ?_
        refine g_imul C 22 rfl ?_
        exact g_ireturn C 23 rfl h
      · rw [if_neg hx4_2] at h
        by_cases hx4_3 : r3 = 4
        · rw [if_pos hx4_3] at h
          refine g_tblAt C 9 4 hx4_3 63 rfl (by decide) (by decide) rfl rfl ?_
          refine g_bipush (v := 114) C 24 rfl rfl ?_
          refine g_iload_n C 25 0 rfl rfl ?_
          refine g_isub C 26 rfl ?_
          exact g_ireturn C 27 rfl h
        · rw [if_neg hx4_3] at h
          by_cases hx4_4 : r3 = 5
          · rw [if_pos hx4_4] at h
            refine g_tblAt C 9 5 hx4_4 68 rfl (by decide) (by decide) rfl rfl ?_
            refine g_iconst (v := 3) C 28 rfl rfl ?_
            exact g_ireturn C 29 rfl h
          · rw [if_neg hx4_4] at h
            refine g_tblOut C 9 70 rfl (by have e0 := i32ne hx4_0 1 rfl; have e1 := i32ne hx4_1 2 rfl; have e2 := i32ne hx4_2 3 rfl; have e3 := i32ne hx4_3 4 rfl; have e4 := i32ne hx4_4 5 rfl; omega) rfl ?_
            refine g_iload_n C 30 0 rfl rfl ?_
            exact g_ireturn C 31 rfl h
def T_X10_givesOf : List (Nat × Instr × Nat) := [(0, .aload_n 0, 1), (1, .iload_n 1, 1), (2, .iconst 0, 1), (3, .invokevirtual 92, 3), (6, .tableswitch 38 1 4 #[30, 34, 30, 34], 30), (36, .iload_n 2, 1), (37, .iconst 3, 1), (38, .iadd, 1), (39, .ireturn, 1), (40, .iload_n 2, 1), (41, .iconst 2, 1), (42, .idiv, 1), (43, .ireturn, 1), (44, .iload_n 2, 1), (45, .ireturn, 1)]
theorem T_X10_givesOf_ok : gTb cX10_givesOf T_X10_givesOf = true := by decide +kernel
def F_X10_givesOf (Z : List gH) (l1 : Int32) (l2 : Int32) (σ : gS) : Option (Int32 × gS) := mCall (F_X10_of Z l1 0 σ) (fun r1 s2 => if r1 = 1 then some ((l2 + 3), s2) else if r1 = 2 then some ((l2 / 2), s2) else if r1 = 3 then some ((l2 + 3), s2) else if r1 = 4 then some ((l2 / 2), s2) else some (l2, s2))
set_option maxRecDepth 20000 in
set_option maxHeartbeats 4000000 in
theorem M_X10_givesOf {Z : List gH} (hZ : Lay Z) (l1 : Int32) (l2 : Int32) : gMet yX10_givesOf cX10_givesOf 3 (some .int) 2 Z (fun ad => [.ref (ad 65), .int l1, .int l2]) (F_X10_givesOf Z l1 l2) := by
  refine gMet_intro T_X10_givesOf T_X10_givesOf_ok rfl (fun _ => Nat.le_of_ble_eq_true rfl) (fun g ad σ z C h => ?_)
  show g 0 [(0, .ref (ad 65)), (1, .int l1), (2, .int l2)] [] σ
  rw [F_X10_givesOf] at h
  refine g_aload_n C 0 0 rfl rfl ?_
  refine g_iload_n C 1 1 rfl rfl ?_
  refine g_iconst (v := 0) C 2 rfl rfl ?_
  refine g_callVi C 3 [.int l1, .int 0] [] rfl (M_X10_of hZ l1 0) cnX10_92 cwX10_of ciX10_of (hZ.at (i := 65) rfl) rfl rfl rfl rfl (Nat.le_of_ble_eq_true rfl) ⟨Nat.le_of_ble_eq_true rfl, Nat.le_of_ble_eq_true rfl⟩ h (fun r1 s2 h => ?_)
  by_cases hx2_0 : r1 = 1
  · rw [if_pos hx2_0] at h
    refine g_tblAt C 4 1 hx2_0 36 rfl (by decide) (by decide) rfl rfl ?_
    refine g_iload_n C 5 2 rfl rfl ?_
    refine g_iconst (v := 3) C 6 rfl rfl ?_
    refine g_iadd C 7 rfl ?_
    exact g_ireturn C 8 rfl h
  · rw [if_neg hx2_0] at h
    by_cases hx2_1 : r1 = 2
    · rw [if_pos hx2_1] at h
      refine g_tblAt C 4 2 hx2_1 40 rfl (by decide) (by decide) rfl rfl ?_
      refine g_iload_n C 9 2 rfl rfl ?_
      refine g_iconst (v := 2) C 10 rfl rfl ?_
      refine g_idivK C 11 rfl (by decide) ?_
      exact g_ireturn C 12 rfl h
    · rw [if_neg hx2_1] at h
      by_cases hx2_2 : r1 = 3
      · rw [if_pos hx2_2] at h
        refine g_tblAt C 4 3 hx2_2 36 rfl (by decide) (by decide) rfl rfl ?_
        refine g_iload_n C 5 2 rfl rfl ?_
        refine g_iconst (v := 3) C 6 rfl rfl ?_
        refine g_iadd C 7 rfl ?_
        exact g_ireturn C 8 rfl h
      · rw [if_neg hx2_2] at h
        by_cases hx2_3 : r1 = 4
        · rw [if_pos hx2_3] at h
          refine g_tblAt C 4 4 hx2_3 40 rfl (by decide) (by decide) rfl rfl ?_
          refine g_iload_n C 9 2 rfl rfl ?_
          refine g_iconst (v := 2) C 10 rfl rfl ?_
          refine g_idivK C 11 rfl (by decide) ?_
          exact g_ireturn C 12 rfl h
        · rw [if_neg hx2_3] at h
          refine g_tblOut C 4 44 rfl (by have e0 := i32ne hx2_0 1 rfl; have e1 := i32ne hx2_1 2 rfl; have e2 := i32ne hx2_2 3 rfl; have e3 := i32ne hx2_3 4 rfl; omega) rfl ?_
          refine g_iload_n C 13 2 rfl rfl ?_
          exact g_ireturn C 14 rfl h
def T_X10_counts : List (Nat × Instr × Nat) := [(0, .aload_n 0, 1), (1, .getfield 9, 3), (4, .bipush 9, 2), (6, .iaload, 1), (7, .iconst 1, 1), (8, .isub, 1), (9, .istore_n 2, 1), (10, .iload_n 2, 1), (11, .ifCond .lt 31, 3), (14, .aload_n 0, 1), (15, .getfield 9, 3), (18, .sipush 136, 3), (21, .iconst 2, 1), (22, .iload_n 2, 1), (23, .imul, 1), (24, .iadd, 1), (25, .iaload, 1), (26, .sipush 1000, 3), (29, .idiv, 1), (30, .iload_n 1, 1), (31, .if_icmp .ne 5, 3), (34, .iload_n 2, 1), (35, .ireturn, 1), (36, .iinc 2 (-1), 3), (39, .goto (-29), 3), (42, .iconst (-1), 1), (43, .ireturn, 1)]
theorem T_X10_counts_ok : gTb cX10_counts T_X10_counts = true := by decide +kernel
def F_X10_counts_L10 (Z : List gH) (l1 : Int32) : Nat → Int32 → gS → Option (Int32 × gS)
  | 0, _, _ => none
  | n + 1, l2, σ => if l2 < 0 then some ((-1), σ) else mIn 1508 (136 + (2 * l2)) (if ((σ 66 (nn (136 + (2 * l2)))) / 1000) = l1 then some (l2, σ) else F_X10_counts_L10 Z l1 n (l2 + (-1)) σ)
def F_X10_counts (Z : List gH) (l1 : Int32) (σ : gS) : Option (Int32 × gS) := mLet (((σ 66 9) - 1)) (fun v1 => F_X10_counts_L10 Z l1 mFuel v1 σ)
set_option maxRecDepth 20000 in
set_option maxHeartbeats 4000000 in
theorem C_F_X10_counts_L10 {g : Nat → List (Nat × Value) → List Value → gS → Prop} {Z : List gH} {ad : Nat → Nat} {z : Int32 × gS}  (C : gOk g T_X10_counts RX10 3 (some .int) 1 Z ad z) (hZ : Lay Z) (l1 : Int32) : ∀ (n : Nat) (l2 : Int32) (σ : gS), F_X10_counts_L10 Z l1 n l2 σ = some z → g 10 [(0, .ref (ad 65)), (1, .int l1), (2, .int l2)] [] σ := by
  intro n
  induction n with
  | zero => intro l2 σ h; cases h
  | succ n ih =>
    intro l2 σ h
    rw [F_X10_counts_L10] at h
    refine g_iload_n C 7 2 rfl rfl ?_
    refine g_if_lt C 8 42 rfl rfl h (fun h => ?_) (fun h => ?_)
    · refine g_iconst (v := (-1)) C 25 rfl rfl ?_
      exact g_ireturn C 26 rfl h
    · refine g_aload_n C 9 0 rfl rfl ?_
      refine g_getr (b := 66) C 10 rfl flX10_9 (hZ.at (i := 65) rfl) rfl ?_
      refine g_sipush (v := 136) C 11 rfl rfl ?_
      refine g_iconst (v := 2) C 12 rfl rfl ?_
      refine g_iload_n C 13 2 rfl rfl ?_
      refine g_imul C 14 rfl ?_
      refine g_iadd C 15 rfl ?_
      refine g_iald C 16 rfl (hZ.at (i := 66) rfl) h (fun h => ?_)
      refine g_sipush (v := 1000) C 17 rfl rfl ?_
      refine g_idivK C 18 rfl (by decide) ?_
      refine g_iload_n C 19 1 rfl rfl ?_
      refine g_icmp_ne C 20 36 rfl rfl h (fun h => ?_) (fun h => ?_)
      · refine g_iinc C 23 2 (l2 + (-1)) [(2, .int (l2 + (-1))), (0, .ref (ad 65)), (1, .int l1)] rfl rfl (by decide) rfl rfl ?_
        refine g_goto C 24 10 rfl rfl ?_
        refine g_sub C [1, 2, 0] [(0, .ref (ad 65)), (1, .int l1), (2, .int (l2 + (-1)))] rfl ?_
        exact ih _ _ h
      · refine g_iload_n C 21 2 rfl rfl ?_
        exact g_ireturn C 22 rfl h
set_option maxRecDepth 20000 in
set_option maxHeartbeats 4000000 in
theorem M_X10_counts {Z : List gH} (hZ : Lay Z) (l1 : Int32) : gMet yX10_counts cX10_counts 3 (some .int) 1 Z (fun ad => [.ref (ad 65), .int l1]) (F_X10_counts Z l1) := by
  refine gMet_intro T_X10_counts T_X10_counts_ok rfl (fun _ => Nat.le_of_ble_eq_true rfl) (fun g ad σ z C h => ?_)
  show g 0 [(0, .ref (ad 65)), (1, .int l1)] [] σ
  rw [F_X10_counts] at h
  refine g_aload_n C 0 0 rfl rfl ?_
  refine g_getr (b := 66) C 1 rfl flX10_9 (hZ.at (i := 65) rfl) rfl ?_
  refine g_bipush (v := 9) C 2 rfl rfl ?_
  refine g_ialdK C 3 9 rfl (hZ.at (i := 66) rfl) rfl (vp_k rfl) ?_
  refine g_iconst (v := 1) C 4 rfl rfl ?_
  refine g_isub C 5 rfl ?_
  refine g_let h (fun v1 h => ?_)
  refine g_istore_n C 6 [(2, .int v1), (0, .ref (ad 65)), (1, .int l1)] rfl (by decide) rfl ?_
  refine g_sub C [1, 2, 0] [(0, .ref (ad 65)), (1, .int l1), (2, .int v1)] rfl ?_
  exact C_F_X10_counts_L10 C hZ _ _ _ _ h
def T_X10_two : List (Nat × Instr × Nat) := [(0, .iload_n 0, 1), (1, .tableswitch 120 (-8) (-1) #[116, 112, 108, 97, 86, 75, 61, 47], 47), (48, .iload_n 1, 1), (49, .ifCond .ne 7, 3), (52, .iload_n 2, 1), (53, .ifCond .eq 7, 3), (56, .iconst 1, 1), (57, .goto 4, 3), (60, .iconst 0, 1), (61, .ireturn, 1), (62, .iload_n 1, 1), (63, .ifCond .eq 11, 3), (66, .iload_n 2, 1), (67, .ifCond .eq 7, 3), (70, .iconst 1, 1), (71, .goto 4, 3), (74, .iconst 0, 1), (75, .ireturn, 1), (76, .iload_n 1, 1), (77, .iload_n 2, 1), (78, .if_icmp .ge 7, 3), (81, .iconst 1, 1), (82, .goto 4, 3), (85, .iconst 0, 1), (86, .ireturn, 1), (87, .iload_n 1, 1), (88, .iload_n 2, 1), (89, .if_icmp .ne 7, 3), (92, .iconst 1, 1), (93, .goto 4, 3), (96, .iconst 0, 1), (97, .ireturn, 1), (98, .iload_n 1, 1), (99, .iload_n 2, 1), (100, .if_icmp .le 7, 3), (103, .iconst 1, 1), (104, .goto 4, 3), (107, .iconst 0, 1), (108, .ireturn, 1), (109, .iload_n 1, 1), (110, .iload_n 2, 1), (111, .iadd, 1), (112, .ireturn, 1), (113, .iload_n 1, 1), (114, .iload_n 2, 1), (115, .isub, 1), (116, .ireturn, 1), (117, .iload_n 1, 1), (118, .iload_n 2, 1), (119, .imul, 1), (120, .ireturn, 1), (121, .iload_n 2, 1), (122, .ifCond .ne 7, 3), (125, .iconst 0, 1), (126, .goto 6, 3), (129, .iload_n 1, 1), (130, .iload_n 2, 1), (131, .idiv, 1), (132, .ireturn, 1)]
theorem T_X10_two_ok : gTb cX10_two T_X10_two = true := by decide +kernel
def F_X10_two (Z : List gH) (l0 : Int32) (l1 : Int32) (l2 : Int32) (σ : gS) : Option (Int32 × gS) := if l0 = (-8) then some ((l1 * l2), σ) else if l0 = (-7) then some ((l1 - l2), σ) else if l0 = (-6) then some ((l1 + l2), σ) else if l0 = (-5) then if l1 ≤ l2 then some (0, σ) else some (1, σ) else if l0 = (-4) then if l1 = l2 then some (1, σ) else some (0, σ) else if l0 = (-3) then if l2 ≤ l1 then some (0, σ) else some (1, σ) else if l0 = (-2) then if l1 = 0 then some (0, σ) else if l2 = 0 then some (0, σ) else some (1, σ) else if l0 = (-1) then if l1 = 0 then if l2 = 0 then some (0, σ) else some (1, σ) else some (1, σ) else if l2 = 0 then some (0, σ) else mNz l2 (some ((l1 / l2), σ))
set_option maxRecDepth 20000 in
set_option maxHeartbeats 4000000 in
theorem M_X10_two {Z : List gH} (hZ : Lay Z) (l0 : Int32) (l1 : Int32) (l2 : Int32) : gMet yX10_two cX10_two 3 (some .int) 1 Z (fun ad => [.int l0, .int l1, .int l2]) (F_X10_two Z l0 l1 l2) := by
  refine gMet_intro T_X10_two T_X10_two_ok rfl (fun _ => Nat.le_of_ble_eq_true rfl) (fun g ad σ z C h => ?_)
  show g 0 [(0, .int l0), (1, .int l1), (2, .int l2)] [] σ
  rw [F_X10_two] at h
  refine g_iload_n C 0 0 rfl rfl ?_
  by_cases hx0_0 : l0 = (-8)
  · rw [if_pos hx0_0] at h
    refine g_tblAt C 1 (-8) hx0_0 117 rfl (by decide) (by decide) rfl rfl ?_
    refine g_iload_n C 47 1 rfl rfl ?_
    refine g_iload_n C 48 2 rfl rfl ?_
    refine g_imul C 49 rfl ?_
    exact g_ireturn C 50 rfl h
  · rw [if_neg hx0_0] at h
    by_cases hx0_1 : l0 = (-7)
    · rw [if_pos hx0_1] at h
      refine g_tblAt C 1 (-7) hx0_1 113 rfl (by decide) (by decide) rfl rfl ?_
      refine g_iload_n C 43 1 rfl rfl ?_
      refine g_iload_n C 44 2 rfl rfl ?_
      refine g_isub C 45 rfl ?_
      exact g_ireturn C 46 rfl h
    · rw [if_neg hx0_1] at h
      by_cases hx0_2 : l0 = (-6)
      · rw [if_pos hx0_2] at h
        refine g_tblAt C 1 (-6) hx0_2 109 rfl (by decide) (by decide) rfl rfl ?_
        refine g_iload_n C 39 1 rfl rfl ?_
        refine g_iload_n C 40 2 rfl rfl ?_
        refine g_iadd C 41 rfl ?_
        exact g_ireturn C 42 rfl h
      · rw [if_neg hx0_2] at h
        by_cases hx0_3 : l0 = (-5)
        · rw [if_pos hx0_3] at h
          refine g_tblAt C 1 (-5) hx0_3 98 rfl (by decide) (by decide) rfl rfl ?_
          refine g_iload_n C 32 1 rfl rfl ?_
          refine g_iload_n C 33 2 rfl rfl ?_
          refine g_icmp_le C 34 107 rfl rfl h (fun h => ?_) (fun h => ?_)
          · refine g_iconst (v := 0) C 37 rfl rfl ?_
            exact g_ireturn C 38 rfl h
          · refine g_iconst (v := 1) C 35 rfl rfl ?_
            refine g_goto C 36 108 rfl rfl ?_
            exact g_ireturn C 38 rfl h
        · rw [if_neg hx0_3] at h
          by_cases hx0_4 : l0 = (-4)
          · rw [if_pos hx0_4] at h
            refine g_tblAt C 1 (-4) hx0_4 87 rfl (by decide) (by decide) rfl rfl ?_
            refine g_iload_n C 25 1 rfl rfl ?_
            refine g_iload_n C 26 2 rfl rfl ?_
            refine g_icmp_ne C 27 96 rfl rfl h (fun h => ?_) (fun h => ?_)
            · refine g_iconst (v := 0) C 30 rfl rfl ?_
              exact g_ireturn C 31 rfl h
            · refine g_iconst (v := 1) C 28 rfl rfl ?_
              refine g_goto C 29 97 rfl rfl ?_
              exact g_ireturn C 31 rfl h
          · rw [if_neg hx0_4] at h
            by_cases hx0_5 : l0 = (-3)
            · rw [if_pos hx0_5] at h
              refine g_tblAt C 1 (-3) hx0_5 76 rfl (by decide) (by decide) rfl rfl ?_
              refine g_iload_n C 18 1 rfl rfl ?_
              refine g_iload_n C 19 2 rfl rfl ?_
              refine g_icmp_ge C 20 85 rfl rfl h (fun h => ?_) (fun h => ?_)
              · refine g_iconst (v := 0) C 23 rfl rfl ?_
                exact g_ireturn C 24 rfl h
              · refine g_iconst (v := 1) C 21 rfl rfl ?_
                refine g_goto C 22 86 rfl rfl ?_
                exact g_ireturn C 24 rfl h
            · rw [if_neg hx0_5] at h
              by_cases hx0_6 : l0 = (-2)
              · rw [if_pos hx0_6] at h
                refine g_tblAt C 1 (-2) hx0_6 62 rfl (by decide) (by decide) rfl rfl ?_
                refine g_iload_n C 10 1 rfl rfl ?_
                refine g_if_eq C 11 74 rfl rfl h (fun h => ?_) (fun h => ?_)
                · refine g_iconst (v := 0) C 16 rfl rfl ?_
                  exact g_ireturn C 17 rfl h
                · refine g_iload_n C 12 2 rfl rfl ?_
                  refine g_if_eq C 13 74 rfl rfl h (fun h => ?_) (fun h => ?_)
                  · refine g_iconst (v := 0) C 16 rfl rfl ?_
                    exact g_ireturn C 17 rfl h
                  · refine g_iconst (v := 1) C 14 rfl rfl ?_
                    refine g_goto C 15 75 rfl rfl ?_
                    exact g_ireturn C 17 rfl h
              · rw [if_neg hx0_6] at h
                by_cases hx0_7 : l0 = (-1)
                · rw [if_pos hx0_7] at h
                  refine g_tblAt C 1 (-1) hx0_7 48 rfl (by decide) (by decide) rfl rfl ?_
                  refine g_iload_n C 2 1 rfl rfl ?_
                  refine g_if_ne C 3 56 rfl rfl h (fun h => ?_) (fun h => ?_)
                  · refine g_iconst (v := 1) C 6 rfl rfl ?_
                    refine g_goto C 7 61 rfl rfl ?_
                    exact g_ireturn C 9 rfl h
                  · refine g_iload_n C 4 2 rfl rfl ?_
                    refine g_if_eq C 5 60 rfl rfl h (fun h => ?_) (fun h => ?_)
                    · refine g_iconst (v := 0) C 8 rfl rfl ?_
                      exact g_ireturn C 9 rfl h
                    · refine g_iconst (v := 1) C 6 rfl rfl ?_
                      refine g_goto C 7 61 rfl rfl ?_
                      exact g_ireturn C 9 rfl h
                · rw [if_neg hx0_7] at h
                  refine g_tblOut C 1 121 rfl (by have e0 := i32ne hx0_0 (-8) rfl; have e1 := i32ne hx0_1 (-7) rfl; have e2 := i32ne hx0_2 (-6) rfl; have e3 := i32ne hx0_3 (-5) rfl; have e4 := i32ne hx0_4 (-4) rfl; have e5 := i32ne hx0_5 (-3) rfl; have e6 := i32ne hx0_6 (-2) rfl; have e7 := i32ne hx0_7 (-1) rfl; omega) rfl ?_
                  refine g_iload_n C 51 2 rfl rfl ?_
                  refine g_if_ne C 52 129 rfl rfl h (fun h => ?_) (fun h => ?_)
                  · refine g_iload_n C 55 1 rfl rfl ?_
                    refine g_iload_n C 56 2 rfl rfl ?_
                    refine g_idiv C 57 rfl h (fun h => ?_)
                    exact g_ireturn C 58 rfl h
                  · refine g_iconst (v := 0) C 53 rfl rfl ?_
                    refine g_goto C 54 132 rfl rfl ?_
                    exact g_ireturn C 58 rfl h
def T_X10_worksOut : List (Nat × Instr × Nat) := [(0, .iconst 0, 1), (1, .istore_n 2, 1), (2, .aload_n 0, 1), (3, .getfield 9, 3), (6, .sipush 136, 3), (9, .iconst 2, 1), (10, .iload_n 1, 1), (11, .imul, 1), (12, .iadd, 1), (13, .iaload, 1), (14, .sipush 1000, 3), (17, .irem, 1), (18, .istore_n 3, 1), (19, .iconst 0, 1), (20, .istore 4, 2), (22, .iload 4, 2), (24, .iload_n 3, 1), (25, .if_icmp .ge 132, 3), (28, .aload_n 0, 1), (29, .getfield 9, 3), (32, .sipush 164, 3), (35, .bipush 96, 2), (37, .iload_n 1, 1), (38, .imul, 1), (39, .iadd, 1), (40, .iload 4, 2), (42, .iadd, 1), (43, .iaload, 1), (44, .istore 5, 2), (46, .iload 5, 2), (48, .ifCond .lt 39, 3), (51, .aload_n 0, 1), (52, .getfield 51, 3), (55, .iload_n 2, 1), (56, .iload 5, 2), (58, .sipush 10000, 3), (61, .if_icmp .ge 8, 3), (64, .iload 5, 2), (66, .goto 14, 3), (69, .aload_n 0, 1), (70, .getfield 54, 3), (73, .iload 5, 2), (75, .sipush 10000, 3), (78, .isub, 1), (79, .iaload, 1), (80, .iastore, 1), (81, .iinc 2 1, 3), (84, .goto 67, 3), (87, .iload 5, 2), (89, .bipush (-10), 2), (91, .if_icmp .ne 30, 3), (94, .aload_n 0, 1), (95, .getfield 51, 3), (98, .iload_n 2, 1), (99, .iconst 1, 1), (100, .isub, 1), (101, .aload_n 0, 1), (102, .getfield 51, 3), (105, .iload_n 2, 1), (106, .iconst 1, 1), (107, .isub, 1), (108, .iaload, 1), (109, .ifCond .ne 7, 3), (112, .iconst 1, 1), (113, .goto 4, 3), (116, .iconst 0, 1), (117, .iastore, 1), (118, .goto 33, 3), (121, .iinc 2 (-1), 3), (124, .aload_n 0, 1), (125, .getfield 51, 3), (128, .iload_n 2, 1), (129, .iconst 1, 1), (130, .isub, 1), (131, .iload 5, 2), (133, .aload_n 0, 1), (134, .getfield 51, 3), (137, .iload_n 2, 1), (138, .iconst 1, 1), (139, .isub, 1), (140, .iaload, 1), (141, .aload_n 0, 1), (142, .getfield 51, 3), (145, .iload_n 2, 1), (146, .iaload, 1), (147, .invokestatic 274, 3), (150, .iastore, 1), (151, .iinc 4 1, 3), (154, .goto (-132), 3), (157, .aload_n 0, 1), (158, .getfield 51, 3), (161, .iconst 0, 1), (162, .iaload, 1), (163, .ireturn, 1)]
theorem T_X10_worksOut_ok : gTb cX10_worksOut T_X10_worksOut = true := by decide +kernel
def F_X10_worksOut_L22 (Z : List gH) (l1 : Int32) : Nat → Int32 → Int32 → Int32 → gS → Option (Int32 × gS)
  | 0, _, _, _, _ => none
  | n + 1, l2, l3, l4, σ => if l3 ≤ l4 then some ((σ 79 0), σ) else mIn 1508 ((164 + (96 * l1)) + l4) (mLet ((σ 66 (nn ((164 + (96 * l1)) + l4)))) (fun v1 => if v1 < 0 then if v1 = (-10) then mIn 96 (l2 - 1) (if (σ 79 (nn (l2 - 1))) = 0 then mIn 96 (l2 - 1) (mLet (gu σ 79 (nn (l2 - 1)) 1) (fun s6 => F_X10_worksOut_L22 Z l1 n l2 l3 (l4 + 1) s6)) else mIn 96 (l2 - 1) (mLet (gu σ 79 (nn (l2 - 1)) 0) (fun s5 => F_X10_worksOut_L22 Z l1 n l2 l3 (l4 + 1) s5))) else mIn 96 ((l2 + (-1)) - 1) (mIn 96 (l2 + (-1)) (mCall (F_X10_two Z v1 (σ 79 (nn ((l2 + (-1)) - 1))) (σ 79 (nn (l2 + (-1)))) σ) (fun r2 s3 => mIn 96 ((l2 + (-1)) - 1) (mLet (gu s3 79 (nn ((l2 + (-1)) - 1)) r2) (fun s4 => F_X10_worksOut_L22 Z l1 n (l2 + (-1)) l3 (l4 + 1) s4))))) else if 10000 ≤ v1 then mIn 4 (v1 - 10000) (mIn 96 l2 (mLet (gu σ 79 (nn l2) (σ 80 (nn (v1 - 10000)))) (fun s7 => F_X10_worksOut_L22 Z l1 n (l2 + 1) l3 (l4 + 1) s7))) else mIn 96 l2 (mLet (gu σ 79 (nn l2) v1) (fun s8 => F_X10_worksOut_L22 Z l1 n (l2 + 1) l3 (l4 + 1) s8))))
def F_X10_worksOut (Z : List gH) (l1 : Int32) (σ : gS) : Option (Int32 × gS) := mIn 1508 (136 + (2 * l1)) (mLet ((mRem (σ 66 (nn (136 + (2 * l1)))) 1000)) (fun v1 => F_X10_worksOut_L22 Z l1 mFuel 0 v1 0 σ))
set_option maxRecDepth 20000 in
set_option maxHeartbeats 4000000 in
theorem C_F_X10_worksOut_L22 {g : Nat → List (Nat × Value) → List Value → gS → Prop} {Z : List gH} {ad : Nat → Nat} {z : Int32 × gS}  (C : gOk g T_X10_worksOut RX10 6 (some .int) 2 Z ad z) (hZ : Lay Z) (l1 : Int32) : ∀ (n : Nat) (l2 : Int32) (l3 : Int32) (l4 : Int32) (σ : gS), F_X10_worksOut_L22 Z l1 n l2 l3 l4 σ = some z → g 22 [(0, .ref (ad 65)), (1, .int l1), (2, .int l2), (3, .int l3), (4, .int l4)] [] σ := by
  intro n
  induction n with
  | zero => intro l2 l3 l4 σ h; cases h
  | succ n ih =>
    intro l2 l3 l4 σ h
    rw [F_X10_worksOut_L22] at h
    refine g_iload C 15 4 rfl rfl ?_
    refine g_iload_n C 16 3 rfl rfl ?_
    refine g_icmp_ge C 17 157 rfl rfl h (fun h => ?_) (fun h => ?_)
    · refine g_aload_n C 89 0 rfl rfl ?_
      refine g_getr (b := 79) C 90 rfl flX10_51 (hZ.at (i := 65) rfl) rfl ?_
      refine g_iconst (v := 0) C 91 rfl rfl ?_
      refine g_ialdK C 92 0 rfl (hZ.at (i := 79) rfl) rfl (vp_k rfl) ?_
      exact g_ireturn C 93 rfl h
    · refine g_aload_n C 18 0 rfl rfl ?_
      refine g_getr (b := 66) C 19 rfl flX10_9 (hZ.at (i := 65) rfl) rfl ?_
      refine g_sipush (v := 164) C 20 rfl rfl ?_
      refine g_bipush (v := 96) C 21 rfl rfl ?_
      refine g_iload_n C 22 1 rfl rfl ?_
      refine g_imul C 23 rfl ?_
      refine g_iadd C 24 rfl ?_
      refine g_iload C 25 4 rfl rfl ?_
      refine g_iadd C 26 rfl ?_
      refine g_iald C 27 rfl (hZ.at (i := 66) rfl) h (fun h => ?_)
      refine g_let h (fun v1 h => ?_)
      refine g_istore C 28 [(5, .int v1), (0, .ref (ad 65)), (1, .int l1), (2, .int l2), (3, .int l3), (4, .int l4)] rfl (by decide) rfl ?_
      refine g_iload C 29 0 rfl rfl ?_
      refine g_if_lt C 30 87 rfl rfl h (fun h => ?_) (fun h => ?_)
      · refine g_iload C 48 0 rfl rfl ?_
        refine g_bipush (v := (-10)) C 49 rfl rfl ?_
        refine g_icmp_ne C 50 121 rfl rfl h (fun h => ?_) (fun h => ?_)
        · refine g_iinc C 68 3 (l2 + (-1)) [(2, .int (l2 + (-1))), (5, .int v1), (0, .ref (ad 65)), (1, .int l1), (3, .int l3), (4, .int l4)] rfl rfl (by decide) rfl rfl ?_
          refine g_aload_n C 69 2 rfl rfl ?_
          refine g_getr (b := 79) C 70 rfl flX10_51 (hZ.at (i := 65) rfl) rfl ?_
          refine g_iload_n C 71 0 rfl rfl ?_
          refine g_iconst (v := 1) C 72 rfl rfl ?_
          refine g_isub C 73 rfl ?_
          refine g_iload C 74 1 rfl rfl ?_
          refine g_aload_n C 75 2 rfl rfl ?_
          refine g_getr (b := 79) C 76 rfl flX10_51 (hZ.at (i := 65) rfl) rfl ?_
          refine g_iload_n C 77 0 rfl rfl ?_
          refine g_iconst (v := 1) C 78 rfl rfl ?_
          refine g_isub C 79 rfl ?_
          refine g_iald C 80 rfl (hZ.at (i := 79) rfl) h (fun h => ?_)
          refine g_aload_n C 81 2 rfl rfl ?_
          refine g_getr (b := 79) C 82 rfl flX10_51 (hZ.at (i := 65) rfl) rfl ?_
          refine g_iload_n C 83 0 rfl rfl ?_
          refine g_iald C 84 rfl (hZ.at (i := 79) rfl) h (fun h => ?_)
          refine g_callSi C 85 [.int v1, .int (σ 79 (nn ((l2 + (-1)) - 1))), .int (σ 79 (nn (l2 + (-1))))] [.int ((l2 + (-1)) - 1), .ref (ad 79)] rfl (M_X10_two hZ v1 (σ 79 (nn ((l2 + (-1)) - 1))) (σ 79 (nn (l2 + (-1))))) cnX10_274 cwX10_two csX10_two rfl rfl rfl (Nat.le_of_ble_eq_true rfl) ⟨Nat.le_of_ble_eq_true rfl, Nat.le_of_ble_eq_true rfl⟩ h (fun r2 s3 h => ?_)
          refine g_iast C 86 rfl (hZ.at (i := 79) rfl) h (fun s4 h => ?_)
          refine g_iinc C 87 5 (l4 + 1) [(4, .int (l4 + 1)), (2, .int (l2 + (-1))), (5, .int v1), (0, .ref (ad 65)), (1, .int l1), (3, .int l3)] rfl rfl (by decide) rfl rfl ?_
          refine g_goto C 88 22 rfl rfl ?_
          refine g_sub C [3, 4, 1, 5, 0] [(0, .ref (ad 65)), (1, .int l1), (2, .int (l2 + (-1))), (3, .int l3), (4, .int (l4 + 1))] rfl ?_
          exact ih _ _ _ _ h
        · refine g_aload_n C 51 1 rfl rfl ?_
          refine g_getr (b := 79) C 52 rfl flX10_51 (hZ.at (i := 65) rfl) rfl ?_
          refine g_iload_n C 53 3 rfl rfl ?_
          refine g_iconst (v := 1) C 54 rfl rfl ?_
          refine g_isub C 55 rfl ?_
          refine g_aload_n C 56 1 rfl rfl ?_
          refine g_getr (b := 79) C 57 rfl flX10_51 (hZ.at (i := 65) rfl) rfl ?_
          refine g_iload_n C 58 3 rfl rfl ?_
          refine g_iconst (v := 1) C 59 rfl rfl ?_
          refine g_isub C 60 rfl ?_
          refine g_iald C 61 rfl (hZ.at (i := 79) rfl) h (fun h => ?_)
          refine g_if_ne C 62 116 rfl rfl h (fun h => ?_) (fun h => ?_)
          · refine g_iconst (v := 0) C 65 rfl rfl ?_
            refine g_iast C 66 rfl (hZ.at (i := 79) rfl) h (fun s5 h => ?_)
            refine g_goto C 67 151 rfl rfl ?_
            refine g_iinc C 87 5 (l4 + 1) [(4, .int (l4 + 1)), (5, .int v1), (0, .ref (ad 65)), (1, .int l1), (2, .int l2), (3, .int l3)] rfl rfl (by decide) rfl rfl ?_
            refine g_goto C 88 22 rfl rfl ?_
            refine g_sub C [2, 3, 4, 5, 0] [(0, .ref (ad 65)), (1, .int l1), (2, .int l2), (3, .int l3), (4, .int (l4 + 1))] rfl ?_
            exact ih _ _ _ _ h
          · refine g_iconst (v := 1) C 63 rfl rfl ?_
            refine g_goto C 64 117 rfl rfl ?_
            refine g_iast C 66 rfl (hZ.at (i := 79) rfl) h (fun s6 h => ?_)
            refine g_goto C 67 151 rfl rfl ?_
            refine g_iinc C 87 5 (l4 + 1) [(4, .int (l4 + 1)), (5, .int v1), (0, .ref (ad 65)), (1, .int l1), (2, .int l2), (3, .int l3)] rfl rfl (by decide) rfl rfl ?_
            refine g_goto C 88 22 rfl rfl ?_
            refine g_sub C [2, 3, 4, 5, 0] [(0, .ref (ad 65)), (1, .int l1), (2, .int l2), (3, .int l3), (4, .int (l4 + 1))] rfl ?_
            exact ih _ _ _ _ h
      · refine g_aload_n C 31 1 rfl rfl ?_
        refine g_getr (b := 79) C 32 rfl flX10_51 (hZ.at (i := 65) rfl) rfl ?_
        refine g_iload_n C 33 3 rfl rfl ?_
        refine g_iload C 34 0 rfl rfl ?_
        refine g_sipush (v := 10000) C 35 rfl rfl ?_
        refine g_icmp_ge C 36 69 rfl rfl h (fun h => ?_) (fun h => ?_)
        · refine g_aload_n C 39 1 rfl rfl ?_
          refine g_getr (b := 80) C 40 rfl flX10_54 (hZ.at (i := 65) rfl) rfl ?_
          refine g_iload C 41 0 rfl rfl ?_
          refine g_sipush (v := 10000) C 42 rfl rfl ?_
          refine g_isub C 43 rfl ?_
          refine g_iald C 44 rfl (hZ.at (i := 80) rfl) h (fun h => ?_)
          refine g_iast C 45 rfl (hZ.at (i := 79) rfl) h (fun s7 h => ?_)
          refine g_iinc C 46 3 (l2 + 1) [(2, .int (l2 + 1)), (5, .int v1), (0, .ref (ad 65)), (1, .int l1), (3, .int l3), (4, .int l4)] rfl rfl (by decide) rfl rfl ?_
          refine g_goto C 47 151 rfl rfl ?_
          refine g_iinc C 87 5 (l4 + 1) [(4, .int (l4 + 1)), (2, .int (l2 + 1)), (5, .int v1), (0, .ref (ad 65)), (1, .int l1), (3, .int l3)] rfl rfl (by decide) rfl rfl ?_
          refine g_goto C 88 22 rfl rfl ?_
          refine g_sub C [3, 4, 1, 5, 0] [(0, .ref (ad 65)), (1, .int l1), (2, .int (l2 + 1)), (3, .int l3), (4, .int (l4 + 1))] rfl ?_
          exact ih _ _ _ _ h
        · refine g_iload C 37 0 rfl rfl ?_
          refine g_goto C 38 80 rfl rfl ?_
          refine g_iast C 45 rfl (hZ.at (i := 79) rfl) h (fun s8 h => ?_)
          refine g_iinc C 46 3 (l2 + 1) [(2, .int (l2 + 1)), (5, .int v1), (0, .ref (ad 65)), (1, .int l1), (3, .int l3), (4, .int l4)] rfl rfl (by decide) rfl rfl ?_
          refine g_goto C 47 151 rfl rfl ?_
          refine g_iinc C 87 5 (l4 + 1) [(4, .int (l4 + 1)), (2, .int (l2 + 1)), (5, .int v1), (0, .ref (ad 65)), (1, .int l1), (3, .int l3)] rfl rfl (by decide) rfl rfl ?_
          refine g_goto C 88 22 rfl rfl ?_
          refine g_sub C [3, 4, 1, 5, 0] [(0, .ref (ad 65)), (1, .int l1), (2, .int (l2 + 1)), (3, .int l3), (4, .int (l4 + 1))] rfl ?_
          exact ih _ _ _ _ h
set_option maxRecDepth 20000 in
set_option maxHeartbeats 4000000 in
theorem M_X10_worksOut {Z : List gH} (hZ : Lay Z) (l1 : Int32) : gMet yX10_worksOut cX10_worksOut 6 (some .int) 2 Z (fun ad => [.ref (ad 65), .int l1]) (F_X10_worksOut Z l1) := by
  refine gMet_intro T_X10_worksOut T_X10_worksOut_ok rfl (fun _ => Nat.le_of_ble_eq_true rfl) (fun g ad σ z C h => ?_)
  show g 0 [(0, .ref (ad 65)), (1, .int l1)] [] σ
  rw [F_X10_worksOut] at h
  refine g_iconst (v := 0) C 0 rfl rfl ?_
  refine g_istore_n C 1 [(2, .int 0), (0, .ref (ad 65)), (1, .int l1)] rfl (by decide) rfl ?_
  refine g_aload_n C 2 1 rfl rfl ?_
  refine g_getr (b := 66) C 3 rfl flX10_9 (hZ.at (i := 65) rfl) rfl ?_
  refine g_sipush (v := 136) C 4 rfl rfl ?_
  refine g_iconst (v := 2) C 5 rfl rfl ?_
  refine g_iload_n C 6 2 rfl rfl ?_
  refine g_imul C 7 rfl ?_
  refine g_iadd C 8 rfl ?_
  refine g_iald C 9 rfl (hZ.at (i := 66) rfl) h (fun h => ?_)
  refine g_sipush (v := 1000) C 10 rfl rfl ?_
  refine g_iremK C 11 rfl (by decide) ?_
  refine g_let h (fun v1 h => ?_)
  refine g_istore_n C 12 [(3, .int v1), (2, .int 0), (0, .ref (ad 65)), (1, .int l1)] rfl (by decide) rfl ?_
  refine g_iconst (v := 0) C 13 rfl rfl ?_
  refine g_istore C 14 [(4, .int 0), (3, .int v1), (2, .int 0), (0, .ref (ad 65)), (1, .int l1)] rfl (by decide) rfl ?_
  refine g_sub C [3, 4, 2, 1, 0] [(0, .ref (ad 65)), (1, .int l1), (2, .int 0), (3, .int v1), (4, .int 0)] rfl ?_
  exact C_F_X10_worksOut_L22 C hZ _ _ _ _ _ _ h
def T_X10_within : List (Nat × Instr × Nat) := [(0, .iload_n 0, 1), (1, .iload_n 1, 1), (2, .if_icmp .ge 7, 3), (5, .iload_n 1, 1), (6, .goto 13, 3), (9, .iload_n 0, 1), (10, .iload_n 2, 1), (11, .if_icmp .le 7, 3), (14, .iload_n 2, 1), (15, .goto 4, 3), (18, .iload_n 0, 1), (19, .ireturn, 1)]
theorem T_X10_within_ok : gTb cX10_within T_X10_within = true := by decide +kernel
def F_X10_within (Z : List gH) (l0 : Int32) (l1 : Int32) (l2 : Int32) (σ : gS) : Option (Int32 × gS) := if l1 ≤ l0 then if l0 ≤ l2 then some (l0, σ) else some (l2, σ) else some (l1, σ)
set_option maxRecDepth 20000 in
set_option maxHeartbeats 4000000 in
theorem M_X10_within {Z : List gH} (hZ : Lay Z) (l0 : Int32) (l1 : Int32) (l2 : Int32) : gMet yX10_within cX10_within 3 (some .int) 1 Z (fun ad => [.int l0, .int l1, .int l2]) (F_X10_within Z l0 l1 l2) := by
  refine gMet_intro T_X10_within T_X10_within_ok rfl (fun _ => Nat.le_of_ble_eq_true rfl) (fun g ad σ z C h => ?_)
  show g 0 [(0, .int l0), (1, .int l1), (2, .int l2)] [] σ
  rw [F_X10_within] at h
  refine g_iload_n C 0 0 rfl rfl ?_
  refine g_iload_n C 1 1 rfl rfl ?_
  refine g_icmp_ge C 2 9 rfl rfl h (fun h => ?_) (fun h => ?_)
  · refine g_iload_n C 5 0 rfl rfl ?_
    refine g_iload_n C 6 2 rfl rfl ?_
    refine g_icmp_le C 7 18 rfl rfl h (fun h => ?_) (fun h => ?_)
    · refine g_iload_n C 10 0 rfl rfl ?_
      exact g_ireturn C 11 rfl h
    · refine g_iload_n C 8 2 rfl rfl ?_
      refine g_goto C 9 19 rfl rfl ?_
      exact g_ireturn C 11 rfl h
  · refine g_iload_n C 3 1 rfl rfl ?_
    refine g_goto C 4 19 rfl rfl ?_
    exact g_ireturn C 11 rfl h
def T_X10_burnsOf : List (Nat × Instr × Nat) := [(0, .aload_n 0, 1), (1, .iconst 0, 1), (2, .invokevirtual 88, 3), (5, .istore_n 2, 1), (6, .aload_n 0, 1), (7, .getfield 54, 3), (10, .iconst 0, 1), (11, .aload_n 0, 1), (12, .iload_n 1, 1), (13, .iconst 2, 1), (14, .invokevirtual 92, 3), (17, .iastore, 1), (18, .aload_n 0, 1), (19, .getfield 54, 3), (22, .iconst 1, 1), (23, .aload_n 0, 1), (24, .getfield 9, 3), (27, .bipush 10, 2), (29, .aload_n 0, 1), (30, .iload_n 1, 1), (31, .iconst 1, 1), (32, .invokevirtual 92, 3), (35, .iadd, 1), (36, .iaload, 1), (37, .iastore, 1), (38, .aload_n 0, 1), (39, .getfield 54, 3), (42, .iconst 2, 1), (43, .aload_n 0, 1), (44, .getfield 9, 3), (47, .iconst 2, 1), (48, .iaload, 1), (49, .iastore, 1), (50, .iload_n 2, 1), (51, .ifCond .ge 7, 3), (54, .iconst 5, 1), (55, .goto 14, 3), (58, .aload_n 0, 1), (59, .iload_n 2, 1), (60, .invokevirtual 96, 3), (63, .iconst 0, 1), (64, .bipush 99, 2), (66, .invokestatic 99, 3), (69, .istore_n 3, 1), (70, .aload_n 0, 1), (71, .iload_n 1, 1), (72, .iconst 0, 1), (73, .invokevirtual 92, 3), (76, .tableswitch 64 1 5 #[36, 40, 44, 50, 62], 36), (112, .iload_n 3, 1), (113, .iconst 2, 1), (114, .iadd, 1), (115, .ireturn, 1), (116, .iload_n 3, 1), (117, .iconst 2, 1), (118, .idiv, 1), (119, .ireturn, 1), (120, .iconst 2, 1), (121, .iload_n 3, 1), (122, .iconst 2, 1), (123, .iadd, 1), (124, .imul, 1), (125, .ireturn, 1), (126, .iload_n 3, 1), (127, .iconst 2, 1), (128, .idiv, 1), (129, .iconst 1, 1), (130, .isub, 1), (131, .iconst 0, 1), (132, .bipush 99, 2), (134, .invokestatic 99, 3), (137, .ireturn, 1), (138, .iconst 0, 1), (139, .ireturn, 1), (140, .iload_n 3, 1), (141, .ireturn, 1)]
theorem T_X10_burnsOf_ok : gTb cX10_burnsOf T_X10_burnsOf = true := by decide +kernel
def F_X10_burnsOf_J69 (Z : List gH) (l1 : Int32) (t0 : Int32) (σ : gS) : Option (Int32 × gS) := mCall (F_X10_of Z l1 0 σ) (fun r1 s2 => if r1 = 1 then some ((t0 + 2), s2) else if r1 = 2 then some ((t0 / 2), s2) else if r1 = 3 then some ((2 * (t0 + 2)), s2) else if r1 = 4 then mCall (F_X10_within Z ((t0 / 2) - 1) 0 99 s2) (fun r3 s4 => some (r3, s4)) else if r1 = 5 then some (0, s2) else some (t0, s2))
def F_X10_burnsOf (Z : List gH) (l1 : Int32) (σ : gS) : Option (Int32 × gS) := mCall (F_X10_counts Z 0 σ) (fun r1 s2 => mCall (F_X10_of Z l1 2 s2) (fun r3 s4 => mLet (gu s4 80 0 r3) (fun s5 => mCall (F_X10_of Z l1 1 s5) (fun r6 s7 => mIn 1508 (10 + r6) (mLet (gu s7 80 1 (s7 66 (nn (10 + r6)))) (fun s8 => mLet (gu s8 80 2 (s8 66 2)) (fun s9 => if 0 ≤ r1 then mCall (F_X10_worksOut Z r1 s9) (fun r10 s11 => mCall (F_X10_within Z r10 0 99 s11) (fun r12 s13 => F_X10_burnsOf_J69 Z l1 r12 s13)) else F_X10_burnsOf_J69 Z l1 5 s9)))))))
set_option maxRecDepth 20000 in
set_option maxHeartbeats 4000000 in
theorem C_F_X10_burnsOf_J69 {g : Nat → List (Nat × Value) → List Value → gS → Prop} {Z : List gH} {ad : Nat → Nat} {z : Int32 × gS}  (C : gOk g T_X10_burnsOf RX10 4 (some .int) 3 Z ad z) (hZ : Lay Z) (l1 : Int32) (t0 : Int32) (σ : gS) (h : F_X10_burnsOf_J69 Z l1 t0 σ = some z) : g 69 [(0, .ref (ad 65)), (1, .int l1)] [.int t0] σ := by
  rw [F_X10_burnsOf_J69] at h
  refine g_istore_n C 43 [(3, .int t0), (0, .ref (ad 65)), (1, .int l1)] rfl (by decide) rfl ?_
  refine g_aload_n C 44 1 rfl rfl ?_
  refine g_iload_n C 45 2 rfl rfl ?_
  refine g_iconst (v := 0) C 46 rfl rfl ?_
  refine g_callVi C 47 [.int l1, .int 0] [] rfl (M_X10_of hZ l1 0) cnX10_92 cwX10_of ciX10_of (hZ.at (i := 65) rfl) rfl rfl rfl rfl (Nat.le_of_ble_eq_true rfl) ⟨Nat.le_of_ble_eq_true rfl, Nat.le_of_ble_eq_true rfl⟩ h (fun r1 s2 h => ?_)
  by_cases hx2_0 : r1 = 1
  · rw [if_pos hx2_0] at h
    refine g_tblAt C 48 1 hx2_0 112 rfl (by decide) (by decide) rfl rfl ?_
    refine g_iload_n C 49 0 rfl rfl ?_
    refine g_iconst (v := 2) C 50 rfl rfl ?_
    refine g_iadd C 51 rfl ?_
    exact g_ireturn C 52 rfl h
  · rw [if_neg hx2_0] at h
    by_cases hx2_1 : r1 = 2
    · rw [if_pos hx2_1] at h
      refine g_tblAt C 48 2 hx2_1 116 rfl (by decide) (by decide) rfl rfl ?_
      refine g_iload_n C 53 0 rfl rfl ?_
      refine g_iconst (v := 2) C 54 rfl rfl ?_
      refine g_idivK C 55 rfl (by decide) ?_
      exact g_ireturn C 56 rfl h
    · rw [if_neg hx2_1] at h
      by_cases hx2_2 : r1 = 3
      · rw [if_pos hx2_2] at h
        refine g_tblAt C 48 3 hx2_2 120 rfl (by decide) (by decide) rfl rfl ?_
        refine g_iconst (v := 2) C 57 rfl rfl ?_
        refine g_iload_n C 58 0 rfl rfl ?_
        refine g_iconst (v := 2) C 59 rfl rfl ?_
        refine g_iadd C 60 rfl ?_
        refine g_imul C 61 rfl ?_
        exact g_ireturn C 62 rfl h
      · rw [if_neg hx2_2] at h
        by_cases hx2_3 : r1 = 4
        · rw [if_pos hx2_3] at h
          refine g_tblAt C 48 4 hx2_3 126 rfl (by decide) (by decide) rfl rfl ?_
          refine g_iload_n C 63 0 rfl rfl ?_
          refine g_iconst (v := 2) C 64 rfl rfl ?_
          refine g_idivK C 65 rfl (by decide) ?_
          refine g_iconst (v := 1) C 66 rfl rfl ?_
          refine g_isub C 67 rfl ?_
          refine g_iconst (v := 0) C 68 rfl rfl ?_
          refine g_bipush (v := 99) C 69 rfl rfl ?_
          refine g_callSi C 70 [.int ((t0 / 2) - 1), .int 0, .int 99] [] rfl (M_X10_within hZ ((t0 / 2) - 1) 0 99) cnX10_99 cwX10_within csX10_within rfl rfl rfl (Nat.le_of_ble_eq_true rfl) ⟨Nat.le_of_ble_eq_true rfl, Nat.le_of_ble_eq_true rfl⟩ h (fun r3 s4 h => ?_)
          exact g_ireturn C 71 rfl h
        · rw [if_neg hx2_3] at h
          by_cases hx4_4 : r1 = 5
          · rw [if_pos hx4_4] at h
            refine g_tblAt C 48 5 hx4_4 138 rfl (by decide) (by decide) rfl rfl ?_
            refine g_iconst (v := 0) C 72 rfl rfl ?_
            exact g_ireturn C 73 rfl h
          · rw [if_neg hx4_4] at h
            refine g_tblOut C 48 140 rfl (by have e0 := i32ne hx2_0 1 rfl; have e1 := i32ne hx2_1 2 rfl; have e2 := i32ne hx2_2 3 rfl; have e3 := i32ne hx2_3 4 rfl; have e4 := i32ne hx4_4 5 rfl; omega) rfl ?_
            refine g_iload_n C 74 0 rfl rfl ?_
            exact g_ireturn C 75 rfl h
set_option maxRecDepth 20000 in
set_option maxHeartbeats 4000000 in
theorem M_X10_burnsOf {Z : List gH} (hZ : Lay Z) (l1 : Int32) : gMet yX10_burnsOf cX10_burnsOf 4 (some .int) 3 Z (fun ad => [.ref (ad 65), .int l1]) (F_X10_burnsOf Z l1) := by
  refine gMet_intro T_X10_burnsOf T_X10_burnsOf_ok rfl (fun _ => Nat.le_of_ble_eq_true rfl) (fun g ad σ z C h => ?_)
  show g 0 [(0, .ref (ad 65)), (1, .int l1)] [] σ
  rw [F_X10_burnsOf] at h
  refine g_aload_n C 0 0 rfl rfl ?_
  refine g_iconst (v := 0) C 1 rfl rfl ?_
  refine g_callVi C 2 [.int 0] [] rfl (M_X10_counts hZ 0) cnX10_88 cwX10_counts ciX10_counts (hZ.at (i := 65) rfl) rfl rfl rfl rfl (Nat.le_of_ble_eq_true rfl) ⟨Nat.le_of_ble_eq_true rfl, Nat.le_of_ble_eq_true rfl⟩ h (fun r1 s2 h => ?_)
  refine g_istore_n C 3 [(2, .int r1), (0, .ref (ad 65)), (1, .int l1)] rfl (by decide) rfl ?_
  refine g_aload_n C 4 1 rfl rfl ?_
  refine g_getr (b := 80) C 5 rfl flX10_54 (hZ.at (i := 65) rfl) rfl ?_
  refine g_iconst (v := 0) C 6 rfl rfl ?_
  refine g_aload_n C 7 1 rfl rfl ?_
  refine g_iload_n C 8 2 rfl rfl ?_
  refine g_iconst (v := 2) C 9 rfl rfl ?_
  refine g_callVi C 10 [.int l1, .int 2] [.int 0, .ref (ad 80)] rfl (M_X10_of hZ l1 2) cnX10_92 cwX10_of ciX10_of (hZ.at (i := 65) rfl) rfl rfl rfl rfl (Nat.le_of_ble_eq_true rfl) ⟨Nat.le_of_ble_eq_true rfl, Nat.le_of_ble_eq_true rfl⟩ h (fun r3 s4 h => ?_)
  refine g_iastK C 11 0 rfl (hZ.at (i := 80) rfl) rfl (vp_k rfl) h (fun s5 h => ?_)
  refine g_aload_n C 12 1 rfl rfl ?_
  refine g_getr (b := 80) C 13 rfl flX10_54 (hZ.at (i := 65) rfl) rfl ?_
  refine g_iconst (v := 1) C 14 rfl rfl ?_
  refine g_aload_n C 15 1 rfl rfl ?_
  refine g_getr (b := 66) C 16 rfl flX10_9 (hZ.at (i := 65) rfl) rfl ?_
  refine g_bipush (v := 10) C 17 rfl rfl ?_
  refine g_aload_n C 18 1 rfl rfl ?_
  refine g_iload_n C 19 2 rfl rfl ?_
  refine g_iconst (v := 1) C 20 rfl rfl ?_
  refine g_callVi C 21 [.int l1, .int 1] [.int 10, .ref (ad 66), .int 1, .ref (ad 80)] rfl (M_X10_of hZ l1 1) cnX10_92 cwX10_of ciX10_of (hZ.at (i := 65) rfl) rfl rfl rfl rfl (Nat.le_of_ble_eq_true rfl) ⟨Nat.le_of_ble_eq_true rfl, Nat.le_of_ble_eq_true rfl⟩ h (fun r6 s7 h => ?_)
  refine g_iadd C 22 rfl ?_
  refine g_iald C 23 rfl (hZ.at (i := 66) rfl) h (fun h => ?_)
  refine g_iastK C 24 1 rfl (hZ.at (i := 80) rfl) rfl (vp_k rfl) h (fun s8 h => ?_)
  refine g_aload_n C 25 1 rfl rfl ?_
  refine g_getr (b := 80) C 26 rfl flX10_54 (hZ.at (i := 65) rfl) rfl ?_
  refine g_iconst (v := 2) C 27 rfl rfl ?_
  refine g_aload_n C 28 1 rfl rfl ?_
  refine g_getr (b := 66) C 29 rfl flX10_9 (hZ.at (i := 65) rfl) rfl ?_
  refine g_iconst (v := 2) C 30 rfl rfl ?_
  refine g_ialdK C 31 2 rfl (hZ.at (i := 66) rfl) rfl (vp_k rfl) ?_
  refine g_iastK C 32 2 rfl (hZ.at (i := 80) rfl) rfl (vp_k rfl) h (fun s9 h => ?_)
  refine g_iload_n C 33 0 rfl rfl ?_
  refine g_if_ge C 34 58 rfl rfl h (fun h => ?_) (fun h => ?_)
  · refine g_aload_n C 37 1 rfl rfl ?_
    refine g_iload_n C 38 0 rfl rfl ?_
    refine g_callVi C 39 [.int r1] [] rfl (M_X10_worksOut hZ r1) cnX10_96 cwX10_worksOut ciX10_worksOut (hZ.at (i := 65) rfl) rfl rfl rfl rfl (Nat.le_of_ble_eq_true rfl) ⟨Nat.le_of_ble_eq_true rfl, Nat.le_of_ble_eq_true rfl⟩ h (fun r10 s11 h => ?_)
    refine g_iconst (v := 0) C 40 rfl rfl ?_
    refine g_bipush (v := 99) C 41 rfl rfl ?_
    refine g_callSi C 42 [.int r10, .int 0, .int 99] [] rfl (M_X10_within hZ r10 0 99) cnX10_99 cwX10_within csX10_within rfl rfl rfl (Nat.le_of_ble_eq_true rfl) ⟨Nat.le_of_ble_eq_true rfl, Nat.le_of_ble_eq_true rfl⟩ h (fun r12 s13 h => ?_)
    refine g_sub C [1, 2] [(0, .ref (ad 65)), (1, .int l1)] rfl ?_
    exact C_F_X10_burnsOf_J69 C hZ _ _ _ h
  · refine g_iconst (v := 5) C 35 rfl rfl ?_
    refine g_goto C 36 69 rfl rfl ?_
    refine g_sub C [1, 2] [(0, .ref (ad 65)), (1, .int l1)] rfl ?_
    exact C_F_X10_burnsOf_J69 C hZ _ _ _ h
def T_X10_isThing : List (Nat × Instr × Nat) := [(0, .iload_n 1, 1), (1, .iconst 0, 1), (2, .aload_n 0, 1), (3, .getfield 9, 3), (6, .iconst 1, 1), (7, .iaload, 1), (8, .iconst 1, 1), (9, .isub, 1), (10, .invokestatic 84, 3), (13, .ireturn, 1)]
theorem T_X10_isThing_ok : gTb cX10_isThing T_X10_isThing = true := by decide +kernel
def F_X10_isThing (Z : List gH) (l1 : Int32) (σ : gS) : Option (Int32 × gS) := mCall (F_X10_in Z l1 0 ((σ 66 1) - 1) σ) (fun r1 s2 => mZ r1 s2)
set_option maxRecDepth 20000 in
set_option maxHeartbeats 4000000 in
theorem M_X10_isThing {Z : List gH} (hZ : Lay Z) (l1 : Int32) : gMet yX10_isThing cX10_isThing 2 (some .boolean) 2 Z (fun ad => [.ref (ad 65), .int l1]) (F_X10_isThing Z l1) := by
  refine gMet_intro T_X10_isThing T_X10_isThing_ok rfl (fun _ => Nat.le_of_ble_eq_true rfl) (fun g ad σ z C h => ?_)
  show g 0 [(0, .ref (ad 65)), (1, .int l1)] [] σ
  rw [F_X10_isThing] at h
  refine g_iload_n C 0 1 rfl rfl ?_
  refine g_iconst (v := 0) C 1 rfl rfl ?_
  refine g_aload_n C 2 0 rfl rfl ?_
  refine g_getr (b := 66) C 3 rfl flX10_9 (hZ.at (i := 65) rfl) rfl ?_
  refine g_iconst (v := 1) C 4 rfl rfl ?_
  refine g_ialdK C 5 1 rfl (hZ.at (i := 66) rfl) rfl (vp_k rfl) ?_
  refine g_iconst (v := 1) C 6 rfl rfl ?_
  refine g_isub C 7 rfl ?_
  refine g_callSi C 8 [.int l1, .int 0, .int ((σ 66 1) - 1)] [] rfl (M_X10_in hZ l1 0 ((σ 66 1) - 1)) cnX10_84 cwX10_in csX10_in rfl rfl rfl (Nat.le_of_ble_eq_true rfl) ⟨Nat.le_of_ble_eq_true rfl, Nat.le_of_ble_eq_true rfl⟩ h (fun r1 s2 h => ?_)
  exact g_zreturn C 9 rfl h
def T_X10_catchesOf : List (Nat × Instr × Nat) := [(0, .aload_n 0, 1), (1, .iload_n 1, 1), (2, .iconst 0, 1), (3, .invokevirtual 92, 3), (6, .tableswitch 49 1 5 #[34, 37, 40, 43, 46], 34), (40, .bipush 12, 2), (42, .ireturn, 1), (43, .bipush 35, 2), (45, .ireturn, 1), (46, .bipush 6, 2), (48, .ireturn, 1), (49, .bipush 70, 2), (51, .ireturn, 1), (52, .bipush 100, 2), (54, .ireturn, 1), (55, .bipush 20, 2), (57, .ireturn, 1)]
theorem T_X10_catchesOf_ok : gTb cX10_catchesOf T_X10_catchesOf = true := by decide +kernel
def F_X10_catchesOf (Z : List gH) (l1 : Int32) (σ : gS) : Option (Int32 × gS) := mCall (F_X10_of Z l1 0 σ) (fun r1 s2 => if r1 = 1 then some (12, s2) else if r1 = 2 then some (35, s2) else if r1 = 3 then some (6, s2) else if r1 = 4 then some (70, s2) else if r1 = 5 then some (100, s2) else some (20, s2))
set_option maxRecDepth 20000 in
set_option maxHeartbeats 4000000 in
theorem M_X10_catchesOf {Z : List gH} (hZ : Lay Z) (l1 : Int32) : gMet yX10_catchesOf cX10_catchesOf 2 (some .int) 2 Z (fun ad => [.ref (ad 65), .int l1]) (F_X10_catchesOf Z l1) := by
  refine gMet_intro T_X10_catchesOf T_X10_catchesOf_ok rfl (fun _ => Nat.le_of_ble_eq_true rfl) (fun g ad σ z C h => ?_)
  show g 0 [(0, .ref (ad 65)), (1, .int l1)] [] σ
  rw [F_X10_catchesOf] at h
  refine g_aload_n C 0 0 rfl rfl ?_
  refine g_iload_n C 1 1 rfl rfl ?_
  refine g_iconst (v := 0) C 2 rfl rfl ?_
  refine g_callVi C 3 [.int l1, .int 0] [] rfl (M_X10_of hZ l1 0) cnX10_92 cwX10_of ciX10_of (hZ.at (i := 65) rfl) rfl rfl rfl rfl (Nat.le_of_ble_eq_true rfl) ⟨Nat.le_of_ble_eq_true rfl, Nat.le_of_ble_eq_true rfl⟩ h (fun r1 s2 h => ?_)
  by_cases hx2_0 : r1 = 1
  · rw [if_pos hx2_0] at h
    refine g_tblAt C 4 1 hx2_0 40 rfl (by decide) (by decide) rfl rfl ?_
    refine g_bipush (v := 12) C 5 rfl rfl ?_
    exact g_ireturn C 6 rfl h
  · rw [if_neg hx2_0] at h
    by_cases hx2_1 : r1 = 2
    · rw [if_pos hx2_1] at h
      refine g_tblAt C 4 2 hx2_1 43 rfl (by decide) (by decide) rfl rfl ?_
      refine g_bipush (v := 35) C 7 rfl rfl ?_
      exact g_ireturn C 8 rfl h
    · rw [if_neg hx2_1] at h
      by_cases hx2_2 : r1 = 3
      · rw [if_pos hx2_2] at h
        refine g_tblAt C 4 3 hx2_2 46 rfl (by decide) (by decide) rfl rfl ?_
        refine g_bipush (v := 6) C 9 rfl rfl ?_
        exact g_ireturn C 10 rfl h
      · rw [if_neg hx2_2] at h
        by_cases hx2_3 : r1 = 4
        · rw [if_pos hx2_3] at h
          refine g_tblAt C 4 4 hx2_3 49 rfl (by decide) (by decide) rfl rfl ?_
          refine g_bipush (v := 70) C 11 rfl rfl ?_
          exact g_ireturn C 12 rfl h
        · rw [if_neg hx2_3] at h
          by_cases hx2_4 : r1 = 5
          · rw [if_pos hx2_4] at h
            refine g_tblAt C 4 5 hx2_4 52 rfl (by decide) (by decide) rfl rfl ?_
            refine g_bipush (v := 100) C 13 rfl rfl ?_
            exact g_ireturn C 14 rfl h
          · rw [if_neg hx2_4] at h
            refine g_tblOut C 4 55 rfl (by have e0 := i32ne hx2_0 1 rfl; have e1 := i32ne hx2_1 2 rfl; have e2 := i32ne hx2_2 3 rfl; have e3 := i32ne hx2_3 4 rfl; have e4 := i32ne hx2_4 5 rfl; omega) rfl ?_
            refine g_bipush (v := 20) C 15 rfl rfl ?_
            exact g_ireturn C 16 rfl h
def T_X10_told : List (Nat × Instr × Nat) := [(0, .aload_n 0, 1), (1, .iload_n 1, 1), (2, .invokevirtual 121, 3), (5, .ifCond .ne 6, 3), (8, .ldc 115, 2), (10, .ireturn, 1), (11, .iload_n 2, 1), (12, .tableswitch 84 0 7 #[48, 48, 48, 48, 55, 61, 72, 78], 48), (60, .aload_n 0, 1), (61, .iload_n 1, 1), (62, .iload_n 2, 1), (63, .invokevirtual 92, 3), (66, .ireturn, 1), (67, .aload_n 0, 1), (68, .iload_n 1, 1), (69, .invokevirtual 124, 3), (72, .ireturn, 1), (73, .aload_n 0, 1), (74, .iload_n 1, 1), (75, .aload_n 0, 1), (76, .iload_n 1, 1), (77, .invokevirtual 124, 3), (80, .invokevirtual 127, 3), (83, .ireturn, 1), (84, .aload_n 0, 1), (85, .iload_n 1, 1), (86, .invokevirtual 130, 3), (89, .ireturn, 1), (90, .aload_n 0, 1), (91, .iload_n 1, 1), (92, .invokevirtual 133, 3), (95, .ireturn, 1), (96, .ldc 115, 2), (98, .ireturn, 1)]
theorem T_X10_told_ok : gTb cX10_told T_X10_told = true := by decide +kernel
def F_X10_told (Z : List gH) (l1 : Int32) (l2 : Int32) (σ : gS) : Option (Int32 × gS) := mCall (F_X10_isThing Z l1 σ) (fun r1 s2 => if r1 = 0 then some ((-1000000001), s2) else if l2 = 0 then mCall (F_X10_of Z l1 l2 s2) (fun r3 s4 => some (r3, s4)) else if l2 = 1 then mCall (F_X10_of Z l1 l2 s2) (fun r5 s6 => some (r5, s6)) else if l2 = 2 then mCall (F_X10_of Z l1 l2 s2) (fun r7 s8 => some (r7, s8)) else if l2 = 3 then mCall (F_X10_of Z l1 l2 s2) (fun r9 s10 => some (r9, s10)) else if l2 = 4 then mCall (F_X10_burnsOf Z l1 s2) (fun r11 s12 => some (r11, s12)) else if l2 = 5 then mCall (F_X10_burnsOf Z l1 s2) (fun r13 s14 => mCall (F_X10_givesOf Z l1 r13 s14) (fun r15 s16 => some (r15, s16))) else if l2 = 6 then mCall (F_X10_catchesOf Z l1 s2) (fun r17 s18 => some (r17, s18)) else if l2 = 7 then mCall (F_X10_worthOf Z l1 s2) (fun r19 s20 => some (r19, s20)) else some ((-1000000001), s2))
set_option maxRecDepth 20000 in
set_option maxHeartbeats 4000000 in
theorem M_X10_told {Z : List gH} (hZ : Lay Z) (l1 : Int32) (l2 : Int32) : gMet yX10_told cX10_told 3 (some .int) 4 Z (fun ad => [.ref (ad 65), .int l1, .int l2]) (F_X10_told Z l1 l2) := by
  refine gMet_intro T_X10_told T_X10_told_ok rfl (fun _ => Nat.le_of_ble_eq_true rfl) (fun g ad σ z C h => ?_)
  show g 0 [(0, .ref (ad 65)), (1, .int l1), (2, .int l2)] [] σ
  rw [F_X10_told] at h
  refine g_aload_n C 0 0 rfl rfl ?_
  refine g_iload_n C 1 1 rfl rfl ?_
  refine g_callVi C 2 [.int l1] [] rfl (M_X10_isThing hZ l1) cnX10_121 cwX10_isThing ciX10_isThing (hZ.at (i := 65) rfl) rfl rfl rfl rfl (Nat.le_of_ble_eq_true rfl) ⟨Nat.le_of_ble_eq_true rfl, Nat.le_of_ble_eq_true rfl⟩ h (fun r1 s2 h => ?_)
  refine g_if_ne C 3 11 rfl rfl h (fun h => ?_) (fun h => ?_)
  · refine g_iload_n C 6 2 rfl rfl ?_
    by_cases hx2_0 : l2 = 0
    · rw [if_pos hx2_0] at h
      refine g_tblAt C 7 0 hx2_0 60 rfl (by decide) (by decide) rfl rfl ?_
      refine g_aload_n C 8 0 rfl rfl ?_
      refine g_iload_n C 9 1 rfl rfl ?_
      refine g_iload_n C 10 2 rfl rfl ?_
      refine g_callVi C 11 [.int l1, .int l2] [] rfl (M_X10_of hZ l1 l2) cnX10_92 cwX10_of ciX10_of (hZ.at (i := 65) rfl) rfl rfl rfl rfl (Nat.le_of_ble_eq_true rfl) ⟨Nat.le_of_ble_eq_true rfl, Nat.le_of_ble_eq_true rfl⟩ h (fun r3 s4 h => ?_)
      exact g_ireturn C 12 rfl h
    · rw [if_neg hx2_0] at h
      by_cases hx4_1 : l2 = 1
      · rw [if_pos hx4_1] at h
        refine g_tblAt C 7 1 hx4_1 60 rfl (by decide) (by decide) rfl rfl ?_
        refine g_aload_n C 8 0 rfl rfl ?_
        refine g_iload_n C 9 1 rfl rfl ?_
        refine g_iload_n C 10 2 rfl rfl ?_
        refine g_callVi C 11 [.int l1, .int l2] [] rfl (M_X10_of hZ l1 l2) cnX10_92 cwX10_of ciX10_of (hZ.at (i := 65) rfl) rfl rfl rfl rfl (Nat.le_of_ble_eq_true rfl) ⟨Nat.le_of_ble_eq_true rfl, Nat.le_of_ble_eq_true rfl⟩ h (fun r5 s6 h => ?_)
        exact g_ireturn C 12 rfl h
      · rw [if_neg hx4_1] at h
        by_cases hx6_2 : l2 = 2
        · rw [if_pos hx6_2] at h
          refine g_tblAt C 7 2 hx6_2 60 rfl (by decide) (by decide) rfl rfl ?_
          refine g_aload_n C 8 0 rfl rfl ?_
          refine g_iload_n C 9 1 rfl rfl ?_
          refine g_iload_n C 10 2 rfl rfl ?_
          refine g_callVi C 11 [.int l1, .int l2] [] rfl (M_X10_of hZ l1 l2) cnX10_92 cwX10_of ciX10_of (hZ.at (i := 65) rfl) rfl rfl rfl rfl (Nat.le_of_ble_eq_true rfl) ⟨Nat.le_of_ble_eq_true rfl, Nat.le_of_ble_eq_true rfl⟩ h (fun r7 s8 h => ?_)
          exact g_ireturn C 12 rfl h
        · rw [if_neg hx6_2] at h
          by_cases hx8_3 : l2 = 3
          · rw [if_pos hx8_3] at h
            refine g_tblAt C 7 3 hx8_3 60 rfl (by decide) (by decide) rfl rfl ?_
            refine g_aload_n C 8 0 rfl rfl ?_
            refine g_iload_n C 9 1 rfl rfl ?_
            refine g_iload_n C 10 2 rfl rfl ?_
            refine g_callVi C 11 [.int l1, .int l2] [] rfl (M_X10_of hZ l1 l2) cnX10_92 cwX10_of ciX10_of (hZ.at (i := 65) rfl) rfl rfl rfl rfl (Nat.le_of_ble_eq_true rfl) ⟨Nat.le_of_ble_eq_true rfl, Nat.le_of_ble_eq_true rfl⟩ h (fun r9 s10 h => ?_)
            exact g_ireturn C 12 rfl h
          · rw [if_neg hx8_3] at h
            by_cases hx10_4 : l2 = 4
            · rw [if_pos hx10_4] at h
              refine g_tblAt C 7 4 hx10_4 67 rfl (by decide) (by decide) rfl rfl ?_
              refine g_aload_n C 13 0 rfl rfl ?_
              refine g_iload_n C 14 1 rfl rfl ?_
              refine g_callVi C 15 [.int l1] [] rfl (M_X10_burnsOf hZ l1) cnX10_124 cwX10_burnsOf ciX10_burnsOf (hZ.at (i := 65) rfl) rfl rfl rfl rfl (Nat.le_of_ble_eq_true rfl) ⟨Nat.le_of_ble_eq_true rfl, Nat.le_of_ble_eq_true rfl⟩ h (fun r11 s12 h => ?_)
              exact g_ireturn C 16 rfl h
            · rw [if_neg hx10_4] at h
              by_cases hx12_5 : l2 = 5
              · rw [if_pos hx12_5] at h
                refine g_tblAt C 7 5 hx12_5 73 rfl (by decide) (by decide) rfl rfl ?_
                refine g_aload_n C 17 0 rfl rfl ?_
                refine g_iload_n C 18 1 rfl rfl ?_
                refine g_aload_n C 19 0 rfl rfl ?_
                refine g_iload_n C 20 1 rfl rfl ?_
                refine g_callVi C 21 [.int l1] [.int l1, .ref (ad 65)] rfl (M_X10_burnsOf hZ l1) cnX10_124 cwX10_burnsOf ciX10_burnsOf (hZ.at (i := 65) rfl) rfl rfl rfl rfl (Nat.le_of_ble_eq_true rfl) ⟨Nat.le_of_ble_eq_true rfl, Nat.le_of_ble_eq_true rfl⟩ h (fun r13 s14 h => ?_)
                refine g_callVi C 22 [.int l1, .int r13] [] rfl (M_X10_givesOf hZ l1 r13) cnX10_127 cwX10_givesOf ciX10_givesOf (hZ.at (i := 65) rfl) rfl rfl rfl rfl (Nat.le_of_ble_eq_true rfl) ⟨Nat.le_of_ble_eq_true rfl, Nat.le_of_ble_eq_true rfl⟩ h (fun r15 s16 h => ?_)
                exact g_ireturn C 23 rfl h
              · rw [if_neg hx12_5] at h
                by_cases hx16_6 : l2 = 6
                · rw [if_pos hx16_6] at h
                  refine g_tblAt C 7 6 hx16_6 84 rfl (by decide) (by decide) rfl rfl ?_
                  refine g_aload_n C 24 0 rfl rfl ?_
                  refine g_iload_n C 25 1 rfl rfl ?_
                  refine g_callVi C 26 [.int l1] [] rfl (M_X10_catchesOf hZ l1) cnX10_130 cwX10_catchesOf ciX10_catchesOf (hZ.at (i := 65) rfl) rfl rfl rfl rfl (Nat.le_of_ble_eq_true rfl) ⟨Nat.le_of_ble_eq_true rfl, Nat.le_of_ble_eq_true rfl⟩ h (fun r17 s18 h => ?_)
                  exact g_ireturn C 27 rfl h
                · rw [if_neg hx16_6] at h
                  by_cases hx18_7 : l2 = 7
                  · rw [if_pos hx18_7] at h
                    refine g_tblAt C 7 7 hx18_7 90 rfl (by decide) (by decide) rfl rfl ?_
                    refine g_aload_n C 28 0 rfl rfl ?_
                    refine g_iload_n C 29 1 rfl rfl ?_
                    refine g_callVi C 30 [.int l1] [] rfl (M_X10_worthOf hZ l1) cnX10_133 cwX10_worthOf ciX10_worthOf (hZ.at (i := 65) rfl) rfl rfl rfl rfl (Nat.le_of_ble_eq_true rfl) ⟨Nat.le_of_ble_eq_true rfl, Nat.le_of_ble_eq_true rfl⟩ h (fun r19 s20 h => ?_)
                    exact g_ireturn C 31 rfl h
                  · rw [if_neg hx18_7] at h
                    refine g_tblOut C 7 96 rfl (by have e0 := i32ne hx2_0 0 rfl; have e1 := i32ne hx4_1 1 rfl; have e2 := i32ne hx6_2 2 rfl; have e3 := i32ne hx8_3 3 rfl; have e4 := i32ne hx10_4 4 rfl; have e5 := i32ne hx12_5 5 rfl; have e6 := i32ne hx16_6 6 rfl; have e7 := i32ne hx18_7 7 rfl; omega) rfl ?_
                    refine g_ldc C 32 rfl kcX10_115 ?_
                    exact g_ireturn C 33 rfl h
  · refine g_ldc C 4 rfl kcX10_115 ?_
    exact g_ireturn C 5 rfl h
def T_X10_isUnder : List (Nat × Instr × Nat) := [(0, .iload_n 1, 1), (1, .ifCond .eq 28, 3), (4, .iload_n 0, 1), (5, .iload_n 1, 1), (6, .if_icmp .eq 23, 3), (9, .iload_n 1, 1), (10, .iconst 1, 1), (11, .if_icmp .ne 8, 3), (14, .iload_n 0, 1), (15, .iconst 3, 1), (16, .if_icmp .eq 13, 3), (19, .iload_n 1, 1), (20, .iconst 2, 1), (21, .if_icmp .ne 12, 3), (24, .iload_n 0, 1), (25, .iconst 4, 1), (26, .if_icmp .ne 7, 3), (29, .iconst 1, 1), (30, .goto 4, 3), (33, .iconst 0, 1), (34, .ireturn, 1)]
theorem T_X10_isUnder_ok : gTb cX10_isUnder T_X10_isUnder = true := by decide +kernel
def F_X10_isUnder (Z : List gH) (l0 : Int32) (l1 : Int32) (σ : gS) : Option (Int32 × gS) := if l1 = 0 then mZ 1 σ else if l0 = l1 then mZ 1 σ else if l1 = 1 then if l0 = 3 then mZ 1 σ else if l1 = 2 then if l0 = 4 then mZ 1 σ else mZ 0 σ else mZ 0 σ else if l1 = 2 then if l0 = 4 then mZ 1 σ else mZ 0 σ else mZ 0 σ
set_option maxRecDepth 20000 in
set_option maxHeartbeats 4000000 in
theorem M_X10_isUnder {Z : List gH} (hZ : Lay Z) (l0 : Int32) (l1 : Int32) : gMet yX10_isUnder cX10_isUnder 2 (some .boolean) 1 Z (fun ad => [.int l0, .int l1]) (F_X10_isUnder Z l0 l1) := by
  refine gMet_intro T_X10_isUnder T_X10_isUnder_ok rfl (fun _ => Nat.le_of_ble_eq_true rfl) (fun g ad σ z C h => ?_)
  show g 0 [(0, .int l0), (1, .int l1)] [] σ
  rw [F_X10_isUnder] at h
  refine g_iload_n C 0 1 rfl rfl ?_
  refine g_if_eq C 1 29 rfl rfl h (fun h => ?_) (fun h => ?_)
  · refine g_iconst (v := 1) C 17 rfl rfl ?_
    refine g_goto C 18 34 rfl rfl ?_
    exact g_zreturn C 20 rfl h
  · refine g_iload_n C 2 0 rfl rfl ?_
    refine g_iload_n C 3 1 rfl rfl ?_
    refine g_icmp_eq C 4 29 rfl rfl h (fun h => ?_) (fun h => ?_)
    · refine g_iconst (v := 1) C 17 rfl rfl ?_
      refine g_goto C 18 34 rfl rfl ?_
      exact g_zreturn C 20 rfl h
    · refine g_iload_n C 5 1 rfl rfl ?_
      refine g_iconst (v := 1) C 6 rfl rfl ?_
      refine g_icmp_ne C 7 19 rfl rfl h (fun h => ?_) (fun h => ?_)
      · refine g_iload_n C 11 1 rfl rfl ?_
        refine g_iconst (v := 2) C 12 rfl rfl ?_
        refine g_icmp_ne C 13 33 rfl rfl h (fun h => ?_) (fun h => ?_)
        · refine g_iconst (v := 0) C 19 rfl rfl ?_
          exact g_zreturn C 20 rfl h
        · refine g_iload_n C 14 0 rfl rfl ?_
          refine g_iconst (v := 4) C 15 rfl rfl ?_
          refine g_icmp_ne C 16 33 rfl rfl h (fun h => ?_) (fun h => ?_)
          · refine g_iconst (v := 0) C 19 rfl rfl ?_
            exact g_zreturn C 20 rfl h
          · refine g_iconst (v := 1) C 17 rfl rfl ?_
            refine g_goto C 18 34 rfl rfl ?_
            exact g_zreturn C 20 rfl h
      · refine g_iload_n C 8 0 rfl rfl ?_
        refine g_iconst (v := 3) C 9 rfl rfl ?_
        refine g_icmp_eq C 10 29 rfl rfl h (fun h => ?_) (fun h => ?_)
        · refine g_iconst (v := 1) C 17 rfl rfl ?_
          refine g_goto C 18 34 rfl rfl ?_
          exact g_zreturn C 20 rfl h
        · refine g_iload_n C 11 1 rfl rfl ?_
          refine g_iconst (v := 2) C 12 rfl rfl ?_
          refine g_icmp_ne C 13 33 rfl rfl h (fun h => ?_) (fun h => ?_)
          · refine g_iconst (v := 0) C 19 rfl rfl ?_
            exact g_zreturn C 20 rfl h
          · refine g_iload_n C 14 0 rfl rfl ?_
            refine g_iconst (v := 4) C 15 rfl rfl ?_
            refine g_icmp_ne C 16 33 rfl rfl h (fun h => ?_) (fun h => ?_)
            · refine g_iconst (v := 0) C 19 rfl rfl ?_
              exact g_zreturn C 20 rfl h
            · refine g_iconst (v := 1) C 17 rfl rfl ?_
              refine g_goto C 18 34 rfl rfl ?_
              exact g_zreturn C 20 rfl h
def T_X10_as : List (Nat × Instr × Nat) := [(0, .aload_n 0, 1), (1, .iload_n 1, 1), (2, .invokevirtual 121, 3), (5, .ifCond .eq 12, 3), (8, .iload_n 2, 1), (9, .iconst 0, 1), (10, .iconst 5, 1), (11, .invokestatic 84, 3), (14, .ifCond .ne 6, 3), (17, .ldc 115, 2), (19, .ireturn, 1), (20, .aload_n 0, 1), (21, .iload_n 1, 1), (22, .iconst 0, 1), (23, .invokevirtual 92, 3), (26, .iload_n 2, 1), (27, .invokestatic 136, 3), (30, .ifCond .eq 12, 3), (33, .aload_n 0, 1), (34, .iload_n 1, 1), (35, .iconst 2, 1), (36, .invokevirtual 92, 3), (39, .goto 5, 3), (42, .ldc 139, 2), (44, .ireturn, 1)]
theorem T_X10_as_ok : gTb cX10_as T_X10_as = true := by decide +kernel
def F_X10_as (Z : List gH) (l1 : Int32) (l2 : Int32) (σ : gS) : Option (Int32 × gS) := mCall (F_X10_isThing Z l1 σ) (fun r1 s2 => if r1 = 0 then some ((-1000000001), s2) else mCall (F_X10_in Z l2 0 5 s2) (fun r3 s4 => if r3 = 0 then some ((-1000000001), s4) else mCall (F_X10_of Z l1 0 s4) (fun r5 s6 => mCall (F_X10_isUnder Z r5 l2 s6) (fun r7 s8 => if r7 = 0 then some ((-1000000012), s8) else mCall (F_X10_of Z l1 2 s8) (fun r9 s10 => some (r9, s10))))))
set_option maxRecDepth 20000 in
set_option maxHeartbeats 4000000 in
theorem M_X10_as {Z : List gH} (hZ : Lay Z) (l1 : Int32) (l2 : Int32) : gMet yX10_as cX10_as 3 (some .int) 3 Z (fun ad => [.ref (ad 65), .int l1, .int l2]) (F_X10_as Z l1 l2) := by
  refine gMet_intro T_X10_as T_X10_as_ok rfl (fun _ => Nat.le_of_ble_eq_true rfl) (fun g ad σ z C h => ?_)
  show g 0 [(0, .ref (ad 65)), (1, .int l1), (2, .int l2)] [] σ
  rw [F_X10_as] at h
  refine g_aload_n C 0 0 rfl rfl ?_
  refine g_iload_n C 1 1 rfl rfl ?_
  refine g_callVi C 2 [.int l1] [] rfl (M_X10_isThing hZ l1) cnX10_121 cwX10_isThing ciX10_isThing (hZ.at (i := 65) rfl) rfl rfl rfl rfl (Nat.le_of_ble_eq_true rfl) ⟨Nat.le_of_ble_eq_true rfl, Nat.le_of_ble_eq_true rfl⟩ h (fun r1 s2 h => ?_)
  refine g_if_eq C 3 17 rfl rfl h (fun h => ?_) (fun h => ?_)
  · refine g_ldc C 9 rfl kcX10_115 ?_
    exact g_ireturn C 10 rfl h
  · refine g_iload_n C 4 2 rfl rfl ?_
    refine g_iconst (v := 0) C 5 rfl rfl ?_
    refine g_iconst (v := 5) C 6 rfl rfl ?_
    refine g_callSi C 7 [.int l2, .int 0, .int 5] [] rfl (M_X10_in hZ l2 0 5) cnX10_84 cwX10_in csX10_in rfl rfl rfl (Nat.le_of_ble_eq_true rfl) ⟨Nat.le_of_ble_eq_true rfl, Nat.le_of_ble_eq_true rfl⟩ h (fun r3 s4 h => ?_)
    refine g_if_ne C 8 20 rfl rfl h (fun h => ?_) (fun h => ?_)
    · refine g_aload_n C 11 0 rfl rfl ?_
      refine g_iload_n C 12 1 rfl rfl ?_
      refine g_iconst (v := 0) C 13 rfl rfl ?_
      refine g_callVi C 14 [.int l1, .int 0] [] rfl (M_X10_of hZ l1 0) cnX10_92 cwX10_of ciX10_of (hZ.at (i := 65) rfl) rfl rfl rfl rfl (Nat.le_of_ble_eq_true rfl) ⟨Nat.le_of_ble_eq_true rfl, Nat.le_of_ble_eq_true rfl⟩ h (fun r5 s6 h => ?_)
      refine g_iload_n C 15 2 rfl rfl ?_
      refine g_callSi C 16 [.int r5, .int l2] [] rfl (M_X10_isUnder hZ r5 l2) cnX10_136 cwX10_isUnder csX10_isUnder rfl rfl rfl (Nat.le_of_ble_eq_true rfl) ⟨Nat.le_of_ble_eq_true rfl, Nat.le_of_ble_eq_true rfl⟩ h (fun r7 s8 h => ?_)
      refine g_if_eq C 17 42 rfl rfl h (fun h => ?_) (fun h => ?_)
      · refine g_ldc C 23 rfl kcX10_139 ?_
        exact g_ireturn C 24 rfl h
      · refine g_aload_n C 18 0 rfl rfl ?_
        refine g_iload_n C 19 1 rfl rfl ?_
        refine g_iconst (v := 2) C 20 rfl rfl ?_
        refine g_callVi C 21 [.int l1, .int 2] [] rfl (M_X10_of hZ l1 2) cnX10_92 cwX10_of ciX10_of (hZ.at (i := 65) rfl) rfl rfl rfl rfl (Nat.le_of_ble_eq_true rfl) ⟨Nat.le_of_ble_eq_true rfl, Nat.le_of_ble_eq_true rfl⟩ h (fun r9 s10 h => ?_)
        refine g_goto C 22 44 rfl rfl ?_
        exact g_ireturn C 24 rfl h
    · refine g_ldc C 9 rfl kcX10_115 ?_
      exact g_ireturn C 10 rfl h
def T_X10_swaps : List (Nat × Instr × Nat) := [(0, .aload_n 0, 1), (1, .getfield 9, 3), (4, .iload_n 1, 1), (5, .iaload, 1), (6, .istore_n 3, 1), (7, .aload_n 0, 1), (8, .getfield 9, 3), (11, .iload_n 1, 1), (12, .iload_n 2, 1), (13, .iastore, 1), (14, .iload_n 3, 1), (15, .ireturn, 1)]
theorem T_X10_swaps_ok : gTb cX10_swaps T_X10_swaps = true := by decide +kernel
def F_X10_swaps (Z : List gH) (l1 : Int32) (l2 : Int32) (σ : gS) : Option (Int32 × gS) := mIn 1508 l1 (mLet ((σ 66 (nn l1))) (fun v1 => mIn 1508 l1 (mLet (gu σ 66 (nn l1) l2) (fun s2 => some (v1, s2)))))
set_option maxRecDepth 20000 in
set_option maxHeartbeats 4000000 in
theorem M_X10_swaps {Z : List gH} (hZ : Lay Z) (l1 : Int32) (l2 : Int32) : gMet yX10_swaps cX10_swaps 4 (some .int) 1 Z (fun ad => [.ref (ad 65), .int l1, .int l2]) (F_X10_swaps Z l1 l2) := by
  refine gMet_intro T_X10_swaps T_X10_swaps_ok rfl (fun _ => Nat.le_of_ble_eq_true rfl) (fun g ad σ z C h => ?_)
  show g 0 [(0, .ref (ad 65)), (1, .int l1), (2, .int l2)] [] σ
  rw [F_X10_swaps] at h
  refine g_aload_n C 0 0 rfl rfl ?_
  refine g_getr (b := 66) C 1 rfl flX10_9 (hZ.at (i := 65) rfl) rfl ?_
  refine g_iload_n C 2 1 rfl rfl ?_
  refine g_iald C 3 rfl (hZ.at (i := 66) rfl) h (fun h => ?_)
  refine g_let h (fun v1 h => ?_)
  refine g_istore_n C 4 [(3, .int v1), (0, .ref (ad 65)), (1, .int l1), (2, .int l2)] rfl (by decide) rfl ?_
  refine g_aload_n C 5 1 rfl rfl ?_
  refine g_getr (b := 66) C 6 rfl flX10_9 (hZ.at (i := 65) rfl) rfl ?_
  refine g_iload_n C 7 2 rfl rfl ?_
  refine g_iload_n C 8 3 rfl rfl ?_
  refine g_iast C 9 rfl (hZ.at (i := 66) rfl) h (fun s2 h => ?_)
  refine g_iload_n C 10 0 rfl rfl ?_
  exact g_ireturn C 11 rfl h
def T_X10_turns : List (Nat × Instr × Nat) := [(0, .aload_n 0, 1), (1, .iload_n 1, 1), (2, .invokevirtual 121, 3), (5, .ifCond .eq 26, 3), (8, .iload_n 2, 1), (9, .iconst 0, 1), (10, .iconst 5, 1), (11, .invokestatic 84, 3), (14, .ifCond .eq 17, 3), (17, .aload_n 0, 1), (18, .bipush 82, 2), (20, .iconst 4, 1), (21, .iload_n 1, 1), (22, .imul, 1), (23, .iadd, 1), (24, .iload_n 2, 1), (25, .invokevirtual 140, 3), (28, .goto 5, 3), (31, .ldc 115, 2), (33, .ireturn, 1)]
theorem T_X10_turns_ok : gTb cX10_turns T_X10_turns = true := by decide +kernel
def F_X10_turns (Z : List gH) (l1 : Int32) (l2 : Int32) (σ : gS) : Option (Int32 × gS) := mCall (F_X10_isThing Z l1 σ) (fun r1 s2 => if r1 = 0 then some ((-1000000001), s2) else mCall (F_X10_in Z l2 0 5 s2) (fun r3 s4 => if r3 = 0 then some ((-1000000001), s4) else mCall (F_X10_swaps Z (82 + (4 * l1)) l2 s4) (fun r5 s6 => some (r5, s6))))
set_option maxRecDepth 20000 in
set_option maxHeartbeats 4000000 in
theorem M_X10_turns {Z : List gH} (hZ : Lay Z) (l1 : Int32) (l2 : Int32) : gMet yX10_turns cX10_turns 3 (some .int) 3 Z (fun ad => [.ref (ad 65), .int l1, .int l2]) (F_X10_turns Z l1 l2) := by
  refine gMet_intro T_X10_turns T_X10_turns_ok rfl (fun _ => Nat.le_of_ble_eq_true rfl) (fun g ad σ z C h => ?_)
  show g 0 [(0, .ref (ad 65)), (1, .int l1), (2, .int l2)] [] σ
  rw [F_X10_turns] at h
  refine g_aload_n C 0 0 rfl rfl ?_
  refine g_iload_n C 1 1 rfl rfl ?_
  refine g_callVi C 2 [.int l1] [] rfl (M_X10_isThing hZ l1) cnX10_121 cwX10_isThing ciX10_isThing (hZ.at (i := 65) rfl) rfl rfl rfl rfl (Nat.le_of_ble_eq_true rfl) ⟨Nat.le_of_ble_eq_true rfl, Nat.le_of_ble_eq_true rfl⟩ h (fun r1 s2 h => ?_)
  refine g_if_eq C 3 31 rfl rfl h (fun h => ?_) (fun h => ?_)
  · refine g_ldc C 18 rfl kcX10_115 ?_
    exact g_ireturn C 19 rfl h
  · refine g_iload_n C 4 2 rfl rfl ?_
    refine g_iconst (v := 0) C 5 rfl rfl ?_
    refine g_iconst (v := 5) C 6 rfl rfl ?_
    refine g_callSi C 7 [.int l2, .int 0, .int 5] [] rfl (M_X10_in hZ l2 0 5) cnX10_84 cwX10_in csX10_in rfl rfl rfl (Nat.le_of_ble_eq_true rfl) ⟨Nat.le_of_ble_eq_true rfl, Nat.le_of_ble_eq_true rfl⟩ h (fun r3 s4 h => ?_)
    refine g_if_eq C 8 31 rfl rfl h (fun h => ?_) (fun h => ?_)
    · refine g_ldc C 18 rfl kcX10_115 ?_
      exact g_ireturn C 19 rfl h
    · refine g_aload_n C 9 0 rfl rfl ?_
      refine g_bipush (v := 82) C 10 rfl rfl ?_
      refine g_iconst (v := 4) C 11 rfl rfl ?_
      refine g_iload_n C 12 1 rfl rfl ?_
      refine g_imul C 13 rfl ?_
      refine g_iadd C 14 rfl ?_
      refine g_iload_n C 15 2 rfl rfl ?_
      refine g_callVi C 16 [.int (82 + (4 * l1)), .int l2] [] rfl (M_X10_swaps hZ (82 + (4 * l1)) l2) cnX10_140 cwX10_swaps ciX10_swaps (hZ.at (i := 65) rfl) rfl rfl rfl rfl (Nat.le_of_ble_eq_true rfl) ⟨Nat.le_of_ble_eq_true rfl, Nat.le_of_ble_eq_true rfl⟩ h (fun r5 s6 h => ?_)
      refine g_goto C 17 33 rfl rfl ?_
      exact g_ireturn C 19 rfl h
def T_X10_set : List (Nat × Instr × Nat) := [(0, .aload_n 0, 1), (1, .iload_n 1, 1), (2, .invokevirtual 121, 3), (5, .ifCond .eq 27, 3), (8, .iload_n 2, 1), (9, .iload_n 3, 1), (10, .invokestatic 111, 3), (13, .ifCond .eq 19, 3), (16, .aload_n 0, 1), (17, .bipush 82, 2), (19, .iconst 4, 1), (20, .iload_n 1, 1), (21, .imul, 1), (22, .iadd, 1), (23, .iload_n 2, 1), (24, .iadd, 1), (25, .iload_n 3, 1), (26, .invokevirtual 140, 3), (29, .goto 5, 3), (32, .ldc 115, 2), (34, .ireturn, 1)]
theorem T_X10_set_ok : gTb cX10_set T_X10_set = true := by decide +kernel
def F_X10_set (Z : List gH) (l1 : Int32) (l2 : Int32) (l3 : Int32) (σ : gS) : Option (Int32 × gS) := mCall (F_X10_isThing Z l1 σ) (fun r1 s2 => if r1 = 0 then some ((-1000000001), s2) else mCall (F_X10_isOf Z l2 l3 s2) (fun r3 s4 => if r3 = 0 then some ((-1000000001), s4) else mCall (F_X10_swaps Z ((82 + (4 * l1)) + l2) l3 s4) (fun r5 s6 => some (r5, s6))))
set_option maxRecDepth 20000 in
set_option maxHeartbeats 4000000 in
theorem M_X10_set {Z : List gH} (hZ : Lay Z) (l1 : Int32) (l2 : Int32) (l3 : Int32) : gMet yX10_set cX10_set 4 (some .int) 4 Z (fun ad => [.ref (ad 65), .int l1, .int l2, .int l3]) (F_X10_set Z l1 l2 l3) := by
  refine gMet_intro T_X10_set T_X10_set_ok rfl (fun _ => Nat.le_of_ble_eq_true rfl) (fun g ad σ z C h => ?_)
  show g 0 [(0, .ref (ad 65)), (1, .int l1), (2, .int l2), (3, .int l3)] [] σ
  rw [F_X10_set] at h
  refine g_aload_n C 0 0 rfl rfl ?_
  refine g_iload_n C 1 1 rfl rfl ?_
  refine g_callVi C 2 [.int l1] [] rfl (M_X10_isThing hZ l1) cnX10_121 cwX10_isThing ciX10_isThing (hZ.at (i := 65) rfl) rfl rfl rfl rfl (Nat.le_of_ble_eq_true rfl) ⟨Nat.le_of_ble_eq_true rfl, Nat.le_of_ble_eq_true rfl⟩ h (fun r1 s2 h => ?_)
  refine g_if_eq C 3 32 rfl rfl h (fun h => ?_) (fun h => ?_)
  · refine g_ldc C 19 rfl kcX10_115 ?_
    exact g_ireturn C 20 rfl h
  · refine g_iload_n C 4 2 rfl rfl ?_
    refine g_iload_n C 5 3 rfl rfl ?_
    refine g_callSi C 6 [.int l2, .int l3] [] rfl (M_X10_isOf hZ l2 l3) cnX10_111 cwX10_isOf csX10_isOf rfl rfl rfl (Nat.le_of_ble_eq_true rfl) ⟨Nat.le_of_ble_eq_true rfl, Nat.le_of_ble_eq_true rfl⟩ h (fun r3 s4 h => ?_)
    refine g_if_eq C 7 32 rfl rfl h (fun h => ?_) (fun h => ?_)
    · refine g_ldc C 19 rfl kcX10_115 ?_
      exact g_ireturn C 20 rfl h
    · refine g_aload_n C 8 0 rfl rfl ?_
      refine g_bipush (v := 82) C 9 rfl rfl ?_
      refine g_iconst (v := 4) C 10 rfl rfl ?_
      refine g_iload_n C 11 1 rfl rfl ?_
      refine g_imul C 12 rfl ?_
      refine g_iadd C 13 rfl ?_
      refine g_iload_n C 14 2 rfl rfl ?_
      refine g_iadd C 15 rfl ?_
      refine g_iload_n C 16 3 rfl rfl ?_
      refine g_callVi C 17 [.int ((82 + (4 * l1)) + l2), .int l3] [] rfl (M_X10_swaps hZ ((82 + (4 * l1)) + l2) l3) cnX10_140 cwX10_swaps ciX10_swaps (hZ.at (i := 65) rfl) rfl rfl rfl rfl (Nat.le_of_ble_eq_true rfl) ⟨Nat.le_of_ble_eq_true rfl, Nat.le_of_ble_eq_true rfl⟩ h (fun r5 s6 h => ?_)
      refine g_goto C 18 34 rfl rfl ?_
      exact g_ireturn C 20 rfl h
def T_X10_draw : List (Nat × Instr × Nat) := [(0, .aload_n 0, 1), (1, .getfield 9, 3), (4, .iconst 0, 1), (5, .aload_n 0, 1), (6, .getfield 9, 3), (9, .iconst 0, 1), (10, .iaload, 1), (11, .ldc 143, 2), (13, .imul, 1), (14, .sipush 12345, 3), (17, .iadd, 1), (18, .iastore, 1), (19, .aload_n 0, 1), (20, .getfield 9, 3), (23, .iconst 0, 1), (24, .iaload, 1), (25, .bipush 8, 2), (27, .iushr, 1), (28, .ireturn, 1)]
theorem T_X10_draw_ok : gTb cX10_draw T_X10_draw = true := by decide +kernel
def F_X10_draw (Z : List gH) (σ : gS) : Option (Int32 × gS) := mLet (gu σ 66 0 (((σ 66 0) * 1103515245) + 12345)) (fun s1 => some ((mUsr (s1 66 0) 8), s1))
set_option maxRecDepth 20000 in
set_option maxHeartbeats 4000000 in
theorem M_X10_draw {Z : List gH} (hZ : Lay Z) : gMet yX10_draw cX10_draw 1 (some .int) 1 Z (fun ad => [.ref (ad 65)]) (F_X10_draw Z) := by
  refine gMet_intro T_X10_draw T_X10_draw_ok rfl (fun _ => Nat.le_of_ble_eq_true rfl) (fun g ad σ z C h => ?_)
  show g 0 [(0, .ref (ad 65))] [] σ
  rw [F_X10_draw] at h
  refine g_aload_n C 0 0 rfl rfl ?_
  refine g_getr (b := 66) C 1 rfl flX10_9 (hZ.at (i := 65) rfl) rfl ?_
  refine g_iconst (v := 0) C 2 rfl rfl ?_
  refine g_aload_n C 3 0 rfl rfl ?_
  refine g_getr (b := 66) C 4 rfl flX10_9 (hZ.at (i := 65) rfl) rfl ?_
  refine g_iconst (v := 0) C 5 rfl rfl ?_
  refine g_ialdK C 6 0 rfl (hZ.at (i := 66) rfl) rfl (vp_k rfl) ?_
  refine g_ldc C 7 rfl kcX10_143 ?_
  refine g_imul C 8 rfl ?_
  refine g_sipush (v := 12345) C 9 rfl rfl ?_
  refine g_iadd C 10 rfl ?_
  refine g_iastK C 11 0 rfl (hZ.at (i := 66) rfl) rfl (vp_k rfl) h (fun s1 h => ?_)
  refine g_aload_n C 12 0 rfl rfl ?_
  refine g_getr (b := 66) C 13 rfl flX10_9 (hZ.at (i := 65) rfl) rfl ?_
  refine g_iconst (v := 0) C 14 rfl rfl ?_
  refine g_ialdK C 15 0 rfl (hZ.at (i := 66) rfl) rfl (vp_k rfl) ?_
  refine g_bipush (v := 8) C 16 rfl rfl ?_
  refine g_iushr C 17 rfl ?_
  exact g_ireturn C 18 rfl h
def T_X10_deal : List (Nat × Instr × Nat) := [(0, .iload_n 1, 1), (1, .iconst 1, 1), (2, .bipush 12, 2), (4, .invokestatic 84, 3), (7, .ifCond .ne 6, 3), (10, .ldc 115, 2), (12, .ireturn, 1), (13, .iconst 0, 1), (14, .istore_n 2, 1), (15, .iload_n 2, 1), (16, .iload_n 1, 1), (17, .if_icmp .ge 70, 3), (20, .aload_n 0, 1), (21, .getfield 9, 3), (24, .iconst 1, 1), (25, .iaload, 1), (26, .bipush 12, 2), (28, .if_icmp .ge 59, 3), (31, .aload_n 0, 1), (32, .invokevirtual 144, 3), (35, .bipush 6, 2), (37, .irem, 1), (38, .istore_n 3, 1), (39, .aload_n 0, 1), (40, .invokevirtual 144, 3), (43, .bipush 8, 2), (45, .irem, 1), (46, .istore 4, 2), (48, .aload_n 0, 1), (49, .invokevirtual 144, 3), (52, .bipush 60, 2), (54, .irem, 1), (55, .istore 5, 2), (57, .aload_n 0, 1), (58, .iload_n 3, 1), (59, .iload 4, 2), (61, .iload 5, 2), (63, .aload_n 0, 1), (64, .invokevirtual 144, 3), (67, .iconst 4, 1), (68, .irem, 1), (69, .ifCond .ne 7, 3), (72, .iconst 1, 1), (73, .goto 4, 3), (76, .iconst 0, 1), (77, .invokevirtual 117, 3), (80, .pop, 1), (81, .iinc 2 1, 3), (84, .goto (-69), 3), (87, .iload_n 2, 1), (88, .ireturn, 1)]
theorem T_X10_deal_ok : gTb cX10_deal T_X10_deal = true := by decide +kernel
def F_X10_deal_L15 (Z : List gH) (l1 : Int32) : Nat → Int32 → gS → Option (Int32 × gS)
  | 0, _, _ => none
  | n + 1, l2, σ => if l1 ≤ l2 then some (l2, σ) else if 12 ≤ (σ 66 1) then some (l2, σ) else mCall (F_X10_draw Z σ) (fun r1 s2 => mLet ((mRem r1 6)) (fun v3 => mCall (F_X10_draw Z s2) (fun r4 s5 => mLet ((mRem r4 8)) (fun v6 => mCall (F_X10_draw Z s5) (fun r7 s8 => mLet ((mRem r7 60)) (fun v9 => mCall (F_X10_draw Z s8) (fun r10 s11 => if (mRem r10 4) = 0 then mCall (F_X10_comes Z v3 v6 v9 1 s11) (fun r14 s15 => F_X10_deal_L15 Z l1 n (l2 + 1) s15) else mCall (F_X10_comes Z v3 v6 v9 0 s11) (fun r12 s13 => F_X10_deal_L15 Z l1 n (l2 + 1) s13))))))))
def F_X10_deal (Z : List gH) (l1 : Int32) (σ : gS) : Option (Int32 × gS) := mCall (F_X10_in Z l1 1 12 σ) (fun r1 s2 => if r1 = 0 then some ((-1000000001), s2) else F_X10_deal_L15 Z l1 mFuel 0 s2)
set_option maxRecDepth 20000 in
set_option maxHeartbeats 4000000 in
theorem C_F_X10_deal_L15 {g : Nat → List (Nat × Value) → List Value → gS → Prop} {Z : List gH} {ad : Nat → Nat} {z : Int32 × gS}  (C : gOk g T_X10_deal RX10 6 (some .int) 3 Z ad z) (hZ : Lay Z) (l1 : Int32) : ∀ (n : Nat) (l2 : Int32) (σ : gS), F_X10_deal_L15 Z l1 n l2 σ = some z → g 15 [(0, .ref (ad 65)), (1, .int l1), (2, .int l2)] [] σ := by
  intro n
  induction n with
  | zero => intro l2 σ h; cases h
  | succ n ih =>
    intro l2 σ h
    rw [F_X10_deal_L15] at h
    refine g_iload_n C 9 2 rfl rfl ?_
    refine g_iload_n C 10 1 rfl rfl ?_
    refine g_icmp_ge C 11 87 rfl rfl h (fun h => ?_) (fun h => ?_)
    · refine g_iload_n C 49 2 rfl rfl ?_
      exact g_ireturn C 50 rfl h
    · refine g_aload_n C 12 0 rfl rfl ?_
      refine g_getr (b := 66) C 13 rfl flX10_9 (hZ.at (i := 65) rfl) rfl ?_
      refine g_iconst (v := 1) C 14 rfl rfl ?_
      refine g_ialdK C 15 1 rfl (hZ.at (i := 66) rfl) rfl (vp_k rfl) ?_
      refine g_bipush (v := 12) C 16 rfl rfl ?_
      refine g_icmp_ge C 17 87 rfl rfl h (fun h => ?_) (fun h => ?_)
      · refine g_iload_n C 49 2 rfl rfl ?_
        exact g_ireturn C 50 rfl h
      · refine g_aload_n C 18 0 rfl rfl ?_
        refine g_callVi C 19 [] [] rfl (M_X10_draw hZ) cnX10_144 cwX10_draw ciX10_draw (hZ.at (i := 65) rfl) rfl rfl rfl rfl (Nat.le_of_ble_eq_true rfl) ⟨Nat.le_of_ble_eq_true rfl, Nat.le_of_ble_eq_true rfl⟩ h (fun r1 s2 h => ?_)
        refine g_bipush (v := 6) C 20 rfl rfl ?_
        refine g_iremK C 21 rfl (by decide) ?_
        refine g_let h (fun v3 h => ?_)
        refine g_istore_n C 22 [(3, .int v3), (0, .ref (ad 65)), (1, .int l1), (2, .int l2)] rfl (by decide) rfl ?_
        refine g_aload_n C 23 1 rfl rfl ?_
        refine g_callVi C 24 [] [] rfl (M_X10_draw hZ) cnX10_144 cwX10_draw ciX10_draw (hZ.at (i := 65) rfl) rfl rfl rfl rfl (Nat.le_of_ble_eq_true rfl) ⟨Nat.le_of_ble_eq_true rfl, Nat.le_of_ble_eq_true rfl⟩ h (fun r4 s5 h => ?_)
        refine g_bipush (v := 8) C 25 rfl rfl ?_
        refine g_iremK C 26 rfl (by decide) ?_
        refine g_let h (fun v6 h => ?_)
        refine g_istore C 27 [(4, .int v6), (3, .int v3), (0, .ref (ad 65)), (1, .int l1), (2, .int l2)] rfl (by decide) rfl ?_
        refine g_aload_n C 28 2 rfl rfl ?_
        refine g_callVi C 29 [] [] rfl (M_X10_draw hZ) cnX10_144 cwX10_draw ciX10_draw (hZ.at (i := 65) rfl) rfl rfl rfl rfl (Nat.le_of_ble_eq_true rfl) ⟨Nat.le_of_ble_eq_true rfl, Nat.le_of_ble_eq_true rfl⟩ h (fun r7 s8 h => ?_)
        refine g_bipush (v := 60) C 30 rfl rfl ?_
        refine g_iremK C 31 rfl (by decide) ?_
        refine g_let h (fun v9 h => ?_)
        refine g_istore C 32 [(5, .int v9), (4, .int v6), (3, .int v3), (0, .ref (ad 65)), (1, .int l1), (2, .int l2)] rfl (by decide) rfl ?_
        refine g_aload_n C 33 3 rfl rfl ?_
        refine g_iload_n C 34 2 rfl rfl ?_
        refine g_iload C 35 1 rfl rfl ?_
        refine g_iload C 36 0 rfl rfl ?_
        refine g_aload_n C 37 3 rfl rfl ?_
        refine g_callVi C 38 [] [.int v9, .int v6, .int v3, .ref (ad 65)] rfl (M_X10_draw hZ) cnX10_144 cwX10_draw ciX10_draw (hZ.at (i := 65) rfl) rfl rfl rfl rfl (Nat.le_of_ble_eq_true rfl) ⟨Nat.le_of_ble_eq_true rfl, Nat.le_of_ble_eq_true rfl⟩ h (fun r10 s11 h => ?_)
        refine g_iconst (v := 4) C 39 rfl rfl ?_
        refine g_iremK C 40 rfl (by decide) ?_
        refine g_if_ne C 41 76 rfl rfl h (fun h => ?_) (fun h => ?_)
        · refine g_iconst (v := 0) C 44 rfl rfl ?_
          refine g_callVi C 45 [.int v3, .int v6, .int v9, .int 0] [] rfl (M_X10_comes hZ v3 v6 v9 0) cnX10_117 cwX10_comes ciX10_comes (hZ.at (i := 65) rfl) rfl rfl rfl rfl (Nat.le_of_ble_eq_true rfl) ⟨Nat.le_of_ble_eq_true rfl, Nat.le_of_ble_eq_true rfl⟩ h (fun r12 s13 h => ?_)
          refine g_pop C 46 rfl rfl ?_
          refine g_iinc C 47 5 (l2 + 1) [(2, .int (l2 + 1)), (5, .int v9), (4, .int v6), (3, .int v3), (0, .ref (ad 65)), (1, .int l1)] rfl rfl (by decide) rfl rfl ?_
          refine g_goto C 48 15 rfl rfl ?_
          refine g_sub C [4, 5, 0] [(0, .ref (ad 65)), (1, .int l1), (2, .int (l2 + 1))] rfl ?_
          exact ih _ _ h
        · refine g_iconst (v := 1) C 42 rfl rfl ?_
          refine g_goto C 43 77 rfl rfl ?_
          refine g_callVi C 45 [.int v3, .int v6, .int v9, .int 1] [] rfl (M_X10_comes hZ v3 v6 v9 1) cnX10_117 cwX10_comes ciX10_comes (hZ.at (i := 65) rfl) rfl rfl rfl rfl (Nat.le_of_ble_eq_true rfl) ⟨Nat.le_of_ble_eq_true rfl, Nat.le_of_ble_eq_true rfl⟩ h (fun r14 s15 h => ?_)
          refine g_pop C 46 rfl rfl ?_
          refine g_iinc C 47 5 (l2 + 1) [(2, .int (l2 + 1)), (5, .int v9), (4, .int v6), (3, .int v3), (0, .ref (ad 65)), (1, .int l1)] rfl rfl (by decide) rfl rfl ?_
          refine g_goto C 48 15 rfl rfl ?_
          refine g_sub C [4, 5, 0] [(0, .ref (ad 65)), (1, .int l1), (2, .int (l2 + 1))] rfl ?_
          exact ih _ _ h
set_option maxRecDepth 20000 in
set_option maxHeartbeats 4000000 in
theorem M_X10_deal {Z : List gH} (hZ : Lay Z) (l1 : Int32) : gMet yX10_deal cX10_deal 6 (some .int) 3 Z (fun ad => [.ref (ad 65), .int l1]) (F_X10_deal Z l1) := by
  refine gMet_intro T_X10_deal T_X10_deal_ok rfl (fun _ => Nat.le_of_ble_eq_true rfl) (fun g ad σ z C h => ?_)
  show g 0 [(0, .ref (ad 65)), (1, .int l1)] [] σ
  rw [F_X10_deal] at h
  refine g_iload_n C 0 1 rfl rfl ?_
  refine g_iconst (v := 1) C 1 rfl rfl ?_
  refine g_bipush (v := 12) C 2 rfl rfl ?_
  refine g_callSi C 3 [.int l1, .int 1, .int 12] [] rfl (M_X10_in hZ l1 1 12) cnX10_84 cwX10_in csX10_in rfl rfl rfl (Nat.le_of_ble_eq_true rfl) ⟨Nat.le_of_ble_eq_true rfl, Nat.le_of_ble_eq_true rfl⟩ h (fun r1 s2 h => ?_)
  refine g_if_ne C 4 13 rfl rfl h (fun h => ?_) (fun h => ?_)
  · refine g_iconst (v := 0) C 7 rfl rfl ?_
    refine g_istore_n C 8 [(2, .int 0), (0, .ref (ad 65)), (1, .int l1)] rfl (by decide) rfl ?_
    refine g_sub C [1, 2, 0] [(0, .ref (ad 65)), (1, .int l1), (2, .int 0)] rfl ?_
    exact C_F_X10_deal_L15 C hZ _ _ _ _ h
  · refine g_ldc C 5 rfl kcX10_115 ?_
    exact g_ireturn C 6 rfl h
def T_X10_seed : List (Nat × Instr × Nat) := [(0, .aload_n 0, 1), (1, .iconst 0, 1), (2, .iload_n 1, 1), (3, .invokevirtual 140, 3), (6, .ireturn, 1)]
theorem T_X10_seed_ok : gTb cX10_seed T_X10_seed = true := by decide +kernel
def F_X10_seed (Z : List gH) (l1 : Int32) (σ : gS) : Option (Int32 × gS) := mCall (F_X10_swaps Z 0 l1 σ) (fun r1 s2 => some (r1, s2))
set_option maxRecDepth 20000 in
set_option maxHeartbeats 4000000 in
theorem M_X10_seed {Z : List gH} (hZ : Lay Z) (l1 : Int32) : gMet yX10_seed cX10_seed 2 (some .int) 2 Z (fun ad => [.ref (ad 65), .int l1]) (F_X10_seed Z l1) := by
  refine gMet_intro T_X10_seed T_X10_seed_ok rfl (fun _ => Nat.le_of_ble_eq_true rfl) (fun g ad σ z C h => ?_)
  show g 0 [(0, .ref (ad 65)), (1, .int l1)] [] σ
  rw [F_X10_seed] at h
  refine g_aload_n C 0 0 rfl rfl ?_
  refine g_iconst (v := 0) C 1 rfl rfl ?_
  refine g_iload_n C 2 1 rfl rfl ?_
  refine g_callVi C 3 [.int 0, .int l1] [] rfl (M_X10_swaps hZ 0 l1) cnX10_140 cwX10_swaps ciX10_swaps (hZ.at (i := 65) rfl) rfl rfl rfl rfl (Nat.le_of_ble_eq_true rfl) ⟨Nat.le_of_ble_eq_true rfl, Nat.le_of_ble_eq_true rfl⟩ h (fun r1 s2 h => ?_)
  exact g_ireturn C 4 rfl h
def T_X10_heat : List (Nat × Instr × Nat) := [(0, .iload_n 1, 1), (1, .invokestatic 103, 3), (4, .ifCond .eq 15, 3), (7, .aload_n 0, 1), (8, .getfield 9, 3), (11, .bipush 10, 2), (13, .iload_n 1, 1), (14, .iadd, 1), (15, .iaload, 1), (16, .goto 5, 3), (19, .ldc 115, 2), (21, .ireturn, 1)]
theorem T_X10_heat_ok : gTb cX10_heat T_X10_heat = true := by decide +kernel
def F_X10_heat (Z : List gH) (l1 : Int32) (σ : gS) : Option (Int32 × gS) := mCall (F_X10_isRoom Z l1 σ) (fun r1 s2 => if r1 = 0 then some ((-1000000001), s2) else mIn 1508 (10 + l1) (some ((s2 66 (nn (10 + l1))), s2)))
set_option maxRecDepth 20000 in
set_option maxHeartbeats 4000000 in
theorem M_X10_heat {Z : List gH} (hZ : Lay Z) (l1 : Int32) : gMet yX10_heat cX10_heat 2 (some .int) 3 Z (fun ad => [.ref (ad 65), .int l1]) (F_X10_heat Z l1) := by
  refine gMet_intro T_X10_heat T_X10_heat_ok rfl (fun _ => Nat.le_of_ble_eq_true rfl) (fun g ad σ z C h => ?_)
  show g 0 [(0, .ref (ad 65)), (1, .int l1)] [] σ
  rw [F_X10_heat] at h
  refine g_iload_n C 0 1 rfl rfl ?_
  refine g_callSi C 1 [.int l1] [] rfl (M_X10_isRoom hZ l1) cnX10_103 cwX10_isRoom csX10_isRoom rfl rfl rfl (Nat.le_of_ble_eq_true rfl) ⟨Nat.le_of_ble_eq_true rfl, Nat.le_of_ble_eq_true rfl⟩ h (fun r1 s2 h => ?_)
  refine g_if_eq C 2 19 rfl rfl h (fun h => ?_) (fun h => ?_)
  · refine g_ldc C 10 rfl kcX10_115 ?_
    exact g_ireturn C 11 rfl h
  · refine g_aload_n C 3 0 rfl rfl ?_
    refine g_getr (b := 66) C 4 rfl flX10_9 (hZ.at (i := 65) rfl) rfl ?_
    refine g_bipush (v := 10) C 5 rfl rfl ?_
    refine g_iload_n C 6 1 rfl rfl ?_
    refine g_iadd C 7 rfl ?_
    refine g_iald C 8 rfl (hZ.at (i := 66) rfl) h (fun h => ?_)
    refine g_goto C 9 21 rfl rfl ?_
    exact g_ireturn C 11 rfl h
def T_X10_heats : List (Nat × Instr × Nat) := [(0, .iload_n 1, 1), (1, .invokestatic 103, 3), (4, .ifCond .eq 25, 3), (7, .iload_n 2, 1), (8, .iconst 0, 1), (9, .bipush 99, 2), (11, .invokestatic 84, 3), (14, .ifCond .eq 15, 3), (17, .aload_n 0, 1), (18, .bipush 10, 2), (20, .iload_n 1, 1), (21, .iadd, 1), (22, .iload_n 2, 1), (23, .invokevirtual 140, 3), (26, .goto 5, 3), (29, .ldc 115, 2), (31, .ireturn, 1)]
theorem T_X10_heats_ok : gTb cX10_heats T_X10_heats = true := by decide +kernel
def F_X10_heats (Z : List gH) (l1 : Int32) (l2 : Int32) (σ : gS) : Option (Int32 × gS) := mCall (F_X10_isRoom Z l1 σ) (fun r1 s2 => if r1 = 0 then some ((-1000000001), s2) else mCall (F_X10_in Z l2 0 99 s2) (fun r3 s4 => if r3 = 0 then some ((-1000000001), s4) else mCall (F_X10_swaps Z (10 + l1) l2 s4) (fun r5 s6 => some (r5, s6))))
set_option maxRecDepth 20000 in
set_option maxHeartbeats 4000000 in
theorem M_X10_heats {Z : List gH} (hZ : Lay Z) (l1 : Int32) (l2 : Int32) : gMet yX10_heats cX10_heats 3 (some .int) 3 Z (fun ad => [.ref (ad 65), .int l1, .int l2]) (F_X10_heats Z l1 l2) := by
  refine gMet_intro T_X10_heats T_X10_heats_ok rfl (fun _ => Nat.le_of_ble_eq_true rfl) (fun g ad σ z C h => ?_)
  show g 0 [(0, .ref (ad 65)), (1, .int l1), (2, .int l2)] [] σ
  rw [F_X10_heats] at h
  refine g_iload_n C 0 1 rfl rfl ?_
  refine g_callSi C 1 [.int l1] [] rfl (M_X10_isRoom hZ l1) cnX10_103 cwX10_isRoom csX10_isRoom rfl rfl rfl (Nat.le_of_ble_eq_true rfl) ⟨Nat.le_of_ble_eq_true rfl, Nat.le_of_ble_eq_true rfl⟩ h (fun r1 s2 h => ?_)
  refine g_if_eq C 2 29 rfl rfl h (fun h => ?_) (fun h => ?_)
  · refine g_ldc C 15 rfl kcX10_115 ?_
    exact g_ireturn C 16 rfl h
  · refine g_iload_n C 3 2 rfl rfl ?_
    refine g_iconst (v := 0) C 4 rfl rfl ?_
    refine g_bipush (v := 99) C 5 rfl rfl ?_
    refine g_callSi C 6 [.int l2, .int 0, .int 99] [] rfl (M_X10_in hZ l2 0 99) cnX10_84 cwX10_in csX10_in rfl rfl rfl (Nat.le_of_ble_eq_true rfl) ⟨Nat.le_of_ble_eq_true rfl, Nat.le_of_ble_eq_true rfl⟩ h (fun r3 s4 h => ?_)
    refine g_if_eq C 7 29 rfl rfl h (fun h => ?_) (fun h => ?_)
    · refine g_ldc C 15 rfl kcX10_115 ?_
      exact g_ireturn C 16 rfl h
    · refine g_aload_n C 8 0 rfl rfl ?_
      refine g_bipush (v := 10) C 9 rfl rfl ?_
      refine g_iload_n C 10 1 rfl rfl ?_
      refine g_iadd C 11 rfl ?_
      refine g_iload_n C 12 2 rfl rfl ?_
      refine g_callVi C 13 [.int (10 + l1), .int l2] [] rfl (M_X10_swaps hZ (10 + l1) l2) cnX10_140 cwX10_swaps ciX10_swaps (hZ.at (i := 65) rfl) rfl rfl rfl rfl (Nat.le_of_ble_eq_true rfl) ⟨Nat.le_of_ble_eq_true rfl, Nat.le_of_ble_eq_true rfl⟩ h (fun r5 s6 h => ?_)
      refine g_goto C 14 31 rfl rfl ?_
      exact g_ireturn C 16 rfl h
def T_X10_leaves : List (Nat × Instr × Nat) := [(0, .aload_n 0, 1), (1, .getfield 9, 3), (4, .bipush 18, 2), (6, .bipush 8, 2), (8, .iload_n 2, 1), (9, .imul, 1), (10, .iadd, 1), (11, .iload_n 1, 1), (12, .iadd, 1), (13, .iload_n 3, 1), (14, .iastore, 1), (15, .aload_n 0, 1), (16, .bipush 18, 2), (18, .bipush 8, 2), (20, .iload_n 1, 1), (21, .imul, 1), (22, .iadd, 1), (23, .iload_n 2, 1), (24, .iadd, 1), (25, .iload_n 3, 1), (26, .invokevirtual 140, 3), (29, .ireturn, 1)]
theorem T_X10_leaves_ok : gTb cX10_leaves T_X10_leaves = true := by decide +kernel
def F_X10_leaves (Z : List gH) (l1 : Int32) (l2 : Int32) (l3 : Int32) (σ : gS) : Option (Int32 × gS) := mIn 1508 ((18 + (8 * l2)) + l1) (mLet (gu σ 66 (nn ((18 + (8 * l2)) + l1)) l3) (fun s1 => mCall (F_X10_swaps Z ((18 + (8 * l1)) + l2) l3 s1) (fun r2 s3 => some (r2, s3))))
set_option maxRecDepth 20000 in
set_option maxHeartbeats 4000000 in
theorem M_X10_leaves {Z : List gH} (hZ : Lay Z) (l1 : Int32) (l2 : Int32) (l3 : Int32) : gMet yX10_leaves cX10_leaves 4 (some .int) 2 Z (fun ad => [.ref (ad 65), .int l1, .int l2, .int l3]) (F_X10_leaves Z l1 l2 l3) := by
  refine gMet_intro T_X10_leaves T_X10_leaves_ok rfl (fun _ => Nat.le_of_ble_eq_true rfl) (fun g ad σ z C h => ?_)
  show g 0 [(0, .ref (ad 65)), (1, .int l1), (2, .int l2), (3, .int l3)] [] σ
  rw [F_X10_leaves] at h
  refine g_aload_n C 0 0 rfl rfl ?_
  refine g_getr (b := 66) C 1 rfl flX10_9 (hZ.at (i := 65) rfl) rfl ?_
  refine g_bipush (v := 18) C 2 rfl rfl ?_
  refine g_bipush (v := 8) C 3 rfl rfl ?_
  refine g_iload_n C 4 2 rfl rfl ?_
  refine g_imul C 5 rfl ?_
  refine g_iadd C 6 rfl ?_
  refine g_iload_n C 7 1 rfl rfl ?_
  refine g_iadd C 8 rfl ?_
  refine g_iload_n C 9 3 rfl rfl ?_
  refine g_iast C 10 rfl (hZ.at (i := 66) rfl) h (fun s1 h => ?_)
  refine g_aload_n C 11 0 rfl rfl ?_
  refine g_bipush (v := 18) C 12 rfl rfl ?_
  refine g_bipush (v := 8) C 13 rfl rfl ?_
  refine g_iload_n C 14 1 rfl rfl ?_
  refine g_imul C 15 rfl ?_
  refine g_iadd C 16 rfl ?_
  refine g_iload_n C 17 2 rfl rfl ?_
  refine g_iadd C 18 rfl ?_
  refine g_iload_n C 19 3 rfl rfl ?_
  refine g_callVi C 20 [.int ((18 + (8 * l1)) + l2), .int l3] [] rfl (M_X10_swaps hZ ((18 + (8 * l1)) + l2) l3) cnX10_140 cwX10_swaps ciX10_swaps (hZ.at (i := 65) rfl) rfl rfl rfl rfl (Nat.le_of_ble_eq_true rfl) ⟨Nat.le_of_ble_eq_true rfl, Nat.le_of_ble_eq_true rfl⟩ h (fun r2 s3 h => ?_)
  exact g_ireturn C 21 rfl h
def T_X10_areTwo : List (Nat × Instr × Nat) := [(0, .iload_n 0, 1), (1, .invokestatic 103, 3), (4, .ifCond .eq 19, 3), (7, .iload_n 1, 1), (8, .invokestatic 103, 3), (11, .ifCond .eq 12, 3), (14, .iload_n 0, 1), (15, .iload_n 1, 1), (16, .if_icmp .eq 7, 3), (19, .iconst 1, 1), (20, .goto 4, 3), (23, .iconst 0, 1), (24, .ireturn, 1)]
theorem T_X10_areTwo_ok : gTb cX10_areTwo T_X10_areTwo = true := by decide +kernel
def F_X10_areTwo (Z : List gH) (l0 : Int32) (l1 : Int32) (σ : gS) : Option (Int32 × gS) := mCall (F_X10_isRoom Z l0 σ) (fun r1 s2 => if r1 = 0 then mZ 0 s2 else mCall (F_X10_isRoom Z l1 s2) (fun r3 s4 => if r3 = 0 then mZ 0 s4 else if l0 = l1 then mZ 0 s4 else mZ 1 s4))
set_option maxRecDepth 20000 in
set_option maxHeartbeats 4000000 in
theorem M_X10_areTwo {Z : List gH} (hZ : Lay Z) (l0 : Int32) (l1 : Int32) : gMet yX10_areTwo cX10_areTwo 2 (some .boolean) 3 Z (fun ad => [.int l0, .int l1]) (F_X10_areTwo Z l0 l1) := by
  refine gMet_intro T_X10_areTwo T_X10_areTwo_ok rfl (fun _ => Nat.le_of_ble_eq_true rfl) (fun g ad σ z C h => ?_)
  show g 0 [(0, .int l0), (1, .int l1)] [] σ
  rw [F_X10_areTwo] at h
  refine g_iload_n C 0 0 rfl rfl ?_
  refine g_callSi C 1 [.int l0] [] rfl (M_X10_isRoom hZ l0) cnX10_103 cwX10_isRoom csX10_isRoom rfl rfl rfl (Nat.le_of_ble_eq_true rfl) ⟨Nat.le_of_ble_eq_true rfl, Nat.le_of_ble_eq_true rfl⟩ h (fun r1 s2 h => ?_)
  refine g_if_eq C 2 23 rfl rfl h (fun h => ?_) (fun h => ?_)
  · refine g_iconst (v := 0) C 11 rfl rfl ?_
    exact g_zreturn C 12 rfl h
  · refine g_iload_n C 3 1 rfl rfl ?_
    refine g_callSi C 4 [.int l1] [] rfl (M_X10_isRoom hZ l1) cnX10_103 cwX10_isRoom csX10_isRoom rfl rfl rfl (Nat.le_of_ble_eq_true rfl) ⟨Nat.le_of_ble_eq_true rfl, Nat.le_of_ble_eq_true rfl⟩ h (fun r3 s4 h => ?_)
    refine g_if_eq C 5 23 rfl rfl h (fun h => ?_) (fun h => ?_)
    · refine g_iconst (v := 0) C 11 rfl rfl ?_
      exact g_zreturn C 12 rfl h
    · refine g_iload_n C 6 0 rfl rfl ?_
      refine g_iload_n C 7 1 rfl rfl ?_
      refine g_icmp_eq C 8 23 rfl rfl h (fun h => ?_) (fun h => ?_)
      · refine g_iconst (v := 0) C 11 rfl rfl ?_
        exact g_zreturn C 12 rfl h
      · refine g_iconst (v := 1) C 9 rfl rfl ?_
        refine g_goto C 10 24 rfl rfl ?_
        exact g_zreturn C 12 rfl h
def T_X10_door : List (Nat × Instr × Nat) := [(0, .iload_n 1, 1), (1, .iload_n 2, 1), (2, .invokestatic 148, 3), (5, .ifCond .eq 22, 3), (8, .iload_n 3, 1), (9, .iconst 0, 1), (10, .iconst 2, 1), (11, .invokestatic 84, 3), (14, .ifCond .eq 13, 3), (17, .aload_n 0, 1), (18, .iload_n 1, 1), (19, .iload_n 2, 1), (20, .iload_n 3, 1), (21, .invokevirtual 151, 3), (24, .goto 5, 3), (27, .ldc 115, 2), (29, .ireturn, 1)]
theorem T_X10_door_ok : gTb cX10_door T_X10_door = true := by decide +kernel
def F_X10_door (Z : List gH) (l1 : Int32) (l2 : Int32) (l3 : Int32) (σ : gS) : Option (Int32 × gS) := mCall (F_X10_areTwo Z l1 l2 σ) (fun r1 s2 => if r1 = 0 then some ((-1000000001), s2) else mCall (F_X10_in Z l3 0 2 s2) (fun r3 s4 => if r3 = 0 then some ((-1000000001), s4) else mCall (F_X10_leaves Z l1 l2 l3 s4) (fun r5 s6 => some (r5, s6))))
set_option maxRecDepth 20000 in
set_option maxHeartbeats 4000000 in
theorem M_X10_door {Z : List gH} (hZ : Lay Z) (l1 : Int32) (l2 : Int32) (l3 : Int32) : gMet yX10_door cX10_door 4 (some .int) 4 Z (fun ad => [.ref (ad 65), .int l1, .int l2, .int l3]) (F_X10_door Z l1 l2 l3) := by
  refine gMet_intro T_X10_door T_X10_door_ok rfl (fun _ => Nat.le_of_ble_eq_true rfl) (fun g ad σ z C h => ?_)
  show g 0 [(0, .ref (ad 65)), (1, .int l1), (2, .int l2), (3, .int l3)] [] σ
  rw [F_X10_door] at h
  refine g_iload_n C 0 1 rfl rfl ?_
  refine g_iload_n C 1 2 rfl rfl ?_
  refine g_callSi C 2 [.int l1, .int l2] [] rfl (M_X10_areTwo hZ l1 l2) cnX10_148 cwX10_areTwo csX10_areTwo rfl rfl rfl (Nat.le_of_ble_eq_true rfl) ⟨Nat.le_of_ble_eq_true rfl, Nat.le_of_ble_eq_true rfl⟩ h (fun r1 s2 h => ?_)
  refine g_if_eq C 3 27 rfl rfl h (fun h => ?_) (fun h => ?_)
  · refine g_ldc C 15 rfl kcX10_115 ?_
    exact g_ireturn C 16 rfl h
  · refine g_iload_n C 4 3 rfl rfl ?_
    refine g_iconst (v := 0) C 5 rfl rfl ?_
    refine g_iconst (v := 2) C 6 rfl rfl ?_
    refine g_callSi C 7 [.int l3, .int 0, .int 2] [] rfl (M_X10_in hZ l3 0 2) cnX10_84 cwX10_in csX10_in rfl rfl rfl (Nat.le_of_ble_eq_true rfl) ⟨Nat.le_of_ble_eq_true rfl, Nat.le_of_ble_eq_true rfl⟩ h (fun r3 s4 h => ?_)
    refine g_if_eq C 8 27 rfl rfl h (fun h => ?_) (fun h => ?_)
    · refine g_ldc C 15 rfl kcX10_115 ?_
      exact g_ireturn C 16 rfl h
    · refine g_aload_n C 9 0 rfl rfl ?_
      refine g_iload_n C 10 1 rfl rfl ?_
      refine g_iload_n C 11 2 rfl rfl ?_
      refine g_iload_n C 12 3 rfl rfl ?_
      refine g_callVi C 13 [.int l1, .int l2, .int l3] [] rfl (M_X10_leaves hZ l1 l2 l3) cnX10_151 cwX10_leaves ciX10_leaves (hZ.at (i := 65) rfl) rfl rfl rfl rfl (Nat.le_of_ble_eq_true rfl) ⟨Nat.le_of_ble_eq_true rfl, Nat.le_of_ble_eq_true rfl⟩ h (fun r5 s6 h => ?_)
      refine g_goto C 14 29 rfl rfl ?_
      exact g_ireturn C 16 rfl h
def T_X10_doorTold : List (Nat × Instr × Nat) := [(0, .iload_n 1, 1), (1, .iload_n 2, 1), (2, .invokestatic 148, 3), (5, .ifCond .eq 20, 3), (8, .aload_n 0, 1), (9, .getfield 9, 3), (12, .bipush 18, 2), (14, .bipush 8, 2), (16, .iload_n 1, 1), (17, .imul, 1), (18, .iadd, 1), (19, .iload_n 2, 1), (20, .iadd, 1), (21, .iaload, 1), (22, .goto 5, 3), (25, .ldc 115, 2), (27, .ireturn, 1)]
theorem T_X10_doorTold_ok : gTb cX10_doorTold T_X10_doorTold = true := by decide +kernel
def F_X10_doorTold (Z : List gH) (l1 : Int32) (l2 : Int32) (σ : gS) : Option (Int32 × gS) := mCall (F_X10_areTwo Z l1 l2 σ) (fun r1 s2 => if r1 = 0 then some ((-1000000001), s2) else mIn 1508 ((18 + (8 * l1)) + l2) (some ((s2 66 (nn ((18 + (8 * l1)) + l2))), s2)))
set_option maxRecDepth 20000 in
set_option maxHeartbeats 4000000 in
theorem M_X10_doorTold {Z : List gH} (hZ : Lay Z) (l1 : Int32) (l2 : Int32) : gMet yX10_doorTold cX10_doorTold 3 (some .int) 4 Z (fun ad => [.ref (ad 65), .int l1, .int l2]) (F_X10_doorTold Z l1 l2) := by
  refine gMet_intro T_X10_doorTold T_X10_doorTold_ok rfl (fun _ => Nat.le_of_ble_eq_true rfl) (fun g ad σ z C h => ?_)
  show g 0 [(0, .ref (ad 65)), (1, .int l1), (2, .int l2)] [] σ
  rw [F_X10_doorTold] at h
  refine g_iload_n C 0 1 rfl rfl ?_
  refine g_iload_n C 1 2 rfl rfl ?_
  refine g_callSi C 2 [.int l1, .int l2] [] rfl (M_X10_areTwo hZ l1 l2) cnX10_148 cwX10_areTwo csX10_areTwo rfl rfl rfl (Nat.le_of_ble_eq_true rfl) ⟨Nat.le_of_ble_eq_true rfl, Nat.le_of_ble_eq_true rfl⟩ h (fun r1 s2 h => ?_)
  refine g_if_eq C 3 25 rfl rfl h (fun h => ?_) (fun h => ?_)
  · refine g_ldc C 15 rfl kcX10_115 ?_
    exact g_ireturn C 16 rfl h
  · refine g_aload_n C 4 0 rfl rfl ?_
    refine g_getr (b := 66) C 5 rfl flX10_9 (hZ.at (i := 65) rfl) rfl ?_
    refine g_bipush (v := 18) C 6 rfl rfl ?_
    refine g_bipush (v := 8) C 7 rfl rfl ?_
    refine g_iload_n C 8 1 rfl rfl ?_
    refine g_imul C 9 rfl ?_
    refine g_iadd C 10 rfl ?_
    refine g_iload_n C 11 2 rfl rfl ?_
    refine g_iadd C 12 rfl ?_
    refine g_iald C 13 rfl (hZ.at (i := 66) rfl) h (fun h => ?_)
    refine g_goto C 14 27 rfl rfl ?_
    exact g_ireturn C 16 rfl h
def T_X10_rule : List (Nat × Instr × Nat) := [(0, .iload_n 1, 1), (1, .iconst 0, 1), (2, .iconst 1, 1), (3, .invokestatic 84, 3), (6, .ifCond .eq 33, 3), (9, .iload_n 2, 1), (10, .iconst 0, 1), (11, .iload_n 1, 1), (12, .ifCond .ne 8, 3), (15, .bipush 100, 2), (17, .goto 5, 3), (20, .bipush 9, 2), (22, .invokestatic 84, 3), (25, .ifCond .eq 14, 3), (28, .aload_n 0, 1), (29, .iconst 3, 1), (30, .iload_n 1, 1), (31, .iadd, 1), (32, .iload_n 2, 1), (33, .invokevirtual 140, 3), (36, .goto 5, 3), (39, .ldc 115, 2), (41, .ireturn, 1)]
theorem T_X10_rule_ok : gTb cX10_rule T_X10_rule = true := by decide +kernel
def F_X10_rule (Z : List gH) (l1 : Int32) (l2 : Int32) (σ : gS) : Option (Int32 × gS) := mCall (F_X10_in Z l1 0 1 σ) (fun r1 s2 => if r1 = 0 then some ((-1000000001), s2) else if l1 = 0 then mCall (F_X10_in Z l2 0 100 s2) (fun r7 s8 => if r7 = 0 then some ((-1000000001), s8) else mCall (F_X10_swaps Z (3 + l1) l2 s8) (fun r9 s10 => some (r9, s10))) else mCall (F_X10_in Z l2 0 9 s2) (fun r3 s4 => if r3 = 0 then some ((-1000000001), s4) else mCall (F_X10_swaps Z (3 + l1) l2 s4) (fun r5 s6 => some (r5, s6))))
set_option maxRecDepth 20000 in
set_option maxHeartbeats 4000000 in
theorem M_X10_rule {Z : List gH} (hZ : Lay Z) (l1 : Int32) (l2 : Int32) : gMet yX10_rule cX10_rule 3 (some .int) 2 Z (fun ad => [.ref (ad 65), .int l1, .int l2]) (F_X10_rule Z l1 l2) := by
  refine gMet_intro T_X10_rule T_X10_rule_ok rfl (fun _ => Nat.le_of_ble_eq_true rfl) (fun g ad σ z C h => ?_)
  show g 0 [(0, .ref (ad 65)), (1, .int l1), (2, .int l2)] [] σ
  rw [F_X10_rule] at h
  refine g_iload_n C 0 1 rfl rfl ?_
  refine g_iconst (v := 0) C 1 rfl rfl ?_
  refine g_iconst (v := 1) C 2 rfl rfl ?_
  refine g_callSi C 3 [.int l1, .int 0, .int 1] [] rfl (M_X10_in hZ l1 0 1) cnX10_84 cwX10_in csX10_in rfl rfl rfl (Nat.le_of_ble_eq_true rfl) ⟨Nat.le_of_ble_eq_true rfl, Nat.le_of_ble_eq_true rfl⟩ h (fun r1 s2 h => ?_)
  refine g_if_eq C 4 39 rfl rfl h (fun h => ?_) (fun h => ?_)
  · refine g_ldc C 21 rfl kcX10_115 ?_
    exact g_ireturn C 22 rfl h
  · refine g_iload_n C 5 2 rfl rfl ?_
    refine g_iconst (v := 0) C 6 rfl rfl ?_
    refine g_iload_n C 7 1 rfl rfl ?_
    refine g_if_ne C 8 20 rfl rfl h (fun h => ?_) (fun h => ?_)
    · refine g_bipush (v := 9) C 11 rfl rfl ?_
      refine g_callSi C 12 [.int l2, .int 0, .int 9] [] rfl (M_X10_in hZ l2 0 9) cnX10_84 cwX10_in csX10_in rfl rfl rfl (Nat.le_of_ble_eq_true rfl) ⟨Nat.le_of_ble_eq_true rfl, Nat.le_of_ble_eq_true rfl⟩ h (fun r3 s4 h => ?_)
      refine g_if_eq C 13 39 rfl rfl h (fun h => ?_) (fun h => ?_)
      · refine g_ldc C 21 rfl kcX10_115 ?_
        exact g_ireturn C 22 rfl h
      · refine g_aload_n C 14 0 rfl rfl ?_
        refine g_iconst (v := 3) C 15 rfl rfl ?_
        refine g_iload_n C 16 1 rfl rfl ?_
        refine g_iadd C 17 rfl ?_
        refine g_iload_n C 18 2 rfl rfl ?_
        refine g_callVi C 19 [.int (3 + l1), .int l2] [] rfl (M_X10_swaps hZ (3 + l1) l2) cnX10_140 cwX10_swaps ciX10_swaps (hZ.at (i := 65) rfl) rfl rfl rfl rfl (Nat.le_of_ble_eq_true rfl) ⟨Nat.le_of_ble_eq_true rfl, Nat.le_of_ble_eq_true rfl⟩ h (fun r5 s6 h => ?_)
        refine g_goto C 20 41 rfl rfl ?_
        exact g_ireturn C 22 rfl h
    · refine g_bipush (v := 100) C 9 rfl rfl ?_
      refine g_goto C 10 22 rfl rfl ?_
      refine g_callSi C 12 [.int l2, .int 0, .int 100] [] rfl (M_X10_in hZ l2 0 100) cnX10_84 cwX10_in csX10_in rfl rfl rfl (Nat.le_of_ble_eq_true rfl) ⟨Nat.le_of_ble_eq_true rfl, Nat.le_of_ble_eq_true rfl⟩ h (fun r7 s8 h => ?_)
      refine g_if_eq C 13 39 rfl rfl h (fun h => ?_) (fun h => ?_)
      · refine g_ldc C 21 rfl kcX10_115 ?_
        exact g_ireturn C 22 rfl h
      · refine g_aload_n C 14 0 rfl rfl ?_
        refine g_iconst (v := 3) C 15 rfl rfl ?_
        refine g_iload_n C 16 1 rfl rfl ?_
        refine g_iadd C 17 rfl ?_
        refine g_iload_n C 18 2 rfl rfl ?_
        refine g_callVi C 19 [.int (3 + l1), .int l2] [] rfl (M_X10_swaps hZ (3 + l1) l2) cnX10_140 cwX10_swaps ciX10_swaps (hZ.at (i := 65) rfl) rfl rfl rfl rfl (Nat.le_of_ble_eq_true rfl) ⟨Nat.le_of_ble_eq_true rfl, Nat.le_of_ble_eq_true rfl⟩ h (fun r9 s10 h => ?_)
        refine g_goto C 20 41 rfl rfl ?_
        exact g_ireturn C 22 rfl h
def T_X10_visitor : List (Nat × Instr × Nat) := [(0, .iload_n 1, 1), (1, .iconst 0, 1), (2, .sipush 255, 3), (5, .invokestatic 84, 3), (8, .ifCond .ne 6, 3), (11, .ldc 115, 2), (13, .ireturn, 1), (14, .aload_n 0, 1), (15, .getfield 9, 3), (18, .iconst 5, 1), (19, .iaload, 1), (20, .bipush 6, 2), (22, .if_icmp .ne 6, 3), (25, .ldc 116, 2), (27, .ireturn, 1), (28, .aload_n 0, 1), (29, .getfield 9, 3), (32, .sipush 130, 3), (35, .aload_n 0, 1), (36, .getfield 9, 3), (39, .iconst 5, 1), (40, .iaload, 1), (41, .iadd, 1), (42, .iload_n 1, 1), (43, .iastore, 1), (44, .aload_n 0, 1), (45, .getfield 9, 3), (48, .iconst 5, 1), (49, .dup2, 1), (50, .iaload, 1), (51, .iconst 1, 1), (52, .iadd, 1), (53, .iastore, 1), (54, .aload_n 0, 1), (55, .getfield 9, 3), (58, .iconst 5, 1), (59, .iaload, 1), (60, .iconst 1, 1), (61, .isub, 1), (62, .ireturn, 1)]
theorem T_X10_visitor_ok : gTb cX10_visitor T_X10_visitor = true := by decide +kernel
def F_X10_visitor (Z : List gH) (l1 : Int32) (σ : gS) : Option (Int32 × gS) := mCall (F_X10_in Z l1 0 255 σ) (fun r1 s2 => if r1 = 0 then some ((-1000000001), s2) else if (s2 66 5) = 6 then some ((-1000000003), s2) else mIn 1508 (130 + (s2 66 5)) (mLet (gu s2 66 (nn (130 + (s2 66 5))) l1) (fun s3 => mLet (gu s3 66 5 ((s3 66 5) + 1)) (fun s4 => some (((s4 66 5) - 1), s4)))))
set_option maxRecDepth 20000 in
set_option maxHeartbeats 4000000 in
theorem M_X10_visitor {Z : List gH} (hZ : Lay Z) (l1 : Int32) : gMet yX10_visitor cX10_visitor 2 (some .int) 2 Z (fun ad => [.ref (ad 65), .int l1]) (F_X10_visitor Z l1) := by
  refine gMet_intro T_X10_visitor T_X10_visitor_ok rfl (fun _ => Nat.le_of_ble_eq_true rfl) (fun g ad σ z C h => ?_)
  show g 0 [(0, .ref (ad 65)), (1, .int l1)] [] σ
  rw [F_X10_visitor] at h
  refine g_iload_n C 0 1 rfl rfl ?_
  refine g_iconst (v := 0) C 1 rfl rfl ?_
  refine g_sipush (v := 255) C 2 rfl rfl ?_
  refine g_callSi C 3 [.int l1, .int 0, .int 255] [] rfl (M_X10_in hZ l1 0 255) cnX10_84 cwX10_in csX10_in rfl rfl rfl (Nat.le_of_ble_eq_true rfl) ⟨Nat.le_of_ble_eq_true rfl, Nat.le_of_ble_eq_true rfl⟩ h (fun r1 s2 h => ?_)
  refine g_if_ne C 4 14 rfl rfl h (fun h => ?_) (fun h => ?_)
  · refine g_aload_n C 7 0 rfl rfl ?_
    refine g_getr (b := 66) C 8 rfl flX10_9 (hZ.at (i := 65) rfl) rfl ?_
    refine g_iconst (v := 5) C 9 rfl rfl ?_
    refine g_ialdK C 10 5 rfl (hZ.at (i := 66) rfl) rfl (vp_k rfl) ?_
    refine g_bipush (v := 6) C 11 rfl rfl ?_
    refine g_icmp_ne C 12 28 rfl rfl h (fun h => ?_) (fun h => ?_)
    · refine g_aload_n C 15 0 rfl rfl ?_
      refine g_getr (b := 66) C 16 rfl flX10_9 (hZ.at (i := 65) rfl) rfl ?_
      refine g_sipush (v := 130) C 17 rfl rfl ?_
      refine g_aload_n C 18 0 rfl rfl ?_
      refine g_getr (b := 66) C 19 rfl flX10_9 (hZ.at (i := 65) rfl) rfl ?_
      refine g_iconst (v := 5) C 20 rfl rfl ?_
      refine g_ialdK C 21 5 rfl (hZ.at (i := 66) rfl) rfl (vp_k rfl) ?_
      refine g_iadd C 22 rfl ?_
      refine g_iload_n C 23 1 rfl rfl ?_
      refine g_iast C 24 rfl (hZ.at (i := 66) rfl) h (fun s3 h => ?_)
      refine g_aload_n C 25 0 rfl rfl ?_
      refine g_getr (b := 66) C 26 rfl flX10_9 (hZ.at (i := 65) rfl) rfl ?_
      refine g_iconst (v := 5) C 27 rfl rfl ?_
      refine g_dup2 C 28 rfl rfl rfl ?_
      refine g_ialdK C 29 5 rfl (hZ.at (i := 66) rfl) rfl (vp_k rfl) ?_
      refine g_iconst (v := 1) C 30 rfl rfl ?_
      refine g_iadd C 31 rfl ?_
      refine g_iastK C 32 5 rfl (hZ.at (i := 66) rfl) rfl (vp_k rfl) h (fun s4 h => ?_)
      refine g_aload_n C 33 0 rfl rfl ?_
      refine g_getr (b := 66) C 34 rfl flX10_9 (hZ.at (i := 65) rfl) rfl ?_
      refine g_iconst (v := 5) C 35 rfl rfl ?_
      refine g_ialdK C 36 5 rfl (hZ.at (i := 66) rfl) rfl (vp_k rfl) ?_
      refine g_iconst (v := 1) C 37 rfl rfl ?_
      refine g_isub C 38 rfl ?_
      exact g_ireturn C 39 rfl h
    · refine g_ldc C 13 rfl kcX10_116 ?_
      exact g_ireturn C 14 rfl h
  · refine g_ldc C 5 rfl kcX10_115 ?_
    exact g_ireturn C 6 rfl h
def T_X10_likes : List (Nat × Instr × Nat) := [(0, .iload_n 1, 1), (1, .iconst 0, 1), (2, .aload_n 0, 1), (3, .getfield 9, 3), (6, .iconst 5, 1), (7, .iaload, 1), (8, .iconst 1, 1), (9, .isub, 1), (10, .invokestatic 84, 3), (13, .ifCond .eq 27, 3), (16, .iload_n 2, 1), (17, .iconst 0, 1), (18, .sipush 255, 3), (21, .invokestatic 84, 3), (24, .ifCond .eq 16, 3), (27, .aload_n 0, 1), (28, .sipush 130, 3), (31, .iload_n 1, 1), (32, .iadd, 1), (33, .iload_n 2, 1), (34, .invokevirtual 140, 3), (37, .goto 5, 3), (40, .ldc 115, 2), (42, .ireturn, 1)]
theorem T_X10_likes_ok : gTb cX10_likes T_X10_likes = true := by decide +kernel
def F_X10_likes (Z : List gH) (l1 : Int32) (l2 : Int32) (σ : gS) : Option (Int32 × gS) := mCall (F_X10_in Z l1 0 ((σ 66 5) - 1) σ) (fun r1 s2 => if r1 = 0 then some ((-1000000001), s2) else mCall (F_X10_in Z l2 0 255 s2) (fun r3 s4 => if r3 = 0 then some ((-1000000001), s4) else mCall (F_X10_swaps Z (130 + l1) l2 s4) (fun r5 s6 => some (r5, s6))))
set_option maxRecDepth 20000 in
set_option maxHeartbeats 4000000 in
theorem M_X10_likes {Z : List gH} (hZ : Lay Z) (l1 : Int32) (l2 : Int32) : gMet yX10_likes cX10_likes 3 (some .int) 2 Z (fun ad => [.ref (ad 65), .int l1, .int l2]) (F_X10_likes Z l1 l2) := by
  refine gMet_intro T_X10_likes T_X10_likes_ok rfl (fun _ => Nat.le_of_ble_eq_true rfl) (fun g ad σ z C h => ?_)
  show g 0 [(0, .ref (ad 65)), (1, .int l1), (2, .int l2)] [] σ
  rw [F_X10_likes] at h
  refine g_iload_n C 0 1 rfl rfl ?_
  refine g_iconst (v := 0) C 1 rfl rfl ?_
  refine g_aload_n C 2 0 rfl rfl ?_
  refine g_getr (b := 66) C 3 rfl flX10_9 (hZ.at (i := 65) rfl) rfl ?_
  refine g_iconst (v := 5) C 4 rfl rfl ?_
  refine g_ialdK C 5 5 rfl (hZ.at (i := 66) rfl) rfl (vp_k rfl) ?_
  refine g_iconst (v := 1) C 6 rfl rfl ?_
  refine g_isub C 7 rfl ?_
  refine g_callSi C 8 [.int l1, .int 0, .int ((σ 66 5) - 1)] [] rfl (M_X10_in hZ l1 0 ((σ 66 5) - 1)) cnX10_84 cwX10_in csX10_in rfl rfl rfl (Nat.le_of_ble_eq_true rfl) ⟨Nat.le_of_ble_eq_true rfl, Nat.le_of_ble_eq_true rfl⟩ h (fun r1 s2 h => ?_)
  refine g_if_eq C 9 40 rfl rfl h (fun h => ?_) (fun h => ?_)
  · refine g_ldc C 22 rfl kcX10_115 ?_
    exact g_ireturn C 23 rfl h
  · refine g_iload_n C 10 2 rfl rfl ?_
    refine g_iconst (v := 0) C 11 rfl rfl ?_
    refine g_sipush (v := 255) C 12 rfl rfl ?_
    refine g_callSi C 13 [.int l2, .int 0, .int 255] [] rfl (M_X10_in hZ l2 0 255) cnX10_84 cwX10_in csX10_in rfl rfl rfl (Nat.le_of_ble_eq_true rfl) ⟨Nat.le_of_ble_eq_true rfl, Nat.le_of_ble_eq_true rfl⟩ h (fun r3 s4 h => ?_)
    refine g_if_eq C 14 40 rfl rfl h (fun h => ?_) (fun h => ?_)
    · refine g_ldc C 22 rfl kcX10_115 ?_
      exact g_ireturn C 23 rfl h
    · refine g_aload_n C 15 0 rfl rfl ?_
      refine g_sipush (v := 130) C 16 rfl rfl ?_
      refine g_iload_n C 17 1 rfl rfl ?_
      refine g_iadd C 18 rfl ?_
      refine g_iload_n C 19 2 rfl rfl ?_
      refine g_callVi C 20 [.int (130 + l1), .int l2] [] rfl (M_X10_swaps hZ (130 + l1) l2) cnX10_140 cwX10_swaps ciX10_swaps (hZ.at (i := 65) rfl) rfl rfl rfl rfl (Nat.le_of_ble_eq_true rfl) ⟨Nat.le_of_ble_eq_true rfl, Nat.le_of_ble_eq_true rfl⟩ h (fun r5 s6 h => ?_)
      refine g_goto C 21 42 rfl rfl ?_
      exact g_ireturn C 23 rfl h
def T_X10_gives : List (Nat × Instr × Nat) := [(0, .iload_n 1, 1), (1, .aload_n 0, 1), (2, .getfield 9, 3), (5, .iconst 5, 1), (6, .iaload, 1), (7, .if_icmp .ne 47, 3), (10, .iload_n 3, 1), (11, .aload_n 0, 1), (12, .getfield 154, 3), (15, .if_icmp .le 38, 3), (18, .aload_n 0, 1), (19, .iload_n 3, 1), (20, .putfield 154, 3), (23, .iconst 0, 1), (24, .istore 4, 2), (26, .iload 4, 2), (28, .bipush 6, 2), (30, .if_icmp .ge 23, 3), (33, .aload_n 0, 1), (34, .getfield 22, 3), (37, .iload 4, 2), (39, .aload_n 0, 1), (40, .getfield 19, 3), (43, .iload 4, 2), (45, .iaload, 1), (46, .iastore, 1), (47, .iinc 4 1, 3), (50, .goto (-24), 3), (53, .return_, 1), (54, .iconst 0, 1), (55, .istore 4, 2), (57, .iload 4, 2), (59, .bipush 8, 2), (61, .if_icmp .ge 76, 3), (64, .aload_n 0, 1), (65, .getfield 9, 3), (68, .sipush 130, 3), (71, .iload_n 1, 1), (72, .iadd, 1), (73, .iaload, 1), (74, .iload 4, 2), (76, .ishr, 1), (77, .iconst 1, 1), (78, .iand, 1), (79, .iconst 1, 1), (80, .if_icmp .ne 51, 3), (83, .iload_n 2, 1), (84, .iload 4, 2), (86, .ishr, 1), (87, .iconst 1, 1), (88, .iand, 1), (89, .ifCond .ne 42, 3), (92, .aload_n 0, 1), (93, .getfield 9, 3), (96, .bipush 10, 2), (98, .iload 4, 2), (100, .iadd, 1), (101, .iaload, 1), (102, .bipush 30, 2), (104, .if_icmp .ge 27, 3), (107, .aload_n 0, 1), (108, .getfield 19, 3), (111, .iload_n 1, 1), (112, .iload 4, 2), (114, .iastore, 1), (115, .aload_n 0, 1), (116, .iload_n 1, 1), (117, .iconst 1, 1), (118, .iadd, 1), (119, .iload_n 2, 1), (120, .iconst 1, 1), (121, .iload 4, 2), (123, .ishl, 1), (124, .ior, 1), (125, .iload_n 3, 1), (126, .iconst 1, 1), (127, .iadd, 1), (128, .invokevirtual 158, 3), (131, .iinc 4 1, 3), (134, .goto (-77), 3), (137, .aload_n 0, 1), (138, .getfield 19, 3), (141, .iload_n 1, 1), (142, .ldc 161, 2), (144, .iastore, 1), (145, .aload_n 0, 1), (146, .iload_n 1, 1), (147, .iconst 1, 1), (148, .iadd, 1), (149, .iload_n 2, 1), (150, .iload_n 3, 1), (151, .invokevirtual 158, 3), (154, .return_, 1)]
theorem T_X10_gives_ok : gTb cX10_gives T_X10_gives = true := by decide +kernel
def F_X10_gives_L57 (Z : List gH) (rG : Int32 → Int32 → Int32 → gS → Option (Int32 × gS)) (l1 : Int32) (l2 : Int32) (l3 : Int32) : Nat → Int32 → gS → Option (Int32 × gS)
  | 0, _, _ => none
  | n + 1, l4, σ => if 8 ≤ l4 then mIn 6 l1 (mLet (gu σ 69 (nn l1) (-1000000005)) (fun s1 => mCall (rG (l1 + 1) l2 l3 s1) (fun r2 s3 => some (0, s3)))) else mIn 1508 (130 + l1) (if (((σ 66 (nn (130 + l1))) >>> (l4 &&& 31)) &&& 1) = 1 then if ((l2 >>> (l4 &&& 31)) &&& 1) = 0 then mIn 1508 (10 + l4) (if 30 ≤ (σ 66 (nn (10 + l4))) then F_X10_gives_L57 Z rG l1 l2 l3 n (l4 + 1) σ else mIn 6 l1 (mLet (gu σ 69 (nn l1) l4) (fun s4 => mCall (rG (l1 + 1) (l2 ||| (1 <<< (l4 &&& 31))) (l3 + 1) s4) (fun r5 s6 => F_X10_gives_L57 Z rG l1 l2 l3 n (l4 + 1) s6)))) else F_X10_gives_L57 Z rG l1 l2 l3 n (l4 + 1) σ else F_X10_gives_L57 Z rG l1 l2 l3 n (l4 + 1) σ)
def F_X10_gives_L26 (Z : List gH) (rG : Int32 → Int32 → Int32 → gS → Option (Int32 × gS)) : Nat → Int32 → gS → Option (Int32 × gS)
  | 0, _, _ => none
  | n + 1, l4, σ => if 6 ≤ l4 then some (0, σ) else mIn 6 l4 (mIn 6 l4 (mLet (gu σ 70 (nn l4) (σ 69 (nn l4))) (fun s1 => F_X10_gives_L26 Z rG n (l4 + 1) s1)))
def F_X10_gives (Z : List gH) (rG : Int32 → Int32 → Int32 → gS → Option (Int32 × gS)) (l1 : Int32) (l2 : Int32) (l3 : Int32) (σ : gS) : Option (Int32 × gS) := if l1 = (σ 66 5) then if l3 ≤ (σ 65 6) then some (0, σ) else mLet (gu σ 65 6 l3) (fun s1 => F_X10_gives_L26 Z rG mFuel 0 s1) else F_X10_gives_L57 Z rG l1 l2 l3 mFuel 0 σ
set_option maxRecDepth 20000 in
set_option maxHeartbeats 4000000 in
theorem C_F_X10_gives_L57 {g : Nat → List (Nat × Value) → List Value → gS → Prop} {Z : List gH} {ad : Nat → Nat} {z : Int32 × gS} {d : Nat}  {rG : Int32 → Int32 → Int32 → gS → Option (Int32 × gS)} (C : gOk g T_X10_gives RX10 5 none (1 + d) Z ad z) (hZ : Lay Z) (hrG : ∀ (a b c : Int32), gMet yX10_gives cX10_gives 5 none (0 + d) Z (fun ad => [.ref (ad 65), .int a, .int b, .int c]) (rG a b c)) (l1 : Int32) (l2 : Int32) (l3 : Int32) : ∀ (n : Nat) (l4 : Int32) (σ : gS), F_X10_gives_L57 Z rG l1 l2 l3 n l4 σ = some z → g 57 [(0, .ref (ad 65)), (1, .int l1), (2, .int l2), (3, .int l3), (4, .int l4)] [] σ := by
  intro n
  induction n with
  | zero => intro l4 σ h; cases h
  | succ n ih =>
    intro l4 σ h
    rw [F_X10_gives_L57] at h
    refine g_iload C 31 4 rfl rfl ?_
    refine g_bipush (v := 8) C 32 rfl rfl ?_
    refine g_icmp_ge C 33 137 rfl rfl h (fun h => ?_) (fun h => ?_)
    · refine g_aload_n C 80 0 rfl rfl ?_
      refine g_getr (b := 69) C 81 rfl flX10_19 (hZ.at (i := 65) rfl) rfl ?_
      refine g_iload_n C 82 1 rfl rfl ?_
      refine g_ldc C 83 rfl kcX10_161 ?_
      refine g_iast C 84 rfl (hZ.at (i := 69) rfl) h (fun s1 h => ?_)
      refine g_aload_n C 85 0 rfl rfl ?_
      refine g_iload_n C 86 1 rfl rfl ?_
      refine g_iconst (v := 1) C 87 rfl rfl ?_
      refine g_iadd C 88 rfl ?_
      refine g_iload_n C 89 2 rfl rfl ?_
      refine g_iload_n C 90 3 rfl rfl ?_
      refine g_callVv C 91 [.int (l1 + 1), .int l2, .int l3] [] rfl (hrG (l1 + 1) l2 l3) cnX10_158 cwX10_gives ciX10_gives (hZ.at (i := 65) rfl) rfl rfl rfl rfl (Nat.le_of_ble_eq_true rfl) ⟨by show _ ≤ _; simp only [gR]; omega, by show _ ≤ _; simp only [gR]; omega⟩ h (fun r2 s3 h => ?_)
      exact g_return C 92 rfl h
    · refine g_aload_n C 34 0 rfl rfl ?_
      refine g_getr (b := 66) C 35 rfl flX10_9 (hZ.at (i := 65) rfl) rfl ?_
      refine g_sipush (v := 130) C 36 rfl rfl ?_
      refine g_iload_n C 37 1 rfl rfl ?_
      refine g_iadd C 38 rfl ?_
      refine g_iald C 39 rfl (hZ.at (i := 66) rfl) h (fun h => ?_)
      refine g_iload C 40 4 rfl rfl ?_
      refine g_ishr C 41 rfl ?_
      refine g_iconst (v := 1) C 42 rfl rfl ?_
      refine g_iand C 43 rfl ?_
      refine g_iconst (v := 1) C 44 rfl rfl ?_
      refine g_icmp_ne C 45 131 rfl rfl h (fun h => ?_) (fun h => ?_)
      · refine g_iinc C 78 4 (l4 + 1) [(4, .int (l4 + 1)), (0, .ref (ad 65)), (1, .int l1), (2, .int l2), (3, .int l3)] rfl rfl (by decide) rfl rfl ?_
        refine g_goto C 79 57 rfl rfl ?_
        refine g_sub C [1, 2, 3, 4, 0] [(0, .ref (ad 65)), (1, .int l1), (2, .int l2), (3, .int l3), (4, .int (l4 + 1))] rfl ?_
        exact ih _ _ h
      · refine g_iload_n C 46 2 rfl rfl ?_
        refine g_iload C 47 4 rfl rfl ?_
        refine g_ishr C 48 rfl ?_
        refine g_iconst (v := 1) C 49 rfl rfl ?_
        refine g_iand C 50 rfl ?_
        refine g_if_ne C 51 131 rfl rfl h (fun h => ?_) (fun h => ?_)
        · refine g_iinc C 78 4 (l4 + 1) [(4, .int (l4 + 1)), (0, .ref (ad 65)), (1, .int l1), (2, .int l2), (3, .int l3)] rfl rfl (by decide) rfl rfl ?_
          refine g_goto C 79 57 rfl rfl ?_
          refine g_sub C [1, 2, 3, 4, 0] [(0, .ref (ad 65)), (1, .int l1), (2, .int l2), (3, .int l3), (4, .int (l4 + 1))] rfl ?_
          exact ih _ _ h
        · refine g_aload_n C 52 0 rfl rfl ?_
          refine g_getr (b := 66) C 53 rfl flX10_9 (hZ.at (i := 65) rfl) rfl ?_
          refine g_bipush (v := 10) C 54 rfl rfl ?_
          refine g_iload C 55 4 rfl rfl ?_
          refine g_iadd C 56 rfl ?_
          refine g_iald C 57 rfl (hZ.at (i := 66) rfl) h (fun h => ?_)
          refine g_bipush (v := 30) C 58 rfl rfl ?_
          refine g_icmp_ge C 59 131 rfl rfl h (fun h => ?_) (fun h => ?_)
          · refine g_iinc C 78 4 (l4 + 1) [(4, .int (l4 + 1)), (0, .ref (ad 65)), (1, .int l1), (2, .int l2), (3, .int l3)] rfl rfl (by decide) rfl rfl ?_
            refine g_goto C 79 57 rfl rfl ?_
            refine g_sub C [1, 2, 3, 4, 0] [(0, .ref (ad 65)), (1, .int l1), (2, .int l2), (3, .int l3), (4, .int (l4 + 1))] rfl ?_
            exact ih _ _ h
          · refine g_aload_n C 60 0 rfl rfl ?_
            refine g_getr (b := 69) C 61 rfl flX10_19 (hZ.at (i := 65) rfl) rfl ?_
            refine g_iload_n C 62 1 rfl rfl ?_
            refine g_iload C 63 4 rfl rfl ?_
            refine g_iast C 64 rfl (hZ.at (i := 69) rfl) h (fun s4 h => ?_)
            refine g_aload_n C 65 0 rfl rfl ?_
            refine g_iload_n C 66 1 rfl rfl ?_
            refine g_iconst (v := 1) C 67 rfl rfl ?_
            refine g_iadd C 68 rfl ?_
            refine g_iload_n C 69 2 rfl rfl ?_
            refine g_iconst (v := 1) C 70 rfl rfl ?_
            refine g_iload C 71 4 rfl rfl ?_
            refine g_ishl C 72 rfl ?_
            refine g_ior C 73 rfl ?_
            refine g_iload_n C 74 3 rfl rfl ?_
            refine g_iconst (v := 1) C 75 rfl rfl ?_
            refine g_iadd C 76 rfl ?_
            refine g_callVv C 77 [.int (l1 + 1), .int (l2 ||| (1 <<< (l4 &&& 31))), .int (l3 + 1)] [] rfl (hrG (l1 + 1) (l2 ||| (1 <<< (l4 &&& 31))) (l3 + 1)) cnX10_158 cwX10_gives ciX10_gives (hZ.at (i := 65) rfl) rfl rfl rfl rfl (Nat.le_of_ble_eq_true rfl) ⟨by show _ ≤ _; simp only [gR]; omega, by show _ ≤ _; simp only [gR]; omega⟩ h (fun r5 s6 h => ?_)
            refine g_iinc C 78 4 (l4 + 1) [(4, .int (l4 + 1)), (0, .ref (ad 65)), (1, .int l1), (2, .int l2), (3, .int l3)] rfl rfl (by decide) rfl rfl ?_
            refine g_goto C 79 57 rfl rfl ?_
            refine g_sub C [1, 2, 3, 4, 0] [(0, .ref (ad 65)), (1, .int l1), (2, .int l2), (3, .int l3), (4, .int (l4 + 1))] rfl ?_
            exact ih _ _ h
set_option maxRecDepth 20000 in
set_option maxHeartbeats 4000000 in
theorem C_F_X10_gives_L26 {g : Nat → List (Nat × Value) → List Value → gS → Prop} {Z : List gH} {ad : Nat → Nat} {z : Int32 × gS} {d : Nat}  {rG : Int32 → Int32 → Int32 → gS → Option (Int32 × gS)} (C : gOk g T_X10_gives RX10 5 none (1 + d) Z ad z) (hZ : Lay Z) (hrG : ∀ (a b c : Int32), gMet yX10_gives cX10_gives 5 none (0 + d) Z (fun ad => [.ref (ad 65), .int a, .int b, .int c]) (rG a b c)) : ∀ (n : Nat) (l4 : Int32) (σ : gS), F_X10_gives_L26 Z rG n l4 σ = some z → g 26 [(0, .ref (ad 65)), (4, .int l4)] [] σ := by
  intro n
  induction n with
  | zero => intro l4 σ h; cases h
  | succ n ih =>
    intro l4 σ h
    rw [F_X10_gives_L26] at h
    refine g_iload C 15 1 rfl rfl ?_
    refine g_bipush (v := 6) C 16 rfl rfl ?_
    refine g_icmp_ge C 17 53 rfl rfl h (fun h => ?_) (fun h => ?_)
    · exact g_return C 28 rfl h
    · refine g_aload_n C 18 0 rfl rfl ?_
      refine g_getr (b := 70) C 19 rfl flX10_22 (hZ.at (i := 65) rfl) rfl ?_
      refine g_iload C 20 1 rfl rfl ?_
      refine g_aload_n C 21 0 rfl rfl ?_
      refine g_getr (b := 69) C 22 rfl flX10_19 (hZ.at (i := 65) rfl) rfl ?_
      refine g_iload C 23 1 rfl rfl ?_
      refine g_iald C 24 rfl (hZ.at (i := 69) rfl) h (fun h => ?_)
      refine g_iast C 25 rfl (hZ.at (i := 70) rfl) h (fun s1 h => ?_)
      refine g_iinc C 26 1 (l4 + 1) [(4, .int (l4 + 1)), (0, .ref (ad 65))] rfl rfl (by decide) rfl rfl ?_
      refine g_goto C 27 26 rfl rfl ?_
      refine g_sub C [1, 0] [(0, .ref (ad 65)), (4, .int (l4 + 1))] rfl ?_
      exact ih _ _ h
set_option maxRecDepth 20000 in
set_option maxHeartbeats 4000000 in
theorem M_X10_gives {Z : List gH} {d : Nat} {rG : Int32 → Int32 → Int32 → gS → Option (Int32 × gS)} (hZ : Lay Z) (hrG : ∀ (a b c : Int32), gMet yX10_gives cX10_gives 5 none (0 + d) Z (fun ad => [.ref (ad 65), .int a, .int b, .int c]) (rG a b c)) (l1 : Int32) (l2 : Int32) (l3 : Int32) : gMet yX10_gives cX10_gives 5 none (1 + d) Z (fun ad => [.ref (ad 65), .int l1, .int l2, .int l3]) (F_X10_gives Z rG l1 l2 l3) := by
  refine gMet_intro T_X10_gives T_X10_gives_ok rfl (fun _ => Nat.le_of_ble_eq_true rfl) (fun g ad σ z C h => ?_)
  show g 0 [(0, .ref (ad 65)), (1, .int l1), (2, .int l2), (3, .int l3)] [] σ
  rw [F_X10_gives] at h
  refine g_iload_n C 0 1 rfl rfl ?_
  refine g_aload_n C 1 0 rfl rfl ?_
  refine g_getr (b := 66) C 2 rfl flX10_9 (hZ.at (i := 65) rfl) rfl ?_
  refine g_iconst (v := 5) C 3 rfl rfl ?_
  refine g_ialdK C 4 5 rfl (hZ.at (i := 66) rfl) rfl (vp_k rfl) ?_
  refine g_icmp_ne C 5 54 rfl rfl h (fun h => ?_) (fun h => ?_)
  · refine g_iconst (v := 0) C 29 rfl rfl ?_
    refine g_istore C 30 [(4, .int 0), (0, .ref (ad 65)), (1, .int l1), (2, .int l2), (3, .int l3)] rfl (by decide) rfl ?_
    refine g_sub C [1, 2, 3, 4, 0] [(0, .ref (ad 65)), (1, .int l1), (2, .int l2), (3, .int l3), (4, .int 0)] rfl ?_
    exact C_F_X10_gives_L57 C hZ hrG _ _ _ _ _ _ h
  · refine g_iload_n C 6 3 rfl rfl ?_
    refine g_aload_n C 7 0 rfl rfl ?_
    refine g_geti C 8 rfl flX10_154 (hZ.at (i := 65) rfl) rfl ?_
    refine g_icmp_le C 9 53 rfl rfl h (fun h => ?_) (fun h => ?_)
    · exact g_return C 28 rfl h
    · refine g_aload_n C 10 0 rfl rfl ?_
      refine g_iload_n C 11 3 rfl rfl ?_
      refine g_put C 12 rfl fpX10_154 (hZ.at (i := 65) rfl) rfl rfl rfl h (fun s1 h => ?_)
      refine g_iconst (v := 0) C 13 rfl rfl ?_
      refine g_istore C 14 [(4, .int 0), (0, .ref (ad 65)), (1, .int l1), (2, .int l2), (3, .int l3)] rfl (by decide) rfl ?_
      refine g_sub C [1, 0] [(0, .ref (ad 65)), (4, .int 0)] rfl ?_
      exact C_F_X10_gives_L26 C hZ hrG _ _ _ h
def F_givesR (Z : List gH) : Nat → Int32 → Int32 → Int32 → gS → Option (Int32 × gS)
  | 0, _, _, _, _ => none
  | d + 1, a, b, c, σ => F_X10_gives Z (F_givesR Z d) a b c σ
theorem M_givesR {Z : List gH} (hZ : Lay Z) : ∀ (d : Nat) (a b c : Int32), gMet yX10_gives cX10_gives 5 none (0 + d) Z (fun ad => [.ref (ad 65), .int a, .int b, .int c]) (F_givesR Z d a b c) := by
  intro d
  induction d with
  | zero => intro a b c l D cy ad sz σ z h; cases h
  | succ d ih =>
    intro a b c
    have e := M_X10_gives (d := d) hZ ih a b c
    rw [show 0 + (d + 1) = 1 + d by omega]
    exact e
def T_X10_seats : List (Nat × Instr × Nat) := [(0, .iload_n 1, 1), (1, .iconst (-1), 1), (2, .aload_n 0, 1), (3, .getfield 9, 3), (6, .iconst 5, 1), (7, .iaload, 1), (8, .iconst 1, 1), (9, .isub, 1), (10, .invokestatic 84, 3), (13, .ifCond .ne 6, 3), (16, .ldc 115, 2), (18, .ireturn, 1), (19, .aload_n 0, 1), (20, .iconst (-1), 1), (21, .putfield 154, 3), (24, .aload_n 0, 1), (25, .iconst 0, 1), (26, .iconst 0, 1), (27, .iconst 0, 1), (28, .invokevirtual 158, 3), (31, .iload_n 1, 1), (32, .ifCond .ge 10, 3), (35, .aload_n 0, 1), (36, .getfield 154, 3), (39, .goto 9, 3), (42, .aload_n 0, 1), (43, .getfield 22, 3), (46, .iload_n 1, 1), (47, .iaload, 1), (48, .ireturn, 1)]
theorem T_X10_seats_ok : gTb cX10_seats T_X10_seats = true := by decide +kernel
def F_X10_seats (Z : List gH) (l1 : Int32) (σ : gS) : Option (Int32 × gS) := mCall (F_X10_in Z l1 (-1) ((σ 66 5) - 1) σ) (fun r1 s2 => if r1 = 0 then some ((-1000000001), s2) else mLet (gu s2 65 6 (-1)) (fun s3 => mCall (F_givesR Z 12 0 0 0 s3) (fun r4 s5 => if 0 ≤ l1 then mIn 6 l1 (some ((s5 70 (nn l1)), s5)) else some ((s5 65 6), s5))))
set_option maxRecDepth 20000 in
set_option maxHeartbeats 4000000 in
theorem M_X10_seats {Z : List gH} (hZ : Lay Z) (l1 : Int32) : gMet yX10_seats cX10_seats 2 (some .int) 13 Z (fun ad => [.ref (ad 65), .int l1]) (F_X10_seats Z l1) := by
  refine gMet_intro T_X10_seats T_X10_seats_ok rfl (fun _ => Nat.le_of_ble_eq_true rfl) (fun g ad σ z C h => ?_)
  show g 0 [(0, .ref (ad 65)), (1, .int l1)] [] σ
  rw [F_X10_seats] at h
  refine g_iload_n C 0 1 rfl rfl ?_
  refine g_iconst (v := (-1)) C 1 rfl rfl ?_
  refine g_aload_n C 2 0 rfl rfl ?_
  refine g_getr (b := 66) C 3 rfl flX10_9 (hZ.at (i := 65) rfl) rfl ?_
  refine g_iconst (v := 5) C 4 rfl rfl ?_
  refine g_ialdK C 5 5 rfl (hZ.at (i := 66) rfl) rfl (vp_k rfl) ?_
  refine g_iconst (v := 1) C 6 rfl rfl ?_
  refine g_isub C 7 rfl ?_
  refine g_callSi C 8 [.int l1, .int (-1), .int ((σ 66 5) - 1)] [] rfl (M_X10_in hZ l1 (-1) ((σ 66 5) - 1)) cnX10_84 cwX10_in csX10_in rfl rfl rfl (Nat.le_of_ble_eq_true rfl) ⟨Nat.le_of_ble_eq_true rfl, Nat.le_of_ble_eq_true rfl⟩ h (fun r1 s2 h => ?_)
  refine g_if_ne C 9 19 rfl rfl h (fun h => ?_) (fun h => ?_)
  · refine g_aload_n C 12 0 rfl rfl ?_
    refine g_iconst (v := (-1)) C 13 rfl rfl ?_
    refine g_put C 14 rfl fpX10_154 (hZ.at (i := 65) rfl) rfl rfl rfl h (fun s3 h => ?_)
    refine g_aload_n C 15 0 rfl rfl ?_
    refine g_iconst (v := 0) C 16 rfl rfl ?_
    refine g_iconst (v := 0) C 17 rfl rfl ?_
    refine g_iconst (v := 0) C 18 rfl rfl ?_
    refine g_callVv C 19 [.int 0, .int 0, .int 0] [] rfl (M_givesR hZ 12 0 0 0) cnX10_158 cwX10_gives ciX10_gives (hZ.at (i := 65) rfl) rfl rfl rfl rfl (Nat.le_of_ble_eq_true rfl) ⟨Nat.le_of_ble_eq_true rfl, Nat.le_of_ble_eq_true rfl⟩ h (fun r4 s5 h => ?_)
    refine g_iload_n C 20 1 rfl rfl ?_
    refine g_if_ge C 21 42 rfl rfl h (fun h => ?_) (fun h => ?_)
    · refine g_aload_n C 25 0 rfl rfl ?_
      refine g_getr (b := 70) C 26 rfl flX10_22 (hZ.at (i := 65) rfl) rfl ?_
      refine g_iload_n C 27 1 rfl rfl ?_
      refine g_iald C 28 rfl (hZ.at (i := 70) rfl) h (fun h => ?_)
      exact g_ireturn C 29 rfl h
    · refine g_aload_n C 22 0 rfl rfl ?_
      refine g_geti C 23 rfl flX10_154 (hZ.at (i := 65) rfl) rfl ?_
      refine g_goto C 24 48 rfl rfl ?_
      exact g_ireturn C 29 rfl h
  · refine g_ldc C 10 rfl kcX10_115 ?_
    exact g_ireturn C 11 rfl h
def T_X10_way : List (Nat × Instr × Nat) := [(0, .iload_n 1, 1), (1, .invokestatic 103, 3), (4, .ifCond .eq 10, 3), (7, .iload_n 2, 1), (8, .invokestatic 103, 3), (11, .ifCond .ne 6, 3), (14, .ldc 115, 2), (16, .ireturn, 1), (17, .iconst 1, 1), (18, .iload_n 1, 1), (19, .ishl, 1), (20, .istore_n 3, 1), (21, .iconst 0, 1), (22, .istore 4, 2), (24, .iload 4, 2), (26, .bipush 8, 2), (28, .if_icmp .ge 86, 3), (31, .iload_n 3, 1), (32, .iload_n 2, 1), (33, .ishr, 1), (34, .iconst 1, 1), (35, .iand, 1), (36, .iconst 1, 1), (37, .if_icmp .ne 6, 3), (40, .iload 4, 2), (42, .ireturn, 1), (43, .iload_n 3, 1), (44, .istore 5, 2), (46, .iconst 0, 1), (47, .istore 6, 2), (49, .iload 6, 2), (51, .bipush 64, 2), (53, .if_icmp .ge 52, 3), (56, .iload 5, 2), (58, .iload_n 3, 1), (59, .iload 6, 2), (61, .bipush 8, 2), (63, .idiv, 1), (64, .ishr, 1), (65, .iconst 1, 1), (66, .iand, 1), (67, .iconst 1, 1), (68, .if_icmp .ne 27, 3), (71, .aload_n 0, 1), (72, .getfield 9, 3), (75, .bipush 18, 2), (77, .iload 6, 2), (79, .iadd, 1), (80, .iaload, 1), (81, .iconst 2, 1), (82, .if_icmp .ne 13, 3), (85, .iconst 1, 1), (86, .iload 6, 2), (88, .bipush 8, 2), (90, .irem, 1), (91, .ishl, 1), (92, .goto 4, 3), (95, .iconst 0, 1), (96, .ior, 1), (97, .istore 5, 2), (99, .iinc 6 1, 3), (102, .goto (-53), 3), (105, .iload 5, 2), (107, .istore_n 3, 1), (108, .iinc 4 1, 3), (111, .goto (-87), 3), (114, .ldc 161, 2), (116, .ireturn, 1)]
theorem T_X10_way_ok : gTb cX10_way T_X10_way = true := by decide +kernel
def F_X10_way_L49 (Z : List gH) (k24 : Int32 → Int32 → gS → Option (Int32 × gS)) (l2 : Int32) : Nat → Int32 → Int32 → Int32 → Int32 → gS → Option (Int32 × gS)
  | 0, _, _, _, _, _ => none
  | n + 1, l3, l4, l5, l6, σ => if 64 ≤ l6 then k24 l5 (l4 + 1) σ else if ((l3 >>> ((l6 / 8) &&& 31)) &&& 1) = 1 then mIn 1508 (18 + l6) (if (σ 66 (nn (18 + l6))) = 2 then mLet ((l5 ||| (1 <<< ((mRem l6 8) &&& 31)))) (fun v3 => F_X10_way_L49 Z k24 l2 n l3 l4 v3 (l6 + 1) σ) else mLet ((l5 ||| 0)) (fun v2 => F_X10_way_L49 Z k24 l2 n l3 l4 v2 (l6 + 1) σ)) else mLet ((l5 ||| 0)) (fun v1 => F_X10_way_L49 Z k24 l2 n l3 l4 v1 (l6 + 1) σ)
def F_X10_way_L24 (Z : List gH) (l2 : Int32) : Nat → Int32 → Int32 → gS → Option (Int32 × gS)
  | 0, _, _, _ => none
  | n + 1, l3, l4, σ => if 8 ≤ l4 then some ((-1000000005), σ) else if ((l3 >>> (l2 &&& 31)) &&& 1) = 1 then some (l4, σ) else F_X10_way_L49 Z (F_X10_way_L24 Z l2 n) l2 mFuel l3 l4 l3 0 σ
def F_X10_way (Z : List gH) (l1 : Int32) (l2 : Int32) (σ : gS) : Option (Int32 × gS) := mCall (F_X10_isRoom Z l1 σ) (fun r1 s2 => if r1 = 0 then some ((-1000000001), s2) else mCall (F_X10_isRoom Z l2 s2) (fun r3 s4 => if r3 = 0 then some ((-1000000001), s4) else mLet ((1 <<< (l1 &&& 31))) (fun v5 => F_X10_way_L24 Z l2 mFuel v5 0 s4)))
set_option maxRecDepth 20000 in
set_option maxHeartbeats 4000000 in
theorem C_F_X10_way_L49 {g : Nat → List (Nat × Value) → List Value → gS → Prop} {Z : List gH} {ad : Nat → Nat} {z : Int32 × gS}  (C : gOk g T_X10_way RX10 7 (some .int) 3 Z ad z) (hZ : Lay Z) {k24 : Int32 → Int32 → gS → Option (Int32 × gS)} (l2 : Int32) (hk24 : ∀ (l3 : Int32) (l4 : Int32) (σ : gS), k24 l3 l4 σ = some z → g 24 [(0, .ref (ad 65)), (2, .int l2), (3, .int l3), (4, .int l4)] [] σ) : ∀ (n : Nat) (l3 : Int32) (l4 : Int32) (l5 : Int32) (l6 : Int32) (σ : gS), F_X10_way_L49 Z k24 l2 n l3 l4 l5 l6 σ = some z → g 49 [(0, .ref (ad 65)), (2, .int l2), (3, .int l3), (4, .int l4), (5, .int l5), (6, .int l6)] [] σ := by
  intro n
  induction n with
  | zero => intro l3 l4 l5 l6 σ h; cases h
  | succ n ih =>
    intro l3 l4 l5 l6 σ h
    rw [F_X10_way_L49] at h
    refine g_iload C 30 5 rfl rfl ?_
    refine g_bipush (v := 64) C 31 rfl rfl ?_
    refine g_icmp_ge C 32 105 rfl rfl h (fun h => ?_) (fun h => ?_)
    · refine g_iload C 62 4 rfl rfl ?_
      refine g_istore_n C 63 [(3, .int l5), (0, .ref (ad 65)), (2, .int l2), (4, .int l4), (5, .int l5), (6, .int l6)] rfl (by decide) rfl ?_
      refine g_iinc C 64 3 (l4 + 1) [(4, .int (l4 + 1)), (3, .int l5), (0, .ref (ad 65)), (2, .int l2), (5, .int l5), (6, .int l6)] rfl rfl (by decide) rfl rfl ?_
      refine g_goto C 65 24 rfl rfl ?_
      refine g_sub C [2, 3, 1, 0] [(0, .ref (ad 65)), (2, .int l2), (3, .int l5), (4, .int (l4 + 1))] rfl ?_
      exact hk24 _ _ _ h
    · refine g_iload C 33 4 rfl rfl ?_
      refine g_iload_n C 34 2 rfl rfl ?_
      refine g_iload C 35 5 rfl rfl ?_
      refine g_bipush (v := 8) C 36 rfl rfl ?_
      refine g_idivK C 37 rfl (by decide) ?_
      refine g_ishr C 38 rfl ?_
      refine g_iconst (v := 1) C 39 rfl rfl ?_
      refine g_iand C 40 rfl ?_
      refine g_iconst (v := 1) C 41 rfl rfl ?_
      refine g_icmp_ne C 42 95 rfl rfl h (fun h => ?_) (fun h => ?_)
      · refine g_iconst (v := 0) C 57 rfl rfl ?_
        refine g_ior C 58 rfl ?_
        refine g_let h (fun v1 h => ?_)
        refine g_istore C 59 [(5, .int v1), (0, .ref (ad 65)), (2, .int l2), (3, .int l3), (4, .int l4), (6, .int l6)] rfl (by decide) rfl ?_
        refine g_iinc C 60 5 (l6 + 1) [(6, .int (l6 + 1)), (5, .int v1), (0, .ref (ad 65)), (2, .int l2), (3, .int l3), (4, .int l4)] rfl rfl (by decide) rfl rfl ?_
        refine g_goto C 61 49 rfl rfl ?_
        refine g_sub C [2, 3, 4, 5, 1, 0] [(0, .ref (ad 65)), (2, .int l2), (3, .int l3), (4, .int l4), (5, .int v1), (6, .int (l6 + 1))] rfl ?_
        exact ih _ _ _ _ _ h
      · refine g_aload_n C 43 0 rfl rfl ?_
        refine g_getr (b := 66) C 44 rfl flX10_9 (hZ.at (i := 65) rfl) rfl ?_
        refine g_bipush (v := 18) C 45 rfl rfl ?_
        refine g_iload C 46 5 rfl rfl ?_
        refine g_iadd C 47 rfl ?_
        refine g_iald C 48 rfl (hZ.at (i := 66) rfl) h (fun h => ?_)
        refine g_iconst (v := 2) C 49 rfl rfl ?_
        refine g_icmp_ne C 50 95 rfl rfl h (fun h => ?_) (fun h => ?_)
        · refine g_iconst (v := 0) C 57 rfl rfl ?_
          refine g_ior C 58 rfl ?_
          refine g_let h (fun v2 h => ?_)
          refine g_istore C 59 [(5, .int v2), (0, .ref (ad 65)), (2, .int l2), (3, .int l3), (4, .int l4), (6, .int l6)] rfl (by decide) rfl ?_
          refine g_iinc C 60 5 (l6 + 1) [(6, .int (l6 + 1)), (5, .int v2), (0, .ref (ad 65)), (2, .int l2), (3, .int l3), (4, .int l4)] rfl rfl (by decide) rfl rfl ?_
          refine g_goto C 61 49 rfl rfl ?_
          refine g_sub C [2, 3, 4, 5, 1, 0] [(0, .ref (ad 65)), (2, .int l2), (3, .int l3), (4, .int l4), (5, .int v2), (6, .int (l6 + 1))] rfl ?_
          exact ih _ _ _ _ _ h
        · refine g_iconst (v := 1) C 51 rfl rfl ?_
          refine g_iload C 52 5 rfl rfl ?_
          refine g_bipush (v := 8) C 53 rfl rfl ?_
          refine g_iremK C 54 rfl (by decide) ?_
          refine g_ishl C 55 rfl ?_
          refine g_goto C 56 96 rfl rfl ?_
          refine g_ior C 58 rfl ?_
          refine g_let h (fun v3 h => ?_)
          refine g_istore C 59 [(5, .int v3), (0, .ref (ad 65)), (2, .int l2), (3, .int l3), (4, .int l4), (6, .int l6)] rfl (by decide) rfl ?_
          refine g_iinc C 60 5 (l6 + 1) [(6, .int (l6 + 1)), (5, .int v3), (0, .ref (ad 65)), (2, .int l2), (3, .int l3), (4, .int l4)] rfl rfl (by decide) rfl rfl ?_
          refine g_goto C 61 49 rfl rfl ?_
          refine g_sub C [2, 3, 4, 5, 1, 0] [(0, .ref (ad 65)), (2, .int l2), (3, .int l3), (4, .int l4), (5, .int v3), (6, .int (l6 + 1))] rfl ?_
          exact ih _ _ _ _ _ h
set_option maxRecDepth 20000 in
set_option maxHeartbeats 4000000 in
theorem C_F_X10_way_L24 {g : Nat → List (Nat × Value) → List Value → gS → Prop} {Z : List gH} {ad : Nat → Nat} {z : Int32 × gS}  (C : gOk g T_X10_way RX10 7 (some .int) 3 Z ad z) (hZ : Lay Z) (l2 : Int32) : ∀ (n : Nat) (l3 : Int32) (l4 : Int32) (σ : gS), F_X10_way_L24 Z l2 n l3 l4 σ = some z → g 24 [(0, .ref (ad 65)), (2, .int l2), (3, .int l3), (4, .int l4)] [] σ := by
  intro n
  induction n with
  | zero => intro l3 l4 σ h; cases h
  | succ n ih =>
    intro l3 l4 σ h
    rw [F_X10_way_L24] at h
    refine g_iload C 14 3 rfl rfl ?_
    refine g_bipush (v := 8) C 15 rfl rfl ?_
    refine g_icmp_ge C 16 114 rfl rfl h (fun h => ?_) (fun h => ?_)
    · refine g_ldc C 66 rfl kcX10_161 ?_
      exact g_ireturn C 67 rfl h
    · refine g_iload_n C 17 2 rfl rfl ?_
      refine g_iload_n C 18 1 rfl rfl ?_
      refine g_ishr C 19 rfl ?_
      refine g_iconst (v := 1) C 20 rfl rfl ?_
      refine g_iand C 21 rfl ?_
      refine g_iconst (v := 1) C 22 rfl rfl ?_
      refine g_icmp_ne C 23 43 rfl rfl h (fun h => ?_) (fun h => ?_)
      · refine g_iload_n C 26 2 rfl rfl ?_
        refine g_istore C 27 [(5, .int l3), (0, .ref (ad 65)), (2, .int l2), (3, .int l3), (4, .int l4)] rfl (by decide) rfl ?_
        refine g_iconst (v := 0) C 28 rfl rfl ?_
        refine g_istore C 29 [(6, .int 0), (5, .int l3), (0, .ref (ad 65)), (2, .int l2), (3, .int l3), (4, .int l4)] rfl (by decide) rfl ?_
        refine g_sub C [2, 3, 4, 5, 1, 0] [(0, .ref (ad 65)), (2, .int l2), (3, .int l3), (4, .int l4), (5, .int l3), (6, .int 0)] rfl ?_
        exact C_F_X10_way_L49 C hZ _ ih _ _ _ _ _ _ h
      · refine g_iload C 24 3 rfl rfl ?_
        exact g_ireturn C 25 rfl h
set_option maxRecDepth 20000 in
set_option maxHeartbeats 4000000 in
theorem M_X10_way {Z : List gH} (hZ : Lay Z) (l1 : Int32) (l2 : Int32) : gMet yX10_way cX10_way 7 (some .int) 3 Z (fun ad => [.ref (ad 65), .int l1, .int l2]) (F_X10_way Z l1 l2) := by
  refine gMet_intro T_X10_way T_X10_way_ok rfl (fun _ => Nat.le_of_ble_eq_true rfl) (fun g ad σ z C h => ?_)
  show g 0 [(0, .ref (ad 65)), (1, .int l1), (2, .int l2)] [] σ
  rw [F_X10_way] at h
  refine g_iload_n C 0 1 rfl rfl ?_
  refine g_callSi C 1 [.int l1] [] rfl (M_X10_isRoom hZ l1) cnX10_103 cwX10_isRoom csX10_isRoom rfl rfl rfl (Nat.le_of_ble_eq_true rfl) ⟨Nat.le_of_ble_eq_true rfl, Nat.le_of_ble_eq_true rfl⟩ h (fun r1 s2 h => ?_)
  refine g_if_eq C 2 14 rfl rfl h (fun h => ?_) (fun h => ?_)
  · refine g_ldc C 6 rfl kcX10_115 ?_
    exact g_ireturn C 7 rfl h
  · refine g_iload_n C 3 2 rfl rfl ?_
    refine g_callSi C 4 [.int l2] [] rfl (M_X10_isRoom hZ l2) cnX10_103 cwX10_isRoom csX10_isRoom rfl rfl rfl (Nat.le_of_ble_eq_true rfl) ⟨Nat.le_of_ble_eq_true rfl, Nat.le_of_ble_eq_true rfl⟩ h (fun r3 s4 h => ?_)
    refine g_if_ne C 5 17 rfl rfl h (fun h => ?_) (fun h => ?_)
    · refine g_iconst (v := 1) C 8 rfl rfl ?_
      refine g_iload_n C 9 1 rfl rfl ?_
      refine g_ishl C 10 rfl ?_
      refine g_let h (fun v5 h => ?_)
      refine g_istore_n C 11 [(3, .int v5), (0, .ref (ad 65)), (1, .int l1), (2, .int l2)] rfl (by decide) rfl ?_
      refine g_iconst (v := 0) C 12 rfl rfl ?_
      refine g_istore C 13 [(4, .int 0), (3, .int v5), (0, .ref (ad 65)), (1, .int l1), (2, .int l2)] rfl (by decide) rfl ?_
      refine g_sub C [2, 4, 1, 0] [(0, .ref (ad 65)), (2, .int l2), (3, .int v5), (4, .int 0)] rfl ?_
      exact C_F_X10_way_L24 C hZ _ _ _ _ _ h
    · refine g_ldc C 6 rfl kcX10_115 ?_
      exact g_ireturn C 7 rfl h
def T_X10_catches : List (Nat × Instr × Nat) := [(0, .iconst 0, 1), (1, .istore_n 1, 1), (2, .iload_n 1, 1), (3, .aload_n 0, 1), (4, .getfield 9, 3), (7, .iconst 1, 1), (8, .iaload, 1), (9, .if_icmp .ge 75, 3), (12, .aload_n 0, 1), (13, .iload_n 1, 1), (14, .iconst 3, 1), (15, .invokevirtual 92, 3), (18, .ifCond .ne 38, 3), (21, .aload_n 0, 1), (22, .iload_n 1, 1), (23, .iconst 2, 1), (24, .invokevirtual 92, 3), (27, .ifCond .le 29, 3), (30, .aload_n 0, 1), (31, .getfield 9, 3), (34, .bipush 10, 2), (36, .aload_n 0, 1), (37, .iload_n 1, 1), (38, .iconst 1, 1), (39, .invokevirtual 92, 3), (42, .iadd, 1), (43, .iaload, 1), (44, .aload_n 0, 1), (45, .iload_n 1, 1), (46, .invokevirtual 130, 3), (49, .if_icmp .lt 7, 3), (52, .iconst 1, 1), (53, .goto 4, 3), (56, .iconst 0, 1), (57, .istore_n 2, 1), (58, .aload_n 0, 1), (59, .iload_n 1, 1), (60, .iconst 3, 1), (61, .iload_n 2, 1), (62, .ifCond .eq 7, 3), (65, .iconst 1, 1), (66, .goto 9, 3), (69, .aload_n 0, 1), (70, .iload_n 1, 1), (71, .iconst 3, 1), (72, .invokevirtual 92, 3), (75, .invokevirtual 107, 3), (78, .iinc 1 1, 3), (81, .goto (-79), 3), (84, .return_, 1)]
theorem T_X10_catches_ok : gTb cX10_catches T_X10_catches = true := by decide +kernel
def F_X10_catches_J57 (Z : List gH) (k2 : Int32 → gS → Option (Int32 × gS)) (l1 : Int32) (t0 : Int32) (σ : gS) : Option (Int32 × gS) := if t0 = 0 then mCall (F_X10_of Z l1 3 σ) (fun r1 s2 => mCall (F_X10_put Z l1 3 r1 s2) (fun r3 s4 => k2 (l1 + 1) s4)) else mCall (F_X10_put Z l1 3 1 σ) (fun r5 s6 => k2 (l1 + 1) s6)
def F_X10_catches_L2 (Z : List gH) : Nat → Int32 → gS → Option (Int32 × gS)
  | 0, _, _ => none
  | n + 1, l1, σ => if (σ 66 1) ≤ l1 then some (0, σ) else mCall (F_X10_of Z l1 3 σ) (fun r1 s2 => if r1 = 0 then mCall (F_X10_of Z l1 2 s2) (fun r3 s4 => if r3 ≤ 0 then F_X10_catches_J57 Z (F_X10_catches_L2 Z n) l1 0 s4 else mCall (F_X10_of Z l1 1 s4) (fun r5 s6 => mIn 1508 (10 + r5) (mCall (F_X10_catchesOf Z l1 s6) (fun r7 s8 => if (s6 66 (nn (10 + r5))) < r7 then F_X10_catches_J57 Z (F_X10_catches_L2 Z n) l1 0 s8 else F_X10_catches_J57 Z (F_X10_catches_L2 Z n) l1 1 s8)))) else F_X10_catches_J57 Z (F_X10_catches_L2 Z n) l1 0 s2)
def F_X10_catches (Z : List gH) (σ : gS) : Option (Int32 × gS) := F_X10_catches_L2 Z mFuel 0 σ
set_option maxRecDepth 20000 in
set_option maxHeartbeats 4000000 in
theorem C_F_X10_catches_J57 {g : Nat → List (Nat × Value) → List Value → gS → Prop} {Z : List gH} {ad : Nat → Nat} {z : Int32 × gS}  (C : gOk g T_X10_catches RX10 3 none 3 Z ad z) (hZ : Lay Z) {k2 : Int32 → gS → Option (Int32 × gS)} (hk2 : ∀ (l1 : Int32) (σ : gS), k2 l1 σ = some z → g 2 [(0, .ref (ad 65)), (1, .int l1)] [] σ) (l1 : Int32) (t0 : Int32) (σ : gS) (h : F_X10_catches_J57 Z k2 l1 t0 σ = some z) : g 57 [(0, .ref (ad 65)), (1, .int l1)] [.int t0] σ := by
  rw [F_X10_catches_J57] at h
  refine g_istore_n C 34 [(2, .int t0), (0, .ref (ad 65)), (1, .int l1)] rfl (by decide) rfl ?_
  refine g_aload_n C 35 1 rfl rfl ?_
  refine g_iload_n C 36 2 rfl rfl ?_
  refine g_iconst (v := 3) C 37 rfl rfl ?_
  refine g_iload_n C 38 0 rfl rfl ?_
  refine g_if_eq C 39 69 rfl rfl h (fun h => ?_) (fun h => ?_)
  · refine g_aload_n C 42 1 rfl rfl ?_
    refine g_iload_n C 43 2 rfl rfl ?_
    refine g_iconst (v := 3) C 44 rfl rfl ?_
    refine g_callVi C 45 [.int l1, .int 3] [.int 3, .int l1, .ref (ad 65)] rfl (M_X10_of hZ l1 3) cnX10_92 cwX10_of ciX10_of (hZ.at (i := 65) rfl) rfl rfl rfl rfl (Nat.le_of_ble_eq_true rfl) ⟨Nat.le_of_ble_eq_true rfl, Nat.le_of_ble_eq_true rfl⟩ h (fun r1 s2 h => ?_)
    refine g_callVv C 46 [.int l1, .int 3, .int r1] [] rfl (M_X10_put hZ l1 3 r1) cnX10_107 cwX10_put ciX10_put (hZ.at (i := 65) rfl) rfl rfl rfl rfl (Nat.le_of_ble_eq_true rfl) ⟨Nat.le_of_ble_eq_true rfl, Nat.le_of_ble_eq_true rfl⟩ h (fun r3 s4 h => ?_)
    refine g_iinc C 47 2 (l1 + 1) [(1, .int (l1 + 1)), (2, .int t0), (0, .ref (ad 65))] rfl rfl (by decide) rfl rfl ?_
    refine g_goto C 48 2 rfl rfl ?_
    refine g_sub C [2, 0] [(0, .ref (ad 65)), (1, .int (l1 + 1))] rfl ?_
    exact hk2 _ _ h
  · refine g_iconst (v := 1) C 40 rfl rfl ?_
    refine g_goto C 41 75 rfl rfl ?_
    refine g_callVv C 46 [.int l1, .int 3, .int 1] [] rfl (M_X10_put hZ l1 3 1) cnX10_107 cwX10_put ciX10_put (hZ.at (i := 65) rfl) rfl rfl rfl rfl (Nat.le_of_ble_eq_true rfl) ⟨Nat.le_of_ble_eq_true rfl, Nat.le_of_ble_eq_true rfl⟩ h (fun r5 s6 h => ?_)
    refine g_iinc C 47 2 (l1 + 1) [(1, .int (l1 + 1)), (2, .int t0), (0, .ref (ad 65))] rfl rfl (by decide) rfl rfl ?_
    refine g_goto C 48 2 rfl rfl ?_
    refine g_sub C [2, 0] [(0, .ref (ad 65)), (1, .int (l1 + 1))] rfl ?_
    exact hk2 _ _ h
set_option maxRecDepth 20000 in
set_option maxHeartbeats 4000000 in
theorem C_F_X10_catches_L2 {g : Nat → List (Nat × Value) → List Value → gS → Prop} {Z : List gH} {ad : Nat → Nat} {z : Int32 × gS}  (C : gOk g T_X10_catches RX10 3 none 3 Z ad z) (hZ : Lay Z) : ∀ (n : Nat) (l1 : Int32) (σ : gS), F_X10_catches_L2 Z n l1 σ = some z → g 2 [(0, .ref (ad 65)), (1, .int l1)] [] σ := by
  intro n
  induction n with
  | zero => intro l1 σ h; cases h
  | succ n ih =>
    intro l1 σ h
    rw [F_X10_catches_L2] at h
    refine g_iload_n C 2 1 rfl rfl ?_
    refine g_aload_n C 3 0 rfl rfl ?_
    refine g_getr (b := 66) C 4 rfl flX10_9 (hZ.at (i := 65) rfl) rfl ?_
    refine g_iconst (v := 1) C 5 rfl rfl ?_
    refine g_ialdK C 6 1 rfl (hZ.at (i := 66) rfl) rfl (vp_k rfl) ?_
    refine g_icmp_ge C 7 84 rfl rfl h (fun h => ?_) (fun h => ?_)
    · exact g_return C 49 rfl h
    · refine g_aload_n C 8 0 rfl rfl ?_
      refine g_iload_n C 9 1 rfl rfl ?_
      refine g_iconst (v := 3) C 10 rfl rfl ?_
      refine g_callVi C 11 [.int l1, .int 3] [] rfl (M_X10_of hZ l1 3) cnX10_92 cwX10_of ciX10_of (hZ.at (i := 65) rfl) rfl rfl rfl rfl (Nat.le_of_ble_eq_true rfl) ⟨Nat.le_of_ble_eq_true rfl, Nat.le_of_ble_eq_true rfl⟩ h (fun r1 s2 h => ?_)
      refine g_if_ne C 12 56 rfl rfl h (fun h => ?_) (fun h => ?_)
      · refine g_iconst (v := 0) C 33 rfl rfl ?_
        exact C_F_X10_catches_J57 C hZ ih _ _ _ h
      · refine g_aload_n C 13 0 rfl rfl ?_
        refine g_iload_n C 14 1 rfl rfl ?_
        refine g_iconst (v := 2) C 15 rfl rfl ?_
        refine g_callVi C 16 [.int l1, .int 2] [] rfl (M_X10_of hZ l1 2) cnX10_92 cwX10_of ciX10_of (hZ.at (i := 65) rfl) rfl rfl rfl rfl (Nat.le_of_ble_eq_true rfl) ⟨Nat.le_of_ble_eq_true rfl, Nat.le_of_ble_eq_true rfl⟩ h (fun r3 s4 h => ?_)
        refine g_if_le C 17 56 rfl rfl h (fun h => ?_) (fun h => ?_)
        · refine g_iconst (v := 0) C 33 rfl rfl ?_
          exact C_F_X10_catches_J57 C hZ ih _ _ _ h
        · refine g_aload_n C 18 0 rfl rfl ?_
          refine g_getr (b := 66) C 19 rfl flX10_9 (hZ.at (i := 65) rfl) rfl ?_
          refine g_bipush (v := 10) C 20 rfl rfl ?_
          refine g_aload_n C 21 0 rfl rfl ?_
          refine g_iload_n C 22 1 rfl rfl ?_
          refine g_iconst (v := 1) C 23 rfl rfl ?_
          refine g_callVi C 24 [.int l1, .int 1] [.int 10, .ref (ad 66)] rfl (M_X10_of hZ l1 1) cnX10_92 cwX10_of ciX10_of (hZ.at (i := 65) rfl) rfl rfl rfl rfl (Nat.le_of_ble_eq_true rfl) ⟨Nat.le_of_ble_eq_true rfl, Nat.le_of_ble_eq_true rfl⟩ h (fun r5 s6 h => ?_)
          refine g_iadd C 25 rfl ?_
          refine g_iald C 26 rfl (hZ.at (i := 66) rfl) h (fun h => ?_)
          refine g_aload_n C 27 0 rfl rfl ?_
          refine g_iload_n C 28 1 rfl rfl ?_
          refine g_callVi C 29 [.int l1] [.int (s6 66 (nn (10 + r5)))] rfl (M_X10_catchesOf hZ l1) cnX10_130 cwX10_catchesOf ciX10_catchesOf (hZ.at (i := 65) rfl) rfl rfl rfl rfl (Nat.le_of_ble_eq_true rfl) ⟨Nat.le_of_ble_eq_true rfl, Nat.le_of_ble_eq_true rfl⟩ h (fun r7 s8 h => ?_)
          refine g_icmp_lt C 30 56 rfl rfl h (fun h => ?_) (fun h => ?_)
          · refine g_iconst (v := 0) C 33 rfl rfl ?_
            exact C_F_X10_catches_J57 C hZ ih _ _ _ h
          · refine g_iconst (v := 1) C 31 rfl rfl ?_
            refine g_goto C 32 57 rfl rfl ?_
            exact C_F_X10_catches_J57 C hZ ih _ _ _ h
set_option maxRecDepth 20000 in
set_option maxHeartbeats 4000000 in
theorem M_X10_catches {Z : List gH} (hZ : Lay Z) : gMet yX10_catches cX10_catches 3 none 3 Z (fun ad => [.ref (ad 65)]) (F_X10_catches Z) := by
  refine gMet_intro T_X10_catches T_X10_catches_ok rfl (fun _ => Nat.le_of_ble_eq_true rfl) (fun g ad σ z C h => ?_)
  show g 0 [(0, .ref (ad 65))] [] σ
  rw [F_X10_catches] at h
  refine g_iconst (v := 0) C 0 rfl rfl ?_
  refine g_istore_n C 1 [(1, .int 0), (0, .ref (ad 65))] rfl (by decide) rfl ?_
  refine g_sub C [1, 0] [(0, .ref (ad 65)), (1, .int 0)] rfl ?_
  exact C_F_X10_catches_L2 C hZ _ _ _ h
def T_X10_evens : List (Nat × Instr × Nat) := [(0, .iconst 0, 1), (1, .istore_n 1, 1), (2, .iload_n 1, 1), (3, .bipush 8, 2), (5, .if_icmp .ge 95, 3), (8, .iload_n 1, 1), (9, .iconst 1, 1), (10, .iadd, 1), (11, .istore_n 2, 1), (12, .iload_n 2, 1), (13, .bipush 8, 2), (15, .if_icmp .ge 79, 3), (18, .aload_n 0, 1), (19, .getfield 9, 3), (22, .bipush 18, 2), (24, .bipush 8, 2), (26, .iload_n 1, 1), (27, .imul, 1), (28, .iadd, 1), (29, .iload_n 2, 1), (30, .iadd, 1), (31, .iaload, 1), (32, .iconst 2, 1), (33, .if_icmp .ne 27, 3), (36, .aload_n 0, 1), (37, .getfield 9, 3), (40, .bipush 10, 2), (42, .iload_n 1, 1), (43, .iadd, 1), (44, .iaload, 1), (45, .aload_n 0, 1), (46, .getfield 9, 3), (49, .bipush 10, 2), (51, .iload_n 2, 1), (52, .iadd, 1), (53, .iaload, 1), (54, .isub, 1), (55, .iconst 4, 1), (56, .idiv, 1), (57, .goto 4, 3), (60, .iconst 0, 1), (61, .istore_n 3, 1), (62, .aload_n 0, 1), (63, .getfield 9, 3), (66, .bipush 10, 2), (68, .iload_n 1, 1), (69, .iadd, 1), (70, .dup2, 1), (71, .iaload, 1), (72, .iload_n 3, 1), (73, .isub, 1), (74, .iastore, 1), (75, .aload_n 0, 1), (76, .getfield 9, 3), (79, .bipush 10, 2), (81, .iload_n 2, 1), (82, .iadd, 1), (83, .dup2, 1), (84, .iaload, 1), (85, .iload_n 3, 1), (86, .iadd, 1), (87, .iastore, 1), (88, .iinc 2 1, 3), (91, .goto (-79), 3), (94, .iinc 1 1, 3), (97, .goto (-95), 3), (100, .return_, 1)]
theorem T_X10_evens_ok : gTb cX10_evens T_X10_evens = true := by decide +kernel
def F_X10_evens_J61 (Z : List gH) (k2 : Int32 → gS → Option (Int32 × gS)) (k12 : Int32 → Int32 → gS → Option (Int32 × gS)) (l1 : Int32) (l2 : Int32) (t0 : Int32) (σ : gS) : Option (Int32 × gS) := mIn 1508 (10 + l1) (mIn 1508 (10 + l1) (mLet (gu σ 66 (nn (10 + l1)) ((σ 66 (nn (10 + l1))) - t0)) (fun s1 => mIn 1508 (10 + l2) (mIn 1508 (10 + l2) (mLet (gu s1 66 (nn (10 + l2)) ((s1 66 (nn (10 + l2))) + t0)) (fun s2 => k12 l1 (l2 + 1) s2))))))
def F_X10_evens_L12 (Z : List gH) (k2 : Int32 → gS → Option (Int32 × gS)) : Nat → Int32 → Int32 → gS → Option (Int32 × gS)
  | 0, _, _, _ => none
  | n + 1, l1, l2, σ => if 8 ≤ l2 then k2 (l1 + 1) σ else mIn 1508 ((18 + (8 * l1)) + l2) (if (σ 66 (nn ((18 + (8 * l1)) + l2))) = 2 then mIn 1508 (10 + l1) (mIn 1508 (10 + l2) (F_X10_evens_J61 Z k2 (F_X10_evens_L12 Z k2 n) l1 l2 (((σ 66 (nn (10 + l1))) - (σ 66 (nn (10 + l2)))) / 4) σ)) else F_X10_evens_J61 Z k2 (F_X10_evens_L12 Z k2 n) l1 l2 0 σ)
def F_X10_evens_L2 (Z : List gH) : Nat → Int32 → gS → Option (Int32 × gS)
  | 0, _, _ => none
  | n + 1, l1, σ => if 8 ≤ l1 then some (0, σ) else mLet ((l1 + 1)) (fun v1 => F_X10_evens_L12 Z (F_X10_evens_L2 Z n) mFuel l1 v1 σ)
def F_X10_evens (Z : List gH) (σ : gS) : Option (Int32 × gS) := F_X10_evens_L2 Z mFuel 0 σ
set_option maxRecDepth 20000 in
set_option maxHeartbeats 4000000 in
theorem C_F_X10_evens_J61 {g : Nat → List (Nat × Value) → List Value → gS → Prop} {Z : List gH} {ad : Nat → Nat} {z : Int32 × gS}  (C : gOk g T_X10_evens RX10 4 none 1 Z ad z) (hZ : Lay Z) {k2 : Int32 → gS → Option (Int32 × gS)} {k12 : Int32 → Int32 → gS → Option (Int32 × gS)} (hk2 : ∀ (l1 : Int32) (σ : gS), k2 l1 σ = some z → g 2 [(0, .ref (ad 65)), (1, .int l1)] [] σ) (hk12 : ∀ (l1 : Int32) (l2 : Int32) (σ : gS), k12 l1 l2 σ = some z → g 12 [(0, .ref (ad 65)), (1, .int l1), (2, .int l2)] [] σ) (l1 : Int32) (l2 : Int32) (t0 : Int32) (σ : gS) (h : F_X10_evens_J61 Z k2 k12 l1 l2 t0 σ = some z) : g 61 [(0, .ref (ad 65)), (1, .int l1), (2, .int l2)] [.int t0] σ := by
  rw [F_X10_evens_J61] at h
  refine g_istore_n C 41 [(3, .int t0), (0, .ref (ad 65)), (1, .int l1), (2, .int l2)] rfl (by decide) rfl ?_
  refine g_aload_n C 42 1 rfl rfl ?_
  refine g_getr (b := 66) C 43 rfl flX10_9 (hZ.at (i := 65) rfl) rfl ?_
  refine g_bipush (v := 10) C 44 rfl rfl ?_
  refine g_iload_n C 45 2 rfl rfl ?_
  refine g_iadd C 46 rfl ?_
  refine g_dup2 C 47 rfl rfl rfl ?_
  refine g_iald C 48 rfl (hZ.at (i := 66) rfl) h (fun h => ?_)
  refine g_iload_n C 49 0 rfl rfl ?_
  refine g_isub C 50 rfl ?_
  refine g_iast C 51 rfl (hZ.at (i := 66) rfl) h (fun s1 h => ?_)
  refine g_aload_n C 52 1 rfl rfl ?_
  refine g_getr (b := 66) C 53 rfl flX10_9 (hZ.at (i := 65) rfl) rfl ?_
  refine g_bipush (v := 10) C 54 rfl rfl ?_
  refine g_iload_n C 55 3 rfl rfl ?_
  refine g_iadd C 56 rfl ?_
  refine g_dup2 C 57 rfl rfl rfl ?_
  refine g_iald C 58 rfl (hZ.at (i := 66) rfl) h (fun h => ?_)
  refine g_iload_n C 59 0 rfl rfl ?_
  refine g_iadd C 60 rfl ?_
  refine g_iast C 61 rfl (hZ.at (i := 66) rfl) h (fun s2 h => ?_)
  refine g_iinc C 62 3 (l2 + 1) [(2, .int (l2 + 1)), (3, .int t0), (0, .ref (ad 65)), (1, .int l1)] rfl rfl (by decide) rfl rfl ?_
  refine g_goto C 63 12 rfl rfl ?_
  refine g_sub C [2, 3, 0] [(0, .ref (ad 65)), (1, .int l1), (2, .int (l2 + 1))] rfl ?_
  exact hk12 _ _ _ h
set_option maxRecDepth 20000 in
set_option maxHeartbeats 4000000 in
theorem C_F_X10_evens_L12 {g : Nat → List (Nat × Value) → List Value → gS → Prop} {Z : List gH} {ad : Nat → Nat} {z : Int32 × gS}  (C : gOk g T_X10_evens RX10 4 none 1 Z ad z) (hZ : Lay Z) {k2 : Int32 → gS → Option (Int32 × gS)} (hk2 : ∀ (l1 : Int32) (σ : gS), k2 l1 σ = some z → g 2 [(0, .ref (ad 65)), (1, .int l1)] [] σ) : ∀ (n : Nat) (l1 : Int32) (l2 : Int32) (σ : gS), F_X10_evens_L12 Z k2 n l1 l2 σ = some z → g 12 [(0, .ref (ad 65)), (1, .int l1), (2, .int l2)] [] σ := by
  intro n
  induction n with
  | zero => intro l1 l2 σ h; cases h
  | succ n ih =>
    intro l1 l2 σ h
    rw [F_X10_evens_L12] at h
    refine g_iload_n C 9 2 rfl rfl ?_
    refine g_bipush (v := 8) C 10 rfl rfl ?_
    refine g_icmp_ge C 11 94 rfl rfl h (fun h => ?_) (fun h => ?_)
    · refine g_iinc C 64 1 (l1 + 1) [(1, .int (l1 + 1)), (0, .ref (ad 65)), (2, .int l2)] rfl rfl (by decide) rfl rfl ?_
      refine g_goto C 65 2 rfl rfl ?_
      refine g_sub C [1, 0] [(0, .ref (ad 65)), (1, .int (l1 + 1))] rfl ?_
      exact hk2 _ _ h
    · refine g_aload_n C 12 0 rfl rfl ?_
      refine g_getr (b := 66) C 13 rfl flX10_9 (hZ.at (i := 65) rfl) rfl ?_
      refine g_bipush (v := 18) C 14 rfl rfl ?_
      refine g_bipush (v := 8) C 15 rfl rfl ?_
      refine g_iload_n C 16 1 rfl rfl ?_
      refine g_imul C 17 rfl ?_
      refine g_iadd C 18 rfl ?_
      refine g_iload_n C 19 2 rfl rfl ?_
      refine g_iadd C 20 rfl ?_
      refine g_iald C 21 rfl (hZ.at (i := 66) rfl) h (fun h => ?_)
      refine g_iconst (v := 2) C 22 rfl rfl ?_
      refine g_icmp_ne C 23 60 rfl rfl h (fun h => ?_) (fun h => ?_)
      · refine g_iconst (v := 0) C 40 rfl rfl ?_
        exact C_F_X10_evens_J61 C hZ hk2 ih _ _ _ _ h
      · refine g_aload_n C 24 0 rfl rfl ?_
        refine g_getr (b := 66) C 25 rfl flX10_9 (hZ.at (i := 65) rfl) rfl ?_
        refine g_bipush (v := 10) C 26 rfl rfl ?_
        refine g_iload_n C 27 1 rfl rfl ?_
        refine g_iadd C 28 rfl ?_
        refine g_iald C 29 rfl (hZ.at (i := 66) rfl) h (fun h => ?_)
        refine g_aload_n C 30 0 rfl rfl ?_
        refine g_getr (b := 66) C 31 rfl flX10_9 (hZ.at (i := 65) rfl) rfl ?_
        refine g_bipush (v := 10) C 32 rfl rfl ?_
        refine g_iload_n C 33 2 rfl rfl ?_
        refine g_iadd C 34 rfl ?_
        refine g_iald C 35 rfl (hZ.at (i := 66) rfl) h (fun h => ?_)
        refine g_isub C 36 rfl ?_
        refine g_iconst (v := 4) C 37 rfl rfl ?_
        refine g_idivK C 38 rfl (by decide) ?_
        refine g_goto C 39 61 rfl rfl ?_
        exact C_F_X10_evens_J61 C hZ hk2 ih _ _ _ _ h
set_option maxRecDepth 20000 in
set_option maxHeartbeats 4000000 in
theorem C_F_X10_evens_L2 {g : Nat → List (Nat × Value) → List Value → gS → Prop} {Z : List gH} {ad : Nat → Nat} {z : Int32 × gS}  (C : gOk g T_X10_evens RX10 4 none 1 Z ad z) (hZ : Lay Z) : ∀ (n : Nat) (l1 : Int32) (σ : gS), F_X10_evens_L2 Z n l1 σ = some z → g 2 [(0, .ref (ad 65)), (1, .int l1)] [] σ := by
  intro n
  induction n with
  | zero => intro l1 σ h; cases h
  | succ n ih =>
    intro l1 σ h
    rw [F_X10_evens_L2] at h
    refine g_iload_n C 2 1 rfl rfl ?_
    refine g_bipush (v := 8) C 3 rfl rfl ?_
    refine g_icmp_ge C 4 100 rfl rfl h (fun h => ?_) (fun h => ?_)
    · exact g_return C 66 rfl h
    · refine g_iload_n C 5 1 rfl rfl ?_
      refine g_iconst (v := 1) C 6 rfl rfl ?_
      refine g_iadd C 7 rfl ?_
      refine g_let h (fun v1 h => ?_)
      refine g_istore_n C 8 [(2, .int v1), (0, .ref (ad 65)), (1, .int l1)] rfl (by decide) rfl ?_
      refine g_sub C [1, 2, 0] [(0, .ref (ad 65)), (1, .int l1), (2, .int v1)] rfl ?_
      exact C_F_X10_evens_L12 C hZ ih _ _ _ _ h
set_option maxRecDepth 20000 in
set_option maxHeartbeats 4000000 in
theorem M_X10_evens {Z : List gH} (hZ : Lay Z) : gMet yX10_evens cX10_evens 4 none 1 Z (fun ad => [.ref (ad 65)]) (F_X10_evens Z) := by
  refine gMet_intro T_X10_evens T_X10_evens_ok rfl (fun _ => Nat.le_of_ble_eq_true rfl) (fun g ad σ z C h => ?_)
  show g 0 [(0, .ref (ad 65))] [] σ
  rw [F_X10_evens] at h
  refine g_iconst (v := 0) C 0 rfl rfl ?_
  refine g_istore_n C 1 [(1, .int 0), (0, .ref (ad 65))] rfl (by decide) rfl ?_
  refine g_sub C [1, 0] [(0, .ref (ad 65)), (1, .int 0)] rfl ?_
  exact C_F_X10_evens_L2 C hZ _ _ _ h
def T_X10_blows : List (Nat × Instr × Nat) := [(0, .aload_n 0, 1), (1, .invokevirtual 144, 3), (4, .bipush 100, 2), (6, .irem, 1), (7, .aload_n 0, 1), (8, .getfield 9, 3), (11, .iconst 3, 1), (12, .iaload, 1), (13, .if_icmp .lt 4, 3), (16, .return_, 1), (17, .aload_n 0, 1), (18, .invokevirtual 144, 3), (21, .bipush 8, 2), (23, .irem, 1), (24, .istore_n 1, 1), (25, .aload_n 0, 1), (26, .invokevirtual 144, 3), (29, .bipush 8, 2), (31, .irem, 1), (32, .istore_n 2, 1), (33, .iload_n 1, 1), (34, .iload_n 2, 1), (35, .if_icmp .ne 7, 3), (38, .iconst 0, 1), (39, .goto 17, 3), (42, .aload_n 0, 1), (43, .getfield 9, 3), (46, .bipush 18, 2), (48, .bipush 8, 2), (50, .iload_n 1, 1), (51, .imul, 1), (52, .iadd, 1), (53, .iload_n 2, 1), (54, .iadd, 1), (55, .iaload, 1), (56, .istore_n 3, 1), (57, .iload_n 3, 1), (58, .ifCond .le 24, 3), (61, .aload_n 0, 1), (62, .iload_n 1, 1), (63, .iload_n 2, 1), (64, .iconst 3, 1), (65, .iload_n 3, 1), (66, .isub, 1), (67, .invokevirtual 151, 3), (70, .pop, 1), (71, .aload_n 0, 1), (72, .getfield 9, 3), (75, .bipush 8, 2), (77, .dup2, 1), (78, .iaload, 1), (79, .iconst 1, 1), (80, .iadd, 1), (81, .iastore, 1), (82, .return_, 1)]
theorem T_X10_blows_ok : gTb cX10_blows T_X10_blows = true := by decide +kernel
def F_X10_blows_J56 (Z : List gH) (l1 : Int32) (l2 : Int32) (t0 : Int32) (σ : gS) : Option (Int32 × gS) := if t0 ≤ 0 then some (0, σ) else mCall (F_X10_leaves Z l1 l2 (3 - t0) σ) (fun r1 s2 => mLet (gu s2 66 8 ((s2 66 8) + 1)) (fun s3 => some (0, s3)))
def F_X10_blows (Z : List gH) (σ : gS) : Option (Int32 × gS) := mCall (F_X10_draw Z σ) (fun r1 s2 => if (mRem r1 100) < (s2 66 3) then mCall (F_X10_draw Z s2) (fun r3 s4 => mLet ((mRem r3 8)) (fun v5 => mCall (F_X10_draw Z s4) (fun r6 s7 => mLet ((mRem r6 8)) (fun v8 => if v5 = v8 then F_X10_blows_J56 Z v5 v8 0 s7 else mIn 1508 ((18 + (8 * v5)) + v8) (F_X10_blows_J56 Z v5 v8 (s7 66 (nn ((18 + (8 * v5)) + v8))) s7))))) else some (0, s2))
set_option maxRecDepth 20000 in
set_option maxHeartbeats 4000000 in
theorem C_F_X10_blows_J56 {g : Nat → List (Nat × Value) → List Value → gS → Prop} {Z : List gH} {ad : Nat → Nat} {z : Int32 × gS}  (C : gOk g T_X10_blows RX10 4 none 3 Z ad z) (hZ : Lay Z) (l1 : Int32) (l2 : Int32) (t0 : Int32) (σ : gS) (h : F_X10_blows_J56 Z l1 l2 t0 σ = some z) : g 56 [(0, .ref (ad 65)), (1, .int l1), (2, .int l2)] [.int t0] σ := by
  rw [F_X10_blows_J56] at h
  refine g_istore_n C 35 [(3, .int t0), (0, .ref (ad 65)), (1, .int l1), (2, .int l2)] rfl (by decide) rfl ?_
  refine g_iload_n C 36 0 rfl rfl ?_
  refine g_if_le C 37 82 rfl rfl h (fun h => ?_) (fun h => ?_)
  · exact g_return C 54 rfl h
  · refine g_aload_n C 38 1 rfl rfl ?_
    refine g_iload_n C 39 2 rfl rfl ?_
    refine g_iload_n C 40 3 rfl rfl ?_
    refine g_iconst (v := 3) C 41 rfl rfl ?_
    refine g_iload_n C 42 0 rfl rfl ?_
    refine g_isub C 43 rfl ?_
    refine g_callVi C 44 [.int l1, .int l2, .int (3 - t0)] [] rfl (M_X10_leaves hZ l1 l2 (3 - t0)) cnX10_151 cwX10_leaves ciX10_leaves (hZ.at (i := 65) rfl) rfl rfl rfl rfl (Nat.le_of_ble_eq_true rfl) ⟨Nat.le_of_ble_eq_true rfl, Nat.le_of_ble_eq_true rfl⟩ h (fun r1 s2 h => ?_)
    refine g_pop C 45 rfl rfl ?_
    refine g_aload_n C 46 1 rfl rfl ?_
    refine g_getr (b := 66) C 47 rfl flX10_9 (hZ.at (i := 65) rfl) rfl ?_
    refine g_bipush (v := 8) C 48 rfl rfl ?_
    refine g_dup2 C 49 rfl rfl rfl ?_
    refine g_ialdK C 50 8 rfl (hZ.at (i := 66) rfl) rfl (vp_k rfl) ?_
    refine g_iconst (v := 1) C 51 rfl rfl ?_
    refine g_iadd C 52 rfl ?_
    refine g_iastK C 53 8 rfl (hZ.at (i := 66) rfl) rfl (vp_k rfl) h (fun s3 h => ?_)
    exact g_return C 54 rfl h
set_option maxRecDepth 20000 in
set_option maxHeartbeats 4000000 in
theorem M_X10_blows {Z : List gH} (hZ : Lay Z) : gMet yX10_blows cX10_blows 4 none 3 Z (fun ad => [.ref (ad 65)]) (F_X10_blows Z) := by
  refine gMet_intro T_X10_blows T_X10_blows_ok rfl (fun _ => Nat.le_of_ble_eq_true rfl) (fun g ad σ z C h => ?_)
  show g 0 [(0, .ref (ad 65))] [] σ
  rw [F_X10_blows] at h
  refine g_aload_n C 0 0 rfl rfl ?_
  refine g_callVi C 1 [] [] rfl (M_X10_draw hZ) cnX10_144 cwX10_draw ciX10_draw (hZ.at (i := 65) rfl) rfl rfl rfl rfl (Nat.le_of_ble_eq_true rfl) ⟨Nat.le_of_ble_eq_true rfl, Nat.le_of_ble_eq_true rfl⟩ h (fun r1 s2 h => ?_)
  refine g_bipush (v := 100) C 2 rfl rfl ?_
  refine g_iremK C 3 rfl (by decide) ?_
  refine g_aload_n C 4 0 rfl rfl ?_
  refine g_getr (b := 66) C 5 rfl flX10_9 (hZ.at (i := 65) rfl) rfl ?_
  refine g_iconst (v := 3) C 6 rfl rfl ?_
  refine g_ialdK C 7 3 rfl (hZ.at (i := 66) rfl) rfl (vp_k rfl) ?_
  refine g_icmp_lt C 8 17 rfl rfl h (fun h => ?_) (fun h => ?_)
  · refine g_aload_n C 10 0 rfl rfl ?_
    refine g_callVi C 11 [] [] rfl (M_X10_draw hZ) cnX10_144 cwX10_draw ciX10_draw (hZ.at (i := 65) rfl) rfl rfl rfl rfl (Nat.le_of_ble_eq_true rfl) ⟨Nat.le_of_ble_eq_true rfl, Nat.le_of_ble_eq_true rfl⟩ h (fun r3 s4 h => ?_)
    refine g_bipush (v := 8) C 12 rfl rfl ?_
    refine g_iremK C 13 rfl (by decide) ?_
    refine g_let h (fun v5 h => ?_)
    refine g_istore_n C 14 [(1, .int v5), (0, .ref (ad 65))] rfl (by decide) rfl ?_
    refine g_aload_n C 15 1 rfl rfl ?_
    refine g_callVi C 16 [] [] rfl (M_X10_draw hZ) cnX10_144 cwX10_draw ciX10_draw (hZ.at (i := 65) rfl) rfl rfl rfl rfl (Nat.le_of_ble_eq_true rfl) ⟨Nat.le_of_ble_eq_true rfl, Nat.le_of_ble_eq_true rfl⟩ h (fun r6 s7 h => ?_)
    refine g_bipush (v := 8) C 17 rfl rfl ?_
    refine g_iremK C 18 rfl (by decide) ?_
    refine g_let h (fun v8 h => ?_)
    refine g_istore_n C 19 [(2, .int v8), (1, .int v5), (0, .ref (ad 65))] rfl (by decide) rfl ?_
    refine g_iload_n C 20 1 rfl rfl ?_
    refine g_iload_n C 21 0 rfl rfl ?_
    refine g_icmp_ne C 22 42 rfl rfl h (fun h => ?_) (fun h => ?_)
    · refine g_aload_n C 25 2 rfl rfl ?_
      refine g_getr (b := 66) C 26 rfl flX10_9 (hZ.at (i := 65) rfl) rfl ?_
      refine g_bipush (v := 18) C 27 rfl rfl ?_
      refine g_bipush (v := 8) C 28 rfl rfl ?_
      refine g_iload_n C 29 1 rfl rfl ?_
      refine g_imul C 30 rfl ?_
      refine g_iadd C 31 rfl ?_
      refine g_iload_n C 32 0 rfl rfl ?_
      refine g_iadd C 33 rfl ?_
      refine g_iald C 34 rfl (hZ.at (i := 66) rfl) h (fun h => ?_)
      refine g_sub C [2, 1, 0] [(0, .ref (ad 65)), (1, .int v5), (2, .int v8)] rfl ?_
      exact C_F_X10_blows_J56 C hZ _ _ _ _ h
    · refine g_iconst (v := 0) C 23 rfl rfl ?_
      refine g_goto C 24 56 rfl rfl ?_
      refine g_sub C [2, 1, 0] [(0, .ref (ad 65)), (1, .int v5), (2, .int v8)] rfl ?_
      exact C_F_X10_blows_J56 C hZ _ _ _ _ h
  · exact g_return C 9 rfl h
def T_X10_burns : List (Nat × Instr × Nat) := [(0, .aload_n 0, 1), (1, .iload_n 1, 1), (2, .invokevirtual 124, 3), (5, .iconst 0, 1), (6, .aload_n 0, 1), (7, .iload_n 1, 1), (8, .iconst 2, 1), (9, .invokevirtual 92, 3), (12, .invokestatic 99, 3), (15, .istore_n 2, 1), (16, .aload_n 0, 1), (17, .iload_n 1, 1), (18, .iload_n 2, 1), (19, .invokevirtual 127, 3), (22, .istore_n 3, 1), (23, .bipush 10, 2), (25, .aload_n 0, 1), (26, .iload_n 1, 1), (27, .iconst 1, 1), (28, .invokevirtual 92, 3), (31, .iadd, 1), (32, .istore 4, 2), (34, .aload_n 0, 1), (35, .iload_n 1, 1), (36, .iconst 2, 1), (37, .aload_n 0, 1), (38, .iload_n 1, 1), (39, .iconst 2, 1), (40, .invokevirtual 92, 3), (43, .iload_n 2, 1), (44, .isub, 1), (45, .invokevirtual 107, 3), (48, .aload_n 0, 1), (49, .getfield 9, 3), (52, .bipush 6, 2), (54, .dup2, 1), (55, .iaload, 1), (56, .iload_n 2, 1), (57, .iadd, 1), (58, .iastore, 1), (59, .aload_n 0, 1), (60, .getfield 9, 3), (63, .iload 4, 2), (65, .aload_n 0, 1), (66, .getfield 9, 3), (69, .iload 4, 2), (71, .iaload, 1), (72, .iload_n 3, 1), (73, .iadd, 1), (74, .iconst 0, 1), (75, .bipush 99, 2), (77, .invokestatic 99, 3), (80, .iastore, 1), (81, .aload_n 0, 1), (82, .iload_n 1, 1), (83, .iconst 2, 1), (84, .invokevirtual 92, 3), (87, .ifCond .ne 21, 3), (90, .aload_n 0, 1), (91, .iload_n 1, 1), (92, .iconst 3, 1), (93, .iconst 0, 1), (94, .invokevirtual 107, 3), (97, .aload_n 0, 1), (98, .getfield 9, 3), (101, .bipush 7, 2), (103, .dup2, 1), (104, .iaload, 1), (105, .iconst 1, 1), (106, .iadd, 1), (107, .iastore, 1), (108, .return_, 1)]
theorem T_X10_burns_ok : gTb cX10_burns T_X10_burns = true := by decide +kernel
def F_X10_burns (Z : List gH) (l1 : Int32) (σ : gS) : Option (Int32 × gS) := mCall (F_X10_burnsOf Z l1 σ) (fun r1 s2 => mCall (F_X10_of Z l1 2 s2) (fun r3 s4 => mCall (F_X10_within Z r1 0 r3 s4) (fun r5 s6 => mCall (F_X10_givesOf Z l1 r5 s6) (fun r7 s8 => mCall (F_X10_of Z l1 1 s8) (fun r9 s10 => mLet ((10 + r9)) (fun v11 => mCall (F_X10_of Z l1 2 s10) (fun r12 s13 => mCall (F_X10_put Z l1 2 (r12 - r5) s13) (fun r14 s15 => mLet (gu s15 66 6 ((s15 66 6) + r5)) (fun s16 => mIn 1508 v11 (mCall (F_X10_within Z ((s16 66 (nn v11)) + r7) 0 99 s16) (fun r17 s18 => mIn 1508 v11 (mLet (gu s18 66 (nn v11) r17) (fun s19 => mCall (F_X10_of Z l1 2 s19) (fun r20 s21 => if r20 = 0 then mCall (F_X10_put Z l1 3 0 s21) (fun r22 s23 => mLet (gu s23 66 7 ((s23 66 7) + 1)) (fun s24 => some (0, s24))) else some (0, s21)))))))))))))))
set_option maxRecDepth 20000 in
set_option maxHeartbeats 4000000 in
theorem M_X10_burns {Z : List gH} (hZ : Lay Z) (l1 : Int32) : gMet yX10_burns cX10_burns 5 none 4 Z (fun ad => [.ref (ad 65), .int l1]) (F_X10_burns Z l1) := by
  refine gMet_intro T_X10_burns T_X10_burns_ok rfl (fun _ => Nat.le_of_ble_eq_true rfl) (fun g ad σ z C h => ?_)
  show g 0 [(0, .ref (ad 65)), (1, .int l1)] [] σ
  rw [F_X10_burns] at h
  refine g_aload_n C 0 0 rfl rfl ?_
  refine g_iload_n C 1 1 rfl rfl ?_
  refine g_callVi C 2 [.int l1] [] rfl (M_X10_burnsOf hZ l1) cnX10_124 cwX10_burnsOf ciX10_burnsOf (hZ.at (i := 65) rfl) rfl rfl rfl rfl (Nat.le_of_ble_eq_true rfl) ⟨Nat.le_of_ble_eq_true rfl, Nat.le_of_ble_eq_true rfl⟩ h (fun r1 s2 h => ?_)
  refine g_iconst (v := 0) C 3 rfl rfl ?_
  refine g_aload_n C 4 0 rfl rfl ?_
  refine g_iload_n C 5 1 rfl rfl ?_
  refine g_iconst (v := 2) C 6 rfl rfl ?_
  refine g_callVi C 7 [.int l1, .int 2] [.int 0, .int r1] rfl (M_X10_of hZ l1 2) cnX10_92 cwX10_of ciX10_of (hZ.at (i := 65) rfl) rfl rfl rfl rfl (Nat.le_of_ble_eq_true rfl) ⟨Nat.le_of_ble_eq_true rfl, Nat.le_of_ble_eq_true rfl⟩ h (fun r3 s4 h => ?_)
  refine g_callSi C 8 [.int r1, .int 0, .int r3] [] rfl (M_X10_within hZ r1 0 r3) cnX10_99 cwX10_within csX10_within rfl rfl rfl (Nat.le_of_ble_eq_true rfl) ⟨Nat.le_of_ble_eq_true rfl, Nat.le_of_ble_eq_true rfl⟩ h (fun r5 s6 h => ?_)
  refine g_istore_n C 9 [(2, .int r5), (0, .ref (ad 65)), (1, .int l1)] rfl (by decide) rfl ?_
  refine g_aload_n C 10 1 rfl rfl ?_
  refine g_iload_n C 11 2 rfl rfl ?_
  refine g_iload_n C 12 0 rfl rfl ?_
  refine g_callVi C 13 [.int l1, .int r5] [] rfl (M_X10_givesOf hZ l1 r5) cnX10_127 cwX10_givesOf ciX10_givesOf (hZ.at (i := 65) rfl) rfl rfl rfl rfl (Nat.le_of_ble_eq_true rfl) ⟨Nat.le_of_ble_eq_true rfl, Nat.le_of_ble_eq_true rfl⟩ h (fun r7 s8 h => ?_)
  refine g_istore_n C 14 [(3, .int r7), (2, .int r5), (0, .ref (ad 65)), (1, .int l1)] rfl (by decide) rfl ?_
  refine g_bipush (v := 10) C 15 rfl rfl ?_
  refine g_aload_n C 16 2 rfl rfl ?_
  refine g_iload_n C 17 3 rfl rfl ?_
  refine g_iconst (v := 1) C 18 rfl rfl ?_
  refine g_callVi C 19 [.int l1, .int 1] [.int 10] rfl (M_X10_of hZ l1 1) cnX10_92 cwX10_of ciX10_of (hZ.at (i := 65) rfl) rfl rfl rfl rfl (Nat.le_of_ble_eq_true rfl) ⟨Nat.le_of_ble_eq_true rfl, Nat.le_of_ble_eq_true rfl⟩ h (fun r9 s10 h => ?_)
  refine g_iadd C 20 rfl ?_
  refine g_let h (fun v11 h => ?_)
  refine g_istore C 21 [(4, .int v11), (3, .int r7), (2, .int r5), (0, .ref (ad 65)), (1, .int l1)] rfl (by decide) rfl ?_
  refine g_aload_n C 22 3 rfl rfl ?_
  refine g_iload_n C 23 4 rfl rfl ?_
  refine g_iconst (v := 2) C 24 rfl rfl ?_
  refine g_aload_n C 25 3 rfl rfl ?_
  refine g_iload_n C 26 4 rfl rfl ?_
  refine g_iconst (v := 2) C 27 rfl rfl ?_
  refine g_callVi C 28 [.int l1, .int 2] [.int 2, .int l1, .ref (ad 65)] rfl (M_X10_of hZ l1 2) cnX10_92 cwX10_of ciX10_of (hZ.at (i := 65) rfl) rfl rfl rfl rfl (Nat.le_of_ble_eq_true rfl) ⟨Nat.le_of_ble_eq_true rfl, Nat.le_of_ble_eq_true rfl⟩ h (fun r12 s13 h => ?_)
  refine g_iload_n C 29 2 rfl rfl ?_
  refine g_isub C 30 rfl ?_
  refine g_callVv C 31 [.int l1, .int 2, .int (r12 - r5)] [] rfl (M_X10_put hZ l1 2 (r12 - r5)) cnX10_107 cwX10_put ciX10_put (hZ.at (i := 65) rfl) rfl rfl rfl rfl (Nat.le_of_ble_eq_true rfl) ⟨Nat.le_of_ble_eq_true rfl, Nat.le_of_ble_eq_true rfl⟩ h (fun r14 s15 h => ?_)
  refine g_aload_n C 32 3 rfl rfl ?_
  refine g_getr (b := 66) C 33 rfl flX10_9 (hZ.at (i := 65) rfl) rfl ?_
  refine g_bipush (v := 6) C 34 rfl rfl ?_
  refine g_dup2 C 35 rfl rfl rfl ?_
  refine g_ialdK C 36 6 rfl (hZ.at (i := 66) rfl) rfl (vp_k rfl) ?_
  refine g_iload_n C 37 2 rfl rfl ?_
  refine g_iadd C 38 rfl ?_
  refine g_iastK C 39 6 rfl (hZ.at (i := 66) rfl) rfl (vp_k rfl) h (fun s16 h => ?_)
  refine g_aload_n C 40 3 rfl rfl ?_
  refine g_getr (b := 66) C 41 rfl flX10_9 (hZ.at (i := 65) rfl) rfl ?_
  refine g_iload C 42 0 rfl rfl ?_
  refine g_aload_n C 43 3 rfl rfl ?_
  refine g_getr (b := 66) C 44 rfl flX10_9 (hZ.at (i := 65) rfl) rfl ?_
  refine g_iload C 45 0 rfl rfl ?_
  refine g_iald C 46 rfl (hZ.at (i := 66) rfl) h (fun h => ?_)
  refine g_iload_n C 47 1 rfl rfl ?_
  refine g_iadd C 48 rfl ?_
  refine g_iconst (v := 0) C 49 rfl rfl ?_
  refine g_bipush (v := 99) C 50 rfl rfl ?_
  refine g_callSi C 51 [.int ((s16 66 (nn v11)) + r7), .int 0, .int 99] [.int v11, .ref (ad 66)] rfl (M_X10_within hZ ((s16 66 (nn v11)) + r7) 0 99) cnX10_99 cwX10_within csX10_within rfl rfl rfl (Nat.le_of_ble_eq_true rfl) ⟨Nat.le_of_ble_eq_true rfl, Nat.le_of_ble_eq_true rfl⟩ h (fun r17 s18 h => ?_)
  refine g_iast C 52 rfl (hZ.at (i := 66) rfl) h (fun s19 h => ?_)
  refine g_aload_n C 53 3 rfl rfl ?_
  refine g_iload_n C 54 4 rfl rfl ?_
  refine g_iconst (v := 2) C 55 rfl rfl ?_
  refine g_callVi C 56 [.int l1, .int 2] [] rfl (M_X10_of hZ l1 2) cnX10_92 cwX10_of ciX10_of (hZ.at (i := 65) rfl) rfl rfl rfl rfl (Nat.le_of_ble_eq_true rfl) ⟨Nat.le_of_ble_eq_true rfl, Nat.le_of_ble_eq_true rfl⟩ h (fun r20 s21 h => ?_)
  refine g_if_ne C 57 108 rfl rfl h (fun h => ?_) (fun h => ?_)
  · exact g_return C 71 rfl h
  · refine g_aload_n C 58 3 rfl rfl ?_
    refine g_iload_n C 59 4 rfl rfl ?_
    refine g_iconst (v := 3) C 60 rfl rfl ?_
    refine g_iconst (v := 0) C 61 rfl rfl ?_
    refine g_callVv C 62 [.int l1, .int 3, .int 0] [] rfl (M_X10_put hZ l1 3 0) cnX10_107 cwX10_put ciX10_put (hZ.at (i := 65) rfl) rfl rfl rfl rfl (Nat.le_of_ble_eq_true rfl) ⟨Nat.le_of_ble_eq_true rfl, Nat.le_of_ble_eq_true rfl⟩ h (fun r22 s23 h => ?_)
    refine g_aload_n C 63 3 rfl rfl ?_
    refine g_getr (b := 66) C 64 rfl flX10_9 (hZ.at (i := 65) rfl) rfl ?_
    refine g_bipush (v := 7) C 65 rfl rfl ?_
    refine g_dup2 C 66 rfl rfl rfl ?_
    refine g_ialdK C 67 7 rfl (hZ.at (i := 66) rfl) rfl (vp_k rfl) ?_
    refine g_iconst (v := 1) C 68 rfl rfl ?_
    refine g_iadd C 69 rfl ?_
    refine g_iastK C 70 7 rfl (hZ.at (i := 66) rfl) rfl (vp_k rfl) h (fun s24 h => ?_)
    exact g_return C 71 rfl h
def T_X10_minute : List (Nat × Instr × Nat) := [(0, .iconst 0, 1), (1, .istore_n 1, 1), (2, .iload_n 1, 1), (3, .aload_n 0, 1), (4, .getfield 9, 3), (7, .iconst 1, 1), (8, .iaload, 1), (9, .if_icmp .ge 24, 3), (12, .aload_n 0, 1), (13, .iload_n 1, 1), (14, .iconst 3, 1), (15, .invokevirtual 92, 3), (18, .iconst 1, 1), (19, .if_icmp .ne 8, 3), (22, .aload_n 0, 1), (23, .iload_n 1, 1), (24, .invokevirtual 162, 3), (27, .iinc 1 1, 3), (30, .goto (-28), 3), (33, .aload_n 0, 1), (34, .invokevirtual 166, 3), (37, .iconst 0, 1), (38, .istore_n 1, 1), (39, .iload_n 1, 1), (40, .bipush 8, 2), (42, .if_icmp .ge 40, 3), (45, .aload_n 0, 1), (46, .getfield 9, 3), (49, .bipush 10, 2), (51, .iload_n 1, 1), (52, .iadd, 1), (53, .aload_n 0, 1), (54, .getfield 9, 3), (57, .bipush 10, 2), (59, .iload_n 1, 1), (60, .iadd, 1), (61, .iaload, 1), (62, .aload_n 0, 1), (63, .getfield 9, 3), (66, .iconst 4, 1), (67, .iaload, 1), (68, .isub, 1), (69, .iconst 0, 1), (70, .bipush 99, 2), (72, .invokestatic 99, 3), (75, .iastore, 1), (76, .iinc 1 1, 3), (79, .goto (-40), 3), (82, .aload_n 0, 1), (83, .invokevirtual 169, 3), (86, .aload_n 0, 1), (87, .invokevirtual 172, 3), (90, .aload_n 0, 1), (91, .getfield 9, 3), (94, .iconst 2, 1), (95, .dup2, 1), (96, .iaload, 1), (97, .iconst 1, 1), (98, .iadd, 1), (99, .iastore, 1), (100, .return_, 1)]
theorem T_X10_minute_ok : gTb cX10_minute T_X10_minute = true := by decide +kernel
def F_X10_minute_L39 (Z : List gH) : Nat → Int32 → gS → Option (Int32 × gS)
  | 0, _, _ => none
  | n + 1, l1, σ => if 8 ≤ l1 then mCall (F_X10_catches Z σ) (fun r1 s2 => mCall (F_X10_blows Z s2) (fun r3 s4 => mLet (gu s4 66 2 ((s4 66 2) + 1)) (fun s5 => some (0, s5)))) else mIn 1508 (10 + l1) (mCall (F_X10_within Z ((σ 66 (nn (10 + l1))) - (σ 66 4)) 0 99 σ) (fun r6 s7 => mIn 1508 (10 + l1) (mLet (gu s7 66 (nn (10 + l1)) r6) (fun s8 => F_X10_minute_L39 Z n (l1 + 1) s8))))
def F_X10_minute_L2 (Z : List gH) : Nat → Int32 → gS → Option (Int32 × gS)
  | 0, _, _ => none
  | n + 1, l1, σ => if (σ 66 1) ≤ l1 then mCall (F_X10_evens Z σ) (fun r1 s2 => F_X10_minute_L39 Z mFuel 0 s2) else mCall (F_X10_of Z l1 3 σ) (fun r3 s4 => if r3 = 1 then mCall (F_X10_burns Z l1 s4) (fun r5 s6 => F_X10_minute_L2 Z n (l1 + 1) s6) else F_X10_minute_L2 Z n (l1 + 1) s4)
def F_X10_minute (Z : List gH) (σ : gS) : Option (Int32 × gS) := F_X10_minute_L2 Z mFuel 0 σ
set_option maxRecDepth 20000 in
set_option maxHeartbeats 4000000 in
theorem C_F_X10_minute_L39 {g : Nat → List (Nat × Value) → List Value → gS → Prop} {Z : List gH} {ad : Nat → Nat} {z : Int32 × gS}  (C : gOk g T_X10_minute RX10 2 none 5 Z ad z) (hZ : Lay Z) : ∀ (n : Nat) (l1 : Int32) (σ : gS), F_X10_minute_L39 Z n l1 σ = some z → g 39 [(0, .ref (ad 65)), (1, .int l1)] [] σ := by
  intro n
  induction n with
  | zero => intro l1 σ h; cases h
  | succ n ih =>
    intro l1 σ h
    rw [F_X10_minute_L39] at h
    refine g_iload_n C 23 1 rfl rfl ?_
    refine g_bipush (v := 8) C 24 rfl rfl ?_
    refine g_icmp_ge C 25 82 rfl rfl h (fun h => ?_) (fun h => ?_)
    · refine g_aload_n C 48 0 rfl rfl ?_
      refine g_callVv C 49 [] [] rfl (M_X10_catches hZ) cnX10_169 cwX10_catches ciX10_catches (hZ.at (i := 65) rfl) rfl rfl rfl rfl (Nat.le_of_ble_eq_true rfl) ⟨Nat.le_of_ble_eq_true rfl, Nat.le_of_ble_eq_true rfl⟩ h (fun r1 s2 h => ?_)
      refine g_aload_n C 50 0 rfl rfl ?_
      refine g_callVv C 51 [] [] rfl (M_X10_blows hZ) cnX10_172 cwX10_blows ciX10_blows (hZ.at (i := 65) rfl) rfl rfl rfl rfl (Nat.le_of_ble_eq_true rfl) ⟨Nat.le_of_ble_eq_true rfl, Nat.le_of_ble_eq_true rfl⟩ h (fun r3 s4 h => ?_)
      refine g_aload_n C 52 0 rfl rfl ?_
      refine g_getr (b := 66) C 53 rfl flX10_9 (hZ.at (i := 65) rfl) rfl ?_
      refine g_iconst (v := 2) C 54 rfl rfl ?_
      refine g_dup2 C 55 rfl rfl rfl ?_
      refine g_ialdK C 56 2 rfl (hZ.at (i := 66) rfl) rfl (vp_k rfl) ?_
      refine g_iconst (v := 1) C 57 rfl rfl ?_
      refine g_iadd C 58 rfl ?_
      refine g_iastK C 59 2 rfl (hZ.at (i := 66) rfl) rfl (vp_k rfl) h (fun s5 h => ?_)
      exact g_return C 60 rfl h
    · refine g_aload_n C 26 0 rfl rfl ?_
      refine g_getr (b := 66) C 27 rfl flX10_9 (hZ.at (i := 65) rfl) rfl ?_
      refine g_bipush (v := 10) C 28 rfl rfl ?_
      refine g_iload_n C 29 1 rfl rfl ?_
      refine g_iadd C 30 rfl ?_
      refine g_aload_n C 31 0 rfl rfl ?_
      refine g_getr (b := 66) C 32 rfl flX10_9 (hZ.at (i := 65) rfl) rfl ?_
      refine g_bipush (v := 10) C 33 rfl rfl ?_
      refine g_iload_n C 34 1 rfl rfl ?_
      refine g_iadd C 35 rfl ?_
      refine g_iald C 36 rfl (hZ.at (i := 66) rfl) h (fun h => ?_)
      refine g_aload_n C 37 0 rfl rfl ?_
      refine g_getr (b := 66) C 38 rfl flX10_9 (hZ.at (i := 65) rfl) rfl ?_
      refine g_iconst (v := 4) C 39 rfl rfl ?_
      refine g_ialdK C 40 4 rfl (hZ.at (i := 66) rfl) rfl (vp_k rfl) ?_
      refine g_isub C 41 rfl ?_
      refine g_iconst (v := 0) C 42 rfl rfl ?_
      refine g_bipush (v := 99) C 43 rfl rfl ?_
      refine g_callSi C 44 [.int ((σ 66 (nn (10 + l1))) - (σ 66 4)), .int 0, .int 99] [.int (10 + l1), .ref (ad 66)] rfl (M_X10_within hZ ((σ 66 (nn (10 + l1))) - (σ 66 4)) 0 99) cnX10_99 cwX10_within csX10_within rfl rfl rfl (Nat.le_of_ble_eq_true rfl) ⟨Nat.le_of_ble_eq_true rfl, Nat.le_of_ble_eq_true rfl⟩ h (fun r6 s7 h => ?_)
      refine g_iast C 45 rfl (hZ.at (i := 66) rfl) h (fun s8 h => ?_)
      refine g_iinc C 46 1 (l1 + 1) [(1, .int (l1 + 1)), (0, .ref (ad 65))] rfl rfl (by decide) rfl rfl ?_
      refine g_goto C 47 39 rfl rfl ?_
      refine g_sub C [1, 0] [(0, .ref (ad 65)), (1, .int (l1 + 1))] rfl ?_
      exact ih _ _ h
set_option maxRecDepth 20000 in
set_option maxHeartbeats 4000000 in
theorem C_F_X10_minute_L2 {g : Nat → List (Nat × Value) → List Value → gS → Prop} {Z : List gH} {ad : Nat → Nat} {z : Int32 × gS}  (C : gOk g T_X10_minute RX10 2 none 5 Z ad z) (hZ : Lay Z) : ∀ (n : Nat) (l1 : Int32) (σ : gS), F_X10_minute_L2 Z n l1 σ = some z → g 2 [(0, .ref (ad 65)), (1, .int l1)] [] σ := by
  intro n
  induction n with
  | zero => intro l1 σ h; cases h
  | succ n ih =>
    intro l1 σ h
    rw [F_X10_minute_L2] at h
    refine g_iload_n C 2 1 rfl rfl ?_
    refine g_aload_n C 3 0 rfl rfl ?_
    refine g_getr (b := 66) C 4 rfl flX10_9 (hZ.at (i := 65) rfl) rfl ?_
    refine g_iconst (v := 1) C 5 rfl rfl ?_
    refine g_ialdK C 6 1 rfl (hZ.at (i := 66) rfl) rfl (vp_k rfl) ?_
    refine g_icmp_ge C 7 33 rfl rfl h (fun h => ?_) (fun h => ?_)
    · refine g_aload_n C 19 0 rfl rfl ?_
      refine g_callVv C 20 [] [] rfl (M_X10_evens hZ) cnX10_166 cwX10_evens ciX10_evens (hZ.at (i := 65) rfl) rfl rfl rfl rfl (Nat.le_of_ble_eq_true rfl) ⟨Nat.le_of_ble_eq_true rfl, Nat.le_of_ble_eq_true rfl⟩ h (fun r1 s2 h => ?_)
      refine g_iconst (v := 0) C 21 rfl rfl ?_
      refine g_istore_n C 22 [(1, .int 0), (0, .ref (ad 65))] rfl (by decide) rfl ?_
      refine g_sub C [1, 0] [(0, .ref (ad 65)), (1, .int 0)] rfl ?_
      exact C_F_X10_minute_L39 C hZ _ _ _ h
    · refine g_aload_n C 8 0 rfl rfl ?_
      refine g_iload_n C 9 1 rfl rfl ?_
      refine g_iconst (v := 3) C 10 rfl rfl ?_
      refine g_callVi C 11 [.int l1, .int 3] [] rfl (M_X10_of hZ l1 3) cnX10_92 cwX10_of ciX10_of (hZ.at (i := 65) rfl) rfl rfl rfl rfl (Nat.le_of_ble_eq_true rfl) ⟨Nat.le_of_ble_eq_true rfl, Nat.le_of_ble_eq_true rfl⟩ h (fun r3 s4 h => ?_)
      refine g_iconst (v := 1) C 12 rfl rfl ?_
      refine g_icmp_ne C 13 27 rfl rfl h (fun h => ?_) (fun h => ?_)
      · refine g_iinc C 17 1 (l1 + 1) [(1, .int (l1 + 1)), (0, .ref (ad 65))] rfl rfl (by decide) rfl rfl ?_
        refine g_goto C 18 2 rfl rfl ?_
        refine g_sub C [1, 0] [(0, .ref (ad 65)), (1, .int (l1 + 1))] rfl ?_
        exact ih _ _ h
      · refine g_aload_n C 14 0 rfl rfl ?_
        refine g_iload_n C 15 1 rfl rfl ?_
        refine g_callVv C 16 [.int l1] [] rfl (M_X10_burns hZ l1) cnX10_162 cwX10_burns ciX10_burns (hZ.at (i := 65) rfl) rfl rfl rfl rfl (Nat.le_of_ble_eq_true rfl) ⟨Nat.le_of_ble_eq_true rfl, Nat.le_of_ble_eq_true rfl⟩ h (fun r5 s6 h => ?_)
        refine g_iinc C 17 1 (l1 + 1) [(1, .int (l1 + 1)), (0, .ref (ad 65))] rfl rfl (by decide) rfl rfl ?_
        refine g_goto C 18 2 rfl rfl ?_
        refine g_sub C [1, 0] [(0, .ref (ad 65)), (1, .int (l1 + 1))] rfl ?_
        exact ih _ _ h
set_option maxRecDepth 20000 in
set_option maxHeartbeats 4000000 in
theorem M_X10_minute {Z : List gH} (hZ : Lay Z) : gMet yX10_minute cX10_minute 2 none 5 Z (fun ad => [.ref (ad 65)]) (F_X10_minute Z) := by
  refine gMet_intro T_X10_minute T_X10_minute_ok rfl (fun _ => Nat.le_of_ble_eq_true rfl) (fun g ad σ z C h => ?_)
  show g 0 [(0, .ref (ad 65))] [] σ
  rw [F_X10_minute] at h
  refine g_iconst (v := 0) C 0 rfl rfl ?_
  refine g_istore_n C 1 [(1, .int 0), (0, .ref (ad 65))] rfl (by decide) rfl ?_
  refine g_sub C [1, 0] [(0, .ref (ad 65)), (1, .int 0)] rfl ?_
  exact C_F_X10_minute_L2 C hZ _ _ _ h
def T_X10_goesOn : List (Nat × Instr × Nat) := [(0, .iconst 0, 1), (1, .istore_n 2, 1), (2, .iload_n 2, 1), (3, .iload_n 1, 1), (4, .if_icmp .ge 13, 3), (7, .aload_n 0, 1), (8, .invokevirtual 175, 3), (11, .iinc 2 1, 3), (14, .goto (-12), 3), (17, .return_, 1)]
theorem T_X10_goesOn_ok : gTb cX10_goesOn T_X10_goesOn = true := by decide +kernel
def F_X10_goesOn_L2 (Z : List gH) (l1 : Int32) : Nat → Int32 → gS → Option (Int32 × gS)
  | 0, _, _ => none
  | n + 1, l2, σ => if l1 ≤ l2 then some (0, σ) else mCall (F_X10_minute Z σ) (fun r1 s2 => F_X10_goesOn_L2 Z l1 n (l2 + 1) s2)
def F_X10_goesOn (Z : List gH) (l1 : Int32) (σ : gS) : Option (Int32 × gS) := F_X10_goesOn_L2 Z l1 mFuel 0 σ
set_option maxRecDepth 20000 in
set_option maxHeartbeats 4000000 in
theorem C_F_X10_goesOn_L2 {g : Nat → List (Nat × Value) → List Value → gS → Prop} {Z : List gH} {ad : Nat → Nat} {z : Int32 × gS}  (C : gOk g T_X10_goesOn RX10 3 none 6 Z ad z) (hZ : Lay Z) (l1 : Int32) : ∀ (n : Nat) (l2 : Int32) (σ : gS), F_X10_goesOn_L2 Z l1 n l2 σ = some z → g 2 [(0, .ref (ad 65)), (1, .int l1), (2, .int l2)] [] σ := by
  intro n
  induction n with
  | zero => intro l2 σ h; cases h
  | succ n ih =>
    intro l2 σ h
    rw [F_X10_goesOn_L2] at h
    refine g_iload_n C 2 2 rfl rfl ?_
    refine g_iload_n C 3 1 rfl rfl ?_
    refine g_icmp_ge C 4 17 rfl rfl h (fun h => ?_) (fun h => ?_)
    · exact g_return C 9 rfl h
    · refine g_aload_n C 5 0 rfl rfl ?_
      refine g_callVv C 6 [] [] rfl (M_X10_minute hZ) cnX10_175 cwX10_minute ciX10_minute (hZ.at (i := 65) rfl) rfl rfl rfl rfl (Nat.le_of_ble_eq_true rfl) ⟨Nat.le_of_ble_eq_true rfl, Nat.le_of_ble_eq_true rfl⟩ h (fun r1 s2 h => ?_)
      refine g_iinc C 7 2 (l2 + 1) [(2, .int (l2 + 1)), (0, .ref (ad 65)), (1, .int l1)] rfl rfl (by decide) rfl rfl ?_
      refine g_goto C 8 2 rfl rfl ?_
      refine g_sub C [1, 2, 0] [(0, .ref (ad 65)), (1, .int l1), (2, .int (l2 + 1))] rfl ?_
      exact ih _ _ h
set_option maxRecDepth 20000 in
set_option maxHeartbeats 4000000 in
theorem M_X10_goesOn {Z : List gH} (hZ : Lay Z) (l1 : Int32) : gMet yX10_goesOn cX10_goesOn 3 none 6 Z (fun ad => [.ref (ad 65), .int l1]) (F_X10_goesOn Z l1) := by
  refine gMet_intro T_X10_goesOn T_X10_goesOn_ok rfl (fun _ => Nat.le_of_ble_eq_true rfl) (fun g ad σ z C h => ?_)
  show g 0 [(0, .ref (ad 65)), (1, .int l1)] [] σ
  rw [F_X10_goesOn] at h
  refine g_iconst (v := 0) C 0 rfl rfl ?_
  refine g_istore_n C 1 [(2, .int 0), (0, .ref (ad 65)), (1, .int l1)] rfl (by decide) rfl ?_
  refine g_sub C [1, 2, 0] [(0, .ref (ad 65)), (1, .int l1), (2, .int 0)] rfl ?_
  exact C_F_X10_goesOn_L2 C hZ _ _ _ _ h
def T_X10_minutes : List (Nat × Instr × Nat) := [(0, .iload_n 1, 1), (1, .iconst 1, 1), (2, .bipush 100, 2), (4, .invokestatic 84, 3), (7, .ifCond .ne 6, 3), (10, .ldc 115, 2), (12, .ireturn, 1), (13, .aload_n 0, 1), (14, .getfield 9, 3), (17, .bipush 6, 2), (19, .iaload, 1), (20, .istore_n 2, 1), (21, .aload_n 0, 1), (22, .sipush 9999, 3), (25, .aload_n 0, 1), (26, .getfield 9, 3), (29, .iconst 2, 1), (30, .iaload, 1), (31, .isub, 1), (32, .iconst 0, 1), (33, .iload_n 1, 1), (34, .invokestatic 99, 3), (37, .invokevirtual 178, 3), (40, .aload_n 0, 1), (41, .getfield 9, 3), (44, .bipush 6, 2), (46, .iaload, 1), (47, .iload_n 2, 1), (48, .isub, 1), (49, .ireturn, 1)]
theorem T_X10_minutes_ok : gTb cX10_minutes T_X10_minutes = true := by decide +kernel
def F_X10_minutes (Z : List gH) (l1 : Int32) (σ : gS) : Option (Int32 × gS) := mCall (F_X10_in Z l1 1 100 σ) (fun r1 s2 => if r1 = 0 then some ((-1000000001), s2) else mLet ((s2 66 6)) (fun v3 => mCall (F_X10_within Z (9999 - (s2 66 2)) 0 l1 s2) (fun r4 s5 => mCall (F_X10_goesOn Z r4 s5) (fun r6 s7 => some (((s7 66 6) - v3), s7)))))
set_option maxRecDepth 20000 in
set_option maxHeartbeats 4000000 in
theorem M_X10_minutes {Z : List gH} (hZ : Lay Z) (l1 : Int32) : gMet yX10_minutes cX10_minutes 3 (some .int) 7 Z (fun ad => [.ref (ad 65), .int l1]) (F_X10_minutes Z l1) := by
  refine gMet_intro T_X10_minutes T_X10_minutes_ok rfl (fun _ => Nat.le_of_ble_eq_true rfl) (fun g ad σ z C h => ?_)
  show g 0 [(0, .ref (ad 65)), (1, .int l1)] [] σ
  rw [F_X10_minutes] at h
  refine g_iload_n C 0 1 rfl rfl ?_
  refine g_iconst (v := 1) C 1 rfl rfl ?_
  refine g_bipush (v := 100) C 2 rfl rfl ?_
  refine g_callSi C 3 [.int l1, .int 1, .int 100] [] rfl (M_X10_in hZ l1 1 100) cnX10_84 cwX10_in csX10_in rfl rfl rfl (Nat.le_of_ble_eq_true rfl) ⟨Nat.le_of_ble_eq_true rfl, Nat.le_of_ble_eq_true rfl⟩ h (fun r1 s2 h => ?_)
  refine g_if_ne C 4 13 rfl rfl h (fun h => ?_) (fun h => ?_)
  · refine g_aload_n C 7 0 rfl rfl ?_
    refine g_getr (b := 66) C 8 rfl flX10_9 (hZ.at (i := 65) rfl) rfl ?_
    refine g_bipush (v := 6) C 9 rfl rfl ?_
    refine g_ialdK C 10 6 rfl (hZ.at (i := 66) rfl) rfl (vp_k rfl) ?_
    refine g_let h (fun v3 h => ?_)
    refine g_istore_n C 11 [(2, .int v3), (0, .ref (ad 65)), (1, .int l1)] rfl (by decide) rfl ?_
    refine g_aload_n C 12 1 rfl rfl ?_
    refine g_sipush (v := 9999) C 13 rfl rfl ?_
    refine g_aload_n C 14 1 rfl rfl ?_
    refine g_getr (b := 66) C 15 rfl flX10_9 (hZ.at (i := 65) rfl) rfl ?_
    refine g_iconst (v := 2) C 16 rfl rfl ?_
    refine g_ialdK C 17 2 rfl (hZ.at (i := 66) rfl) rfl (vp_k rfl) ?_
    refine g_isub C 18 rfl ?_
    refine g_iconst (v := 0) C 19 rfl rfl ?_
    refine g_iload_n C 20 2 rfl rfl ?_
    refine g_callSi C 21 [.int (9999 - (s2 66 2)), .int 0, .int l1] [.ref (ad 65)] rfl (M_X10_within hZ (9999 - (s2 66 2)) 0 l1) cnX10_99 cwX10_within csX10_within rfl rfl rfl (Nat.le_of_ble_eq_true rfl) ⟨Nat.le_of_ble_eq_true rfl, Nat.le_of_ble_eq_true rfl⟩ h (fun r4 s5 h => ?_)
    refine g_callVv C 22 [.int r4] [] rfl (M_X10_goesOn hZ r4) cnX10_178 cwX10_goesOn ciX10_goesOn (hZ.at (i := 65) rfl) rfl rfl rfl rfl (Nat.le_of_ble_eq_true rfl) ⟨Nat.le_of_ble_eq_true rfl, Nat.le_of_ble_eq_true rfl⟩ h (fun r6 s7 h => ?_)
    refine g_aload_n C 23 1 rfl rfl ?_
    refine g_getr (b := 66) C 24 rfl flX10_9 (hZ.at (i := 65) rfl) rfl ?_
    refine g_bipush (v := 6) C 25 rfl rfl ?_
    refine g_ialdK C 26 6 rfl (hZ.at (i := 66) rfl) rfl (vp_k rfl) ?_
    refine g_iload_n C 27 0 rfl rfl ?_
    refine g_isub C 28 rfl ?_
    exact g_ireturn C 29 rfl h
  · refine g_ldc C 5 rfl kcX10_115 ?_
    exact g_ireturn C 6 rfl h
def T_X10_allHeat : List (Nat × Instr × Nat) := [(0, .iconst 0, 1), (1, .istore_n 1, 1), (2, .iconst 0, 1), (3, .istore_n 2, 1), (4, .iload_n 2, 1), (5, .bipush 8, 2), (7, .if_icmp .ge 21, 3), (10, .iload_n 1, 1), (11, .aload_n 0, 1), (12, .getfield 9, 3), (15, .bipush 10, 2), (17, .iload_n 2, 1), (18, .iadd, 1), (19, .iaload, 1), (20, .iadd, 1), (21, .istore_n 1, 1), (22, .iinc 2 1, 3), (25, .goto (-21), 3), (28, .iload_n 1, 1), (29, .ireturn, 1)]
theorem T_X10_allHeat_ok : gTb cX10_allHeat T_X10_allHeat = true := by decide +kernel
def F_X10_allHeat_L4 (Z : List gH) : Nat → Int32 → Int32 → gS → Option (Int32 × gS)
  | 0, _, _, _ => none
  | n + 1, l1, l2, σ => if 8 ≤ l2 then some (l1, σ) else mIn 1508 (10 + l2) (mLet ((l1 + (σ 66 (nn (10 + l2))))) (fun v1 => F_X10_allHeat_L4 Z n v1 (l2 + 1) σ))
def F_X10_allHeat (Z : List gH) (σ : gS) : Option (Int32 × gS) := F_X10_allHeat_L4 Z mFuel 0 0 σ
set_option maxRecDepth 20000 in
set_option maxHeartbeats 4000000 in
theorem C_F_X10_allHeat_L4 {g : Nat → List (Nat × Value) → List Value → gS → Prop} {Z : List gH} {ad : Nat → Nat} {z : Int32 × gS}  (C : gOk g T_X10_allHeat RX10 3 (some .int) 1 Z ad z) (hZ : Lay Z) : ∀ (n : Nat) (l1 : Int32) (l2 : Int32) (σ : gS), F_X10_allHeat_L4 Z n l1 l2 σ = some z → g 4 [(0, .ref (ad 65)), (1, .int l1), (2, .int l2)] [] σ := by
  intro n
  induction n with
  | zero => intro l1 l2 σ h; cases h
  | succ n ih =>
    intro l1 l2 σ h
    rw [F_X10_allHeat_L4] at h
    refine g_iload_n C 4 2 rfl rfl ?_
    refine g_bipush (v := 8) C 5 rfl rfl ?_
    refine g_icmp_ge C 6 28 rfl rfl h (fun h => ?_) (fun h => ?_)
    · refine g_iload_n C 18 1 rfl rfl ?_
      exact g_ireturn C 19 rfl h
    · refine g_iload_n C 7 1 rfl rfl ?_
      refine g_aload_n C 8 0 rfl rfl ?_
      refine g_getr (b := 66) C 9 rfl flX10_9 (hZ.at (i := 65) rfl) rfl ?_
      refine g_bipush (v := 10) C 10 rfl rfl ?_
      refine g_iload_n C 11 2 rfl rfl ?_
      refine g_iadd C 12 rfl ?_
      refine g_iald C 13 rfl (hZ.at (i := 66) rfl) h (fun h => ?_)
      refine g_iadd C 14 rfl ?_
      refine g_let h (fun v1 h => ?_)
      refine g_istore_n C 15 [(1, .int v1), (0, .ref (ad 65)), (2, .int l2)] rfl (by decide) rfl ?_
      refine g_iinc C 16 2 (l2 + 1) [(2, .int (l2 + 1)), (1, .int v1), (0, .ref (ad 65))] rfl rfl (by decide) rfl rfl ?_
      refine g_goto C 17 4 rfl rfl ?_
      refine g_sub C [2, 1, 0] [(0, .ref (ad 65)), (1, .int v1), (2, .int (l2 + 1))] rfl ?_
      exact ih _ _ _ h
set_option maxRecDepth 20000 in
set_option maxHeartbeats 4000000 in
theorem M_X10_allHeat {Z : List gH} (hZ : Lay Z) : gMet yX10_allHeat cX10_allHeat 3 (some .int) 1 Z (fun ad => [.ref (ad 65)]) (F_X10_allHeat Z) := by
  refine gMet_intro T_X10_allHeat T_X10_allHeat_ok rfl (fun _ => Nat.le_of_ble_eq_true rfl) (fun g ad σ z C h => ?_)
  show g 0 [(0, .ref (ad 65))] [] σ
  rw [F_X10_allHeat] at h
  refine g_iconst (v := 0) C 0 rfl rfl ?_
  refine g_istore_n C 1 [(1, .int 0), (0, .ref (ad 65))] rfl (by decide) rfl ?_
  refine g_iconst (v := 0) C 2 rfl rfl ?_
  refine g_istore_n C 3 [(2, .int 0), (1, .int 0), (0, .ref (ad 65))] rfl (by decide) rfl ?_
  refine g_sub C [2, 1, 0] [(0, .ref (ad 65)), (1, .int 0), (2, .int 0)] rfl ?_
  exact C_F_X10_allHeat_L4 C hZ _ _ _ _ h
def T_X10_lit : List (Nat × Instr × Nat) := [(0, .iconst 0, 1), (1, .istore_n 1, 1), (2, .iconst 0, 1), (3, .istore_n 2, 1), (4, .iload_n 2, 1), (5, .aload_n 0, 1), (6, .getfield 9, 3), (9, .iconst 1, 1), (10, .iaload, 1), (11, .if_icmp .ge 20, 3), (14, .iload_n 1, 1), (15, .aload_n 0, 1), (16, .iload_n 2, 1), (17, .iconst 3, 1), (18, .invokevirtual 92, 3), (21, .iload_n 2, 1), (22, .ishl, 1), (23, .ior, 1), (24, .istore_n 1, 1), (25, .iinc 2 1, 3), (28, .goto (-24), 3), (31, .iload_n 1, 1), (32, .ireturn, 1)]
theorem T_X10_lit_ok : gTb cX10_lit T_X10_lit = true := by decide +kernel
def F_X10_lit_L4 (Z : List gH) : Nat → Int32 → Int32 → gS → Option (Int32 × gS)
  | 0, _, _, _ => none
  | n + 1, l1, l2, σ => if (σ 66 1) ≤ l2 then some (l1, σ) else mCall (F_X10_of Z l2 3 σ) (fun r1 s2 => mLet ((l1 ||| (r1 <<< (l2 &&& 31)))) (fun v3 => F_X10_lit_L4 Z n v3 (l2 + 1) s2))
def F_X10_lit (Z : List gH) (σ : gS) : Option (Int32 × gS) := F_X10_lit_L4 Z mFuel 0 0 σ
set_option maxRecDepth 20000 in
set_option maxHeartbeats 4000000 in
theorem C_F_X10_lit_L4 {g : Nat → List (Nat × Value) → List Value → gS → Prop} {Z : List gH} {ad : Nat → Nat} {z : Int32 × gS}  (C : gOk g T_X10_lit RX10 3 (some .int) 2 Z ad z) (hZ : Lay Z) : ∀ (n : Nat) (l1 : Int32) (l2 : Int32) (σ : gS), F_X10_lit_L4 Z n l1 l2 σ = some z → g 4 [(0, .ref (ad 65)), (1, .int l1), (2, .int l2)] [] σ := by
  intro n
  induction n with
  | zero => intro l1 l2 σ h; cases h
  | succ n ih =>
    intro l1 l2 σ h
    rw [F_X10_lit_L4] at h
    refine g_iload_n C 4 2 rfl rfl ?_
    refine g_aload_n C 5 0 rfl rfl ?_
    refine g_getr (b := 66) C 6 rfl flX10_9 (hZ.at (i := 65) rfl) rfl ?_
    refine g_iconst (v := 1) C 7 rfl rfl ?_
    refine g_ialdK C 8 1 rfl (hZ.at (i := 66) rfl) rfl (vp_k rfl) ?_
    refine g_icmp_ge C 9 31 rfl rfl h (fun h => ?_) (fun h => ?_)
    · refine g_iload_n C 21 1 rfl rfl ?_
      exact g_ireturn C 22 rfl h
    · refine g_iload_n C 10 1 rfl rfl ?_
      refine g_aload_n C 11 0 rfl rfl ?_
      refine g_iload_n C 12 2 rfl rfl ?_
      refine g_iconst (v := 3) C 13 rfl rfl ?_
      refine g_callVi C 14 [.int l2, .int 3] [.int l1] rfl (M_X10_of hZ l2 3) cnX10_92 cwX10_of ciX10_of (hZ.at (i := 65) rfl) rfl rfl rfl rfl (Nat.le_of_ble_eq_true rfl) ⟨Nat.le_of_ble_eq_true rfl, Nat.le_of_ble_eq_true rfl⟩ h (fun r1 s2 h => ?_)
      refine g_iload_n C 15 2 rfl rfl ?_
      refine g_ishl C 16 rfl ?_
      refine g_ior C 17 rfl ?_
      refine g_let h (fun v3 h => ?_)
      refine g_istore_n C 18 [(1, .int v3), (0, .ref (ad 65)), (2, .int l2)] rfl (by decide) rfl ?_
      refine g_iinc C 19 2 (l2 + 1) [(2, .int (l2 + 1)), (1, .int v3), (0, .ref (ad 65))] rfl rfl (by decide) rfl rfl ?_
      refine g_goto C 20 4 rfl rfl ?_
      refine g_sub C [2, 1, 0] [(0, .ref (ad 65)), (1, .int v3), (2, .int (l2 + 1))] rfl ?_
      exact ih _ _ _ h
set_option maxRecDepth 20000 in
set_option maxHeartbeats 4000000 in
theorem M_X10_lit {Z : List gH} (hZ : Lay Z) : gMet yX10_lit cX10_lit 3 (some .int) 2 Z (fun ad => [.ref (ad 65)]) (F_X10_lit Z) := by
  refine gMet_intro T_X10_lit T_X10_lit_ok rfl (fun _ => Nat.le_of_ble_eq_true rfl) (fun g ad σ z C h => ?_)
  show g 0 [(0, .ref (ad 65))] [] σ
  rw [F_X10_lit] at h
  refine g_iconst (v := 0) C 0 rfl rfl ?_
  refine g_istore_n C 1 [(1, .int 0), (0, .ref (ad 65))] rfl (by decide) rfl ?_
  refine g_iconst (v := 0) C 2 rfl rfl ?_
  refine g_istore_n C 3 [(2, .int 0), (1, .int 0), (0, .ref (ad 65))] rfl (by decide) rfl ?_
  refine g_sub C [2, 1, 0] [(0, .ref (ad 65)), (1, .int 0), (2, .int 0)] rfl ?_
  exact C_F_X10_lit_L4 C hZ _ _ _ _ h
def T_X10_house : List (Nat × Instr × Nat) := [(0, .iload_n 1, 1), (1, .tableswitch 66 0 5 #[39, 39, 39, 49, 54, 59], 39), (40, .aload_n 0, 1), (41, .getfield 9, 3), (44, .bipush 6, 2), (46, .iload_n 1, 1), (47, .iadd, 1), (48, .iaload, 1), (49, .ireturn, 1), (50, .aload_n 0, 1), (51, .invokevirtual 181, 3), (54, .ireturn, 1), (55, .aload_n 0, 1), (56, .invokevirtual 184, 3), (59, .ireturn, 1), (60, .aload_n 0, 1), (61, .getfield 9, 3), (64, .iconst 5, 1), (65, .iaload, 1), (66, .ireturn, 1), (67, .ldc 115, 2), (69, .ireturn, 1)]
theorem T_X10_house_ok : gTb cX10_house T_X10_house = true := by decide +kernel
def F_X10_house (Z : List gH) (l1 : Int32) (σ : gS) : Option (Int32 × gS) := if l1 = 0 then mIn 1508 (6 + l1) (some ((σ 66 (nn (6 + l1))), σ)) else if l1 = 1 then mIn 1508 (6 + l1) (some ((σ 66 (nn (6 + l1))), σ)) else if l1 = 2 then mIn 1508 (6 + l1) (some ((σ 66 (nn (6 + l1))), σ)) else if l1 = 3 then mCall (F_X10_lit Z σ) (fun r1 s2 => some (r1, s2)) else if l1 = 4 then mCall (F_X10_allHeat Z σ) (fun r3 s4 => some (r3, s4)) else if l1 = 5 then some ((σ 66 5), σ) else some ((-1000000001), σ)
set_option maxRecDepth 20000 in
set_option maxHeartbeats 4000000 in
theorem M_X10_house {Z : List gH} (hZ : Lay Z) (l1 : Int32) : gMet yX10_house cX10_house 2 (some .int) 3 Z (fun ad => [.ref (ad 65), .int l1]) (F_X10_house Z l1) := by
  refine gMet_intro T_X10_house T_X10_house_ok rfl (fun _ => Nat.le_of_ble_eq_true rfl) (fun g ad σ z C h => ?_)
  show g 0 [(0, .ref (ad 65)), (1, .int l1)] [] σ
  rw [F_X10_house] at h
  refine g_iload_n C 0 1 rfl rfl ?_
  by_cases hx0_0 : l1 = 0
  · rw [if_pos hx0_0] at h
    refine g_tblAt C 1 0 hx0_0 40 rfl (by decide) (by decide) rfl rfl ?_
    refine g_aload_n C 2 0 rfl rfl ?_
    refine g_getr (b := 66) C 3 rfl flX10_9 (hZ.at (i := 65) rfl) rfl ?_
    refine g_bipush (v := 6) C 4 rfl rfl ?_
    refine g_iload_n C 5 1 rfl rfl ?_
    refine g_iadd C 6 rfl ?_
    refine g_iald C 7 rfl (hZ.at (i := 66) rfl) h (fun h => ?_)
    exact g_ireturn C 8 rfl h
  · rw [if_neg hx0_0] at h
    by_cases hx0_1 : l1 = 1
    · rw [if_pos hx0_1] at h
      refine g_tblAt C 1 1 hx0_1 40 rfl (by decide) (by decide) rfl rfl ?_
      refine g_aload_n C 2 0 rfl rfl ?_
      refine g_getr (b := 66) C 3 rfl flX10_9 (hZ.at (i := 65) rfl) rfl ?_
      refine g_bipush (v := 6) C 4 rfl rfl ?_
      refine g_iload_n C 5 1 rfl rfl ?_
      refine g_iadd C 6 rfl ?_
      refine g_iald C 7 rfl (hZ.at (i := 66) rfl) h (fun h => ?_)
      exact g_ireturn C 8 rfl h
    · rw [if_neg hx0_1] at h
      by_cases hx0_2 : l1 = 2
      · rw [if_pos hx0_2] at h
        refine g_tblAt C 1 2 hx0_2 40 rfl (by decide) (by decide) rfl rfl ?_
        refine g_aload_n C 2 0 rfl rfl ?_
        refine g_getr (b := 66) C 3 rfl flX10_9 (hZ.at (i := 65) rfl) rfl ?_
        refine g_bipush (v := 6) C 4 rfl rfl ?_
        refine g_iload_n C 5 1 rfl rfl ?_
        refine g_iadd C 6 rfl ?_
        refine g_iald C 7 rfl (hZ.at (i := 66) rfl) h (fun h => ?_)
        exact g_ireturn C 8 rfl h
      · rw [if_neg hx0_2] at h
        by_cases hx0_3 : l1 = 3
        · rw [if_pos hx0_3] at h
          refine g_tblAt C 1 3 hx0_3 50 rfl (by decide) (by decide) rfl rfl ?_
          refine g_aload_n C 9 0 rfl rfl ?_
          refine g_callVi C 10 [] [] rfl (M_X10_lit hZ) cnX10_181 cwX10_lit ciX10_lit (hZ.at (i := 65) rfl) rfl rfl rfl rfl (Nat.le_of_ble_eq_true rfl) ⟨Nat.le_of_ble_eq_true rfl, Nat.le_of_ble_eq_true rfl⟩ h (fun r1 s2 h => ?_)
          exact g_ireturn C 11 rfl h
        · rw [if_neg hx0_3] at h
          by_cases hx2_4 : l1 = 4
          · rw [if_pos hx2_4] at h
            refine g_tblAt C 1 4 hx2_4 55 rfl (by decide) (by decide) rfl rfl ?_
            refine g_aload_n C 12 0 rfl rfl ?_
            refine g_callVi C 13 [] [] rfl (M_X10_allHeat hZ) cnX10_184 cwX10_allHeat ciX10_allHeat (hZ.at (i := 65) rfl) rfl rfl rfl rfl (Nat.le_of_ble_eq_true rfl) ⟨Nat.le_of_ble_eq_true rfl, Nat.le_of_ble_eq_true rfl⟩ h (fun r3 s4 h => ?_)
            exact g_ireturn C 14 rfl h
          · rw [if_neg hx2_4] at h
            by_cases hx4_5 : l1 = 5
            · rw [if_pos hx4_5] at h
              refine g_tblAt C 1 5 hx4_5 60 rfl (by decide) (by decide) rfl rfl ?_
              refine g_aload_n C 15 0 rfl rfl ?_
              refine g_getr (b := 66) C 16 rfl flX10_9 (hZ.at (i := 65) rfl) rfl ?_
              refine g_iconst (v := 5) C 17 rfl rfl ?_
              refine g_ialdK C 18 5 rfl (hZ.at (i := 66) rfl) rfl (vp_k rfl) ?_
              exact g_ireturn C 19 rfl h
            · rw [if_neg hx4_5] at h
              refine g_tblOut C 1 67 rfl (by have e0 := i32ne hx0_0 0 rfl; have e1 := i32ne hx0_1 1 rfl; have e2 := i32ne hx0_2 2 rfl; have e3 := i32ne hx0_3 3 rfl; have e4 := i32ne hx2_4 4 rfl; have e5 := i32ne hx4_5 5 rfl; omega) rfl ?_
              refine g_ldc C 20 rfl kcX10_115 ?_
              exact g_ireturn C 21 rfl h
def T_X10_copyAll : List (Nat × Instr × Nat) := [(0, .iconst 0, 1), (1, .istore_n 2, 1), (2, .iload_n 2, 1), (3, .sipush 1508, 3), (6, .if_icmp .ge 15, 3), (9, .aload_n 1, 1), (10, .iload_n 2, 1), (11, .aload_n 0, 1), (12, .iload_n 2, 1), (13, .iaload, 1), (14, .iastore, 1), (15, .iinc 2 1, 3), (18, .goto (-16), 3), (21, .return_, 1)]
theorem T_X10_copyAll_ok : gTb cX10_copyAll T_X10_copyAll = true := by decide +kernel
def F_X10_copyAll_L2 (Z : List gH) (l0 : Nat) (l1 : Nat) : Nat → Int32 → gS → Option (Int32 × gS)
  | 0, _, _ => none
  | n + 1, l2, σ => if 1508 ≤ l2 then some (0, σ) else mIn (zl Z l0) l2 (mIn (zl Z l1) l2 (mLet (gu σ l1 (nn l2) (σ l0 (nn l2))) (fun s1 => F_X10_copyAll_L2 Z l0 l1 n (l2 + 1) s1)))
def F_X10_copyAll (Z : List gH) (l0 : Nat) (l1 : Nat) (σ : gS) : Option (Int32 × gS) := F_X10_copyAll_L2 Z l0 l1 mFuel 0 σ
set_option maxRecDepth 20000 in
set_option maxHeartbeats 4000000 in
theorem C_F_X10_copyAll_L2 {g : Nat → List (Nat × Value) → List Value → gS → Prop} {Z : List gH} {ad : Nat → Nat} {z : Int32 × gS}  (C : gOk g T_X10_copyAll RX10 3 none 1 Z ad z) (hZ : Lay Z) (l0 : Nat) (hl0 : IA Z l0) (l1 : Nat) (hl1 : IA Z l1) : ∀ (n : Nat) (l2 : Int32) (σ : gS), F_X10_copyAll_L2 Z l0 l1 n l2 σ = some z → g 2 [(0, .ref (ad l0)), (1, .ref (ad l1)), (2, .int l2)] [] σ := by
  intro n
  induction n with
  | zero => intro l2 σ h; cases h
  | succ n ih =>
    intro l2 σ h
    rw [F_X10_copyAll_L2] at h
    refine g_iload_n C 2 2 rfl rfl ?_
    refine g_sipush (v := 1508) C 3 rfl rfl ?_
    refine g_icmp_ge C 4 21 rfl rfl h (fun h => ?_) (fun h => ?_)
    · exact g_return C 13 rfl h
    · refine g_aload_n C 5 1 rfl rfl ?_
      refine g_iload_n C 6 2 rfl rfl ?_
      refine g_aload_n C 7 0 rfl rfl ?_
      refine g_iload_n C 8 2 rfl rfl ?_
      refine g_iald C 9 rfl hl0 h (fun h => ?_)
      refine g_iast C 10 rfl hl1 h (fun s1 h => ?_)
      refine g_iinc C 11 2 (l2 + 1) [(2, .int (l2 + 1)), (0, .ref (ad l0)), (1, .ref (ad l1))] rfl rfl (by decide) rfl rfl ?_
      refine g_goto C 12 2 rfl rfl ?_
      refine g_sub C [1, 2, 0] [(0, .ref (ad l0)), (1, .ref (ad l1)), (2, .int (l2 + 1))] rfl ?_
      exact ih _ _ h
set_option maxRecDepth 20000 in
set_option maxHeartbeats 4000000 in
theorem M_X10_copyAll {Z : List gH} (hZ : Lay Z) (l0 : Nat) (hl0 : IA Z l0) (l1 : Nat) (hl1 : IA Z l1) : gMet yX10_copyAll cX10_copyAll 3 none 1 Z (fun ad => [.ref (ad l0), .ref (ad l1)]) (F_X10_copyAll Z l0 l1) := by
  refine gMet_intro T_X10_copyAll T_X10_copyAll_ok rfl (fun _ => Nat.le_of_ble_eq_true rfl) (fun g ad σ z C h => ?_)
  show g 0 [(0, .ref (ad l0)), (1, .ref (ad l1))] [] σ
  rw [F_X10_copyAll] at h
  refine g_iconst (v := 0) C 0 rfl rfl ?_
  refine g_istore_n C 1 [(2, .int 0), (0, .ref (ad l0)), (1, .ref (ad l1))] rfl (by decide) rfl ?_
  refine g_sub C [1, 2, 0] [(0, .ref (ad l0)), (1, .ref (ad l1)), (2, .int 0)] rfl ?_
  exact C_F_X10_copyAll_L2 C hZ _ hl0 _ hl1 _ _ _ h
def T_X10_thinks : List (Nat × Instr × Nat) := [(0, .aload_n 0, 1), (1, .getfield 9, 3), (4, .aload_n 0, 1), (5, .getfield 25, 3), (8, .invokestatic 187, 3), (11, .return_, 1)]
theorem T_X10_thinks_ok : gTb cX10_thinks T_X10_thinks = true := by decide +kernel
def F_X10_thinks (Z : List gH) (σ : gS) : Option (Int32 × gS) := mCall (F_X10_copyAll Z 66 71 σ) (fun r1 s2 => some (0, s2))
set_option maxRecDepth 20000 in
set_option maxHeartbeats 4000000 in
theorem M_X10_thinks {Z : List gH} (hZ : Lay Z) : gMet yX10_thinks cX10_thinks 1 none 2 Z (fun ad => [.ref (ad 65)]) (F_X10_thinks Z) := by
  refine gMet_intro T_X10_thinks T_X10_thinks_ok rfl (fun _ => Nat.le_of_ble_eq_true rfl) (fun g ad σ z C h => ?_)
  show g 0 [(0, .ref (ad 65))] [] σ
  rw [F_X10_thinks] at h
  refine g_aload_n C 0 0 rfl rfl ?_
  refine g_getr (b := 66) C 1 rfl flX10_9 (hZ.at (i := 65) rfl) rfl ?_
  refine g_aload_n C 2 0 rfl rfl ?_
  refine g_getr (b := 71) C 3 rfl flX10_25 (hZ.at (i := 65) rfl) rfl ?_
  refine g_callSv C 4 [.ref (ad 66), .ref (ad 71)] [] rfl (M_X10_copyAll hZ 66 (ia_of (hZ.at (i := 66) rfl)) 71 (ia_of (hZ.at (i := 71) rfl))) cnX10_187 cwX10_copyAll csX10_copyAll rfl rfl rfl (Nat.le_of_ble_eq_true rfl) ⟨Nat.le_of_ble_eq_true rfl, Nat.le_of_ble_eq_true rfl⟩ h (fun r1 s2 h => ?_)
  exact g_return C 5 rfl h
def T_X10_putsBack : List (Nat × Instr × Nat) := [(0, .aload_n 0, 1), (1, .getfield 25, 3), (4, .aload_n 0, 1), (5, .getfield 9, 3), (8, .invokestatic 187, 3), (11, .return_, 1)]
theorem T_X10_putsBack_ok : gTb cX10_putsBack T_X10_putsBack = true := by decide +kernel
def F_X10_putsBack (Z : List gH) (σ : gS) : Option (Int32 × gS) := mCall (F_X10_copyAll Z 71 66 σ) (fun r1 s2 => some (0, s2))
set_option maxRecDepth 20000 in
set_option maxHeartbeats 4000000 in
theorem M_X10_putsBack {Z : List gH} (hZ : Lay Z) : gMet yX10_putsBack cX10_putsBack 1 none 2 Z (fun ad => [.ref (ad 65)]) (F_X10_putsBack Z) := by
  refine gMet_intro T_X10_putsBack T_X10_putsBack_ok rfl (fun _ => Nat.le_of_ble_eq_true rfl) (fun g ad σ z C h => ?_)
  show g 0 [(0, .ref (ad 65))] [] σ
  rw [F_X10_putsBack] at h
  refine g_aload_n C 0 0 rfl rfl ?_
  refine g_getr (b := 71) C 1 rfl flX10_25 (hZ.at (i := 65) rfl) rfl ?_
  refine g_aload_n C 2 0 rfl rfl ?_
  refine g_getr (b := 66) C 3 rfl flX10_9 (hZ.at (i := 65) rfl) rfl ?_
  refine g_callSv C 4 [.ref (ad 71), .ref (ad 66)] [] rfl (M_X10_copyAll hZ 71 (ia_of (hZ.at (i := 71) rfl)) 66 (ia_of (hZ.at (i := 66) rfl))) cnX10_187 cwX10_copyAll csX10_copyAll rfl rfl rfl (Nat.le_of_ble_eq_true rfl) ⟨Nat.le_of_ble_eq_true rfl, Nat.le_of_ble_eq_true rfl⟩ h (fun r1 s2 h => ?_)
  exact g_return C 5 rfl h
def T_X10_behind : List (Nat × Instr × Nat) := [(0, .iload_n 1, 1), (1, .iconst 0, 1), (2, .bipush 100, 2), (4, .invokestatic 84, 3), (7, .ifCond .eq 13, 3), (10, .iload_n 2, 1), (11, .iconst 0, 1), (12, .bipush 11, 2), (14, .invokestatic 84, 3), (17, .ifCond .ne 6, 3), (20, .ldc 115, 2), (22, .ireturn, 1), (23, .aload_n 0, 1), (24, .invokevirtual 191, 3), (27, .aload_n 0, 1), (28, .iload_n 1, 1), (29, .invokevirtual 178, 3), (32, .iload_n 2, 1), (33, .iconst 2, 1), (34, .if_icmp .ge 15, 3), (37, .aload_n 0, 1), (38, .getfield 9, 3), (41, .bipush 6, 2), (43, .iload_n 2, 1), (44, .iadd, 1), (45, .iaload, 1), (46, .goto 38, 3), (49, .iload_n 2, 1), (50, .iconst 2, 1), (51, .if_icmp .ne 10, 3), (54, .aload_n 0, 1), (55, .invokevirtual 181, 3), (58, .goto 26, 3), (61, .iload_n 2, 1), (62, .iconst 3, 1), (63, .if_icmp .ne 10, 3), (66, .aload_n 0, 1), (67, .invokevirtual 184, 3), (70, .goto 14, 3), (73, .aload_n 0, 1), (74, .getfield 9, 3), (77, .bipush 10, 2), (79, .iload_n 2, 1), (80, .iadd, 1), (81, .iconst 4, 1), (82, .isub, 1), (83, .iaload, 1), (84, .istore_n 3, 1), (85, .aload_n 0, 1), (86, .invokevirtual 194, 3), (89, .iload_n 3, 1), (90, .ireturn, 1)]
theorem T_X10_behind_ok : gTb cX10_behind T_X10_behind = true := by decide +kernel
def F_X10_behind_J84 (Z : List gH) (t0 : Int32) (σ : gS) : Option (Int32 × gS) := mCall (F_X10_putsBack Z σ) (fun r1 s2 => some (t0, s2))
def F_X10_behind (Z : List gH) (l1 : Int32) (l2 : Int32) (σ : gS) : Option (Int32 × gS) := mCall (F_X10_in Z l1 0 100 σ) (fun r1 s2 => if r1 = 0 then some ((-1000000001), s2) else mCall (F_X10_in Z l2 0 11 s2) (fun r3 s4 => if r3 = 0 then some ((-1000000001), s4) else mCall (F_X10_thinks Z s4) (fun r5 s6 => mCall (F_X10_goesOn Z l1 s6) (fun r7 s8 => if 2 ≤ l2 then if l2 = 2 then mCall (F_X10_lit Z s8) (fun r11 s12 => F_X10_behind_J84 Z r11 s12) else if l2 = 3 then mCall (F_X10_allHeat Z s8) (fun r9 s10 => F_X10_behind_J84 Z r9 s10) else mIn 1508 ((10 + l2) - 4) (F_X10_behind_J84 Z (s8 66 (nn ((10 + l2) - 4))) s8) else mIn 1508 (6 + l2) (F_X10_behind_J84 Z (s8 66 (nn (6 + l2))) s8)))))
set_option maxRecDepth 20000 in
set_option maxHeartbeats 4000000 in
theorem C_F_X10_behind_J84 {g : Nat → List (Nat × Value) → List Value → gS → Prop} {Z : List gH} {ad : Nat → Nat} {z : Int32 × gS}  (C : gOk g T_X10_behind RX10 4 (some .int) 7 Z ad z) (hZ : Lay Z) (t0 : Int32) (σ : gS) (h : F_X10_behind_J84 Z t0 σ = some z) : g 84 [(0, .ref (ad 65))] [.int t0] σ := by
  rw [F_X10_behind_J84] at h
  refine g_istore_n C 47 [(3, .int t0), (0, .ref (ad 65))] rfl (by decide) rfl ?_
  refine g_aload_n C 48 1 rfl rfl ?_
  refine g_callVv C 49 [] [] rfl (M_X10_putsBack hZ) cnX10_194 cwX10_putsBack ciX10_putsBack (hZ.at (i := 65) rfl) rfl rfl rfl rfl (Nat.le_of_ble_eq_true rfl) ⟨Nat.le_of_ble_eq_true rfl, Nat.le_of_ble_eq_true rfl⟩ h (fun r1 s2 h => ?_)
  refine g_iload_n C 50 0 rfl rfl ?_
  exact g_ireturn C 51 rfl h
set_option maxRecDepth 20000 in
set_option maxHeartbeats 4000000 in
theorem M_X10_behind {Z : List gH} (hZ : Lay Z) (l1 : Int32) (l2 : Int32) : gMet yX10_behind cX10_behind 4 (some .int) 7 Z (fun ad => [.ref (ad 65), .int l1, .int l2]) (F_X10_behind Z l1 l2) := by
  refine gMet_intro T_X10_behind T_X10_behind_ok rfl (fun _ => Nat.le_of_ble_eq_true rfl) (fun g ad σ z C h => ?_)
  show g 0 [(0, .ref (ad 65)), (1, .int l1), (2, .int l2)] [] σ
  rw [F_X10_behind] at h
  refine g_iload_n C 0 1 rfl rfl ?_
  refine g_iconst (v := 0) C 1 rfl rfl ?_
  refine g_bipush (v := 100) C 2 rfl rfl ?_
  refine g_callSi C 3 [.int l1, .int 0, .int 100] [] rfl (M_X10_in hZ l1 0 100) cnX10_84 cwX10_in csX10_in rfl rfl rfl (Nat.le_of_ble_eq_true rfl) ⟨Nat.le_of_ble_eq_true rfl, Nat.le_of_ble_eq_true rfl⟩ h (fun r1 s2 h => ?_)
  refine g_if_eq C 4 20 rfl rfl h (fun h => ?_) (fun h => ?_)
  · refine g_ldc C 10 rfl kcX10_115 ?_
    exact g_ireturn C 11 rfl h
  · refine g_iload_n C 5 2 rfl rfl ?_
    refine g_iconst (v := 0) C 6 rfl rfl ?_
    refine g_bipush (v := 11) C 7 rfl rfl ?_
    refine g_callSi C 8 [.int l2, .int 0, .int 11] [] rfl (M_X10_in hZ l2 0 11) cnX10_84 cwX10_in csX10_in rfl rfl rfl (Nat.le_of_ble_eq_true rfl) ⟨Nat.le_of_ble_eq_true rfl, Nat.le_of_ble_eq_true rfl⟩ h (fun r3 s4 h => ?_)
    refine g_if_ne C 9 23 rfl rfl h (fun h => ?_) (fun h => ?_)
    · refine g_aload_n C 12 0 rfl rfl ?_
      refine g_callVv C 13 [] [] rfl (M_X10_thinks hZ) cnX10_191 cwX10_thinks ciX10_thinks (hZ.at (i := 65) rfl) rfl rfl rfl rfl (Nat.le_of_ble_eq_true rfl) ⟨Nat.le_of_ble_eq_true rfl, Nat.le_of_ble_eq_true rfl⟩ h (fun r5 s6 h => ?_)
      refine g_aload_n C 14 0 rfl rfl ?_
      refine g_iload_n C 15 1 rfl rfl ?_
      refine g_callVv C 16 [.int l1] [] rfl (M_X10_goesOn hZ l1) cnX10_178 cwX10_goesOn ciX10_goesOn (hZ.at (i := 65) rfl) rfl rfl rfl rfl (Nat.le_of_ble_eq_true rfl) ⟨Nat.le_of_ble_eq_true rfl, Nat.le_of_ble_eq_true rfl⟩ h (fun r7 s8 h => ?_)
      refine g_iload_n C 17 2 rfl rfl ?_
      refine g_iconst (v := 2) C 18 rfl rfl ?_
      refine g_icmp_ge C 19 49 rfl rfl h (fun h => ?_) (fun h => ?_)
      · refine g_iload_n C 27 2 rfl rfl ?_
        refine g_iconst (v := 2) C 28 rfl rfl ?_
        refine g_icmp_ne C 29 61 rfl rfl h (fun h => ?_) (fun h => ?_)
        · refine g_iload_n C 33 2 rfl rfl ?_
          refine g_iconst (v := 3) C 34 rfl rfl ?_
          refine g_icmp_ne C 35 73 rfl rfl h (fun h => ?_) (fun h => ?_)
          · refine g_aload_n C 39 0 rfl rfl ?_
            refine g_getr (b := 66) C 40 rfl flX10_9 (hZ.at (i := 65) rfl) rfl ?_
            refine g_bipush (v := 10) C 41 rfl rfl ?_
            refine g_iload_n C 42 2 rfl rfl ?_
            refine g_iadd C 43 rfl ?_
            refine g_iconst (v := 4) C 44 rfl rfl ?_
            refine g_isub C 45 rfl ?_
            refine g_iald C 46 rfl (hZ.at (i := 66) rfl) h (fun h => ?_)
            refine g_sub C [0] [(0, .ref (ad 65))] rfl ?_
            exact C_F_X10_behind_J84 C hZ _ _ h
          · refine g_aload_n C 36 0 rfl rfl ?_
            refine g_callVi C 37 [] [] rfl (M_X10_allHeat hZ) cnX10_184 cwX10_allHeat ciX10_allHeat (hZ.at (i := 65) rfl) rfl rfl rfl rfl (Nat.le_of_ble_eq_true rfl) ⟨Nat.le_of_ble_eq_true rfl, Nat.le_of_ble_eq_true rfl⟩ h (fun r9 s10 h => ?_)
            refine g_goto C 38 84 rfl rfl ?_
            refine g_sub C [0] [(0, .ref (ad 65))] rfl ?_
            exact C_F_X10_behind_J84 C hZ _ _ h
        · refine g_aload_n C 30 0 rfl rfl ?_
          refine g_callVi C 31 [] [] rfl (M_X10_lit hZ) cnX10_181 cwX10_lit ciX10_lit (hZ.at (i := 65) rfl) rfl rfl rfl rfl (Nat.le_of_ble_eq_true rfl) ⟨Nat.le_of_ble_eq_true rfl, Nat.le_of_ble_eq_true rfl⟩ h (fun r11 s12 h => ?_)
          refine g_goto C 32 84 rfl rfl ?_
          refine g_sub C [0] [(0, .ref (ad 65))] rfl ?_
          exact C_F_X10_behind_J84 C hZ _ _ h
      · refine g_aload_n C 20 0 rfl rfl ?_
        refine g_getr (b := 66) C 21 rfl flX10_9 (hZ.at (i := 65) rfl) rfl ?_
        refine g_bipush (v := 6) C 22 rfl rfl ?_
        refine g_iload_n C 23 2 rfl rfl ?_
        refine g_iadd C 24 rfl ?_
        refine g_iald C 25 rfl (hZ.at (i := 66) rfl) h (fun h => ?_)
        refine g_goto C 26 84 rfl rfl ?_
        refine g_sub C [0] [(0, .ref (ad 65))] rfl ?_
        exact C_F_X10_behind_J84 C hZ _ _ h
    · refine g_ldc C 10 rfl kcX10_115 ?_
      exact g_ireturn C 11 rfl h
def T_X10_out : List (Nat × Instr × Nat) := [(0, .aload_n 0, 1), (1, .invokevirtual 191, 3), (4, .iconst 0, 1), (5, .istore_n 1, 1), (6, .iload_n 1, 1), (7, .sipush 200, 3), (10, .if_icmp .gt 20, 3), (13, .aload_n 0, 1), (14, .invokevirtual 181, 3), (17, .ifCond .eq 13, 3), (20, .aload_n 0, 1), (21, .invokevirtual 175, 3), (24, .iinc 1 1, 3), (27, .goto (-21), 3), (30, .aload_n 0, 1), (31, .invokevirtual 194, 3), (34, .iload_n 1, 1), (35, .sipush 200, 3), (38, .if_icmp .gt 7, 3), (41, .iload_n 1, 1), (42, .goto 5, 3), (45, .ldc 161, 2), (47, .ireturn, 1)]
theorem T_X10_out_ok : gTb cX10_out T_X10_out = true := by decide +kernel
def F_X10_out_L6 (Z : List gH) : Nat → Int32 → gS → Option (Int32 × gS)
  | 0, _, _ => none
  | n + 1, l1, σ => if 200 < l1 then mCall (F_X10_putsBack Z σ) (fun r1 s2 => if 200 < l1 then some ((-1000000005), s2) else some (l1, s2)) else mCall (F_X10_lit Z σ) (fun r3 s4 => if r3 = 0 then mCall (F_X10_putsBack Z s4) (fun r5 s6 => if 200 < l1 then some ((-1000000005), s6) else some (l1, s6)) else mCall (F_X10_minute Z s4) (fun r7 s8 => F_X10_out_L6 Z n (l1 + 1) s8))
def F_X10_out (Z : List gH) (σ : gS) : Option (Int32 × gS) := mCall (F_X10_thinks Z σ) (fun r1 s2 => F_X10_out_L6 Z mFuel 0 s2)
set_option maxRecDepth 20000 in
set_option maxHeartbeats 4000000 in
theorem C_F_X10_out_L6 {g : Nat → List (Nat × Value) → List Value → gS → Prop} {Z : List gH} {ad : Nat → Nat} {z : Int32 × gS}  (C : gOk g T_X10_out RX10 2 (some .int) 6 Z ad z) (hZ : Lay Z) : ∀ (n : Nat) (l1 : Int32) (σ : gS), F_X10_out_L6 Z n l1 σ = some z → g 6 [(0, .ref (ad 65)), (1, .int l1)] [] σ := by
  intro n
  induction n with
  | zero => intro l1 σ h; cases h
  | succ n ih =>
    intro l1 σ h
    rw [F_X10_out_L6] at h
    refine g_iload_n C 4 1 rfl rfl ?_
    refine g_sipush (v := 200) C 5 rfl rfl ?_
    refine g_icmp_gt C 6 30 rfl rfl h (fun h => ?_) (fun h => ?_)
    · refine g_aload_n C 14 0 rfl rfl ?_
      refine g_callVv C 15 [] [] rfl (M_X10_putsBack hZ) cnX10_194 cwX10_putsBack ciX10_putsBack (hZ.at (i := 65) rfl) rfl rfl rfl rfl (Nat.le_of_ble_eq_true rfl) ⟨Nat.le_of_ble_eq_true rfl, Nat.le_of_ble_eq_true rfl⟩ h (fun r1 s2 h => ?_)
      refine g_iload_n C 16 1 rfl rfl ?_
      refine g_sipush (v := 200) C 17 rfl rfl ?_
      refine g_icmp_gt C 18 45 rfl rfl h (fun h => ?_) (fun h => ?_)
      · refine g_ldc C 21 rfl kcX10_161 ?_
        exact g_ireturn C 22 rfl h
      · refine g_iload_n C 19 1 rfl rfl ?_
        refine g_goto C 20 47 rfl rfl ?_
        exact g_ireturn C 22 rfl h
    · refine g_aload_n C 7 0 rfl rfl ?_
      refine g_callVi C 8 [] [] rfl (M_X10_lit hZ) cnX10_181 cwX10_lit ciX10_lit (hZ.at (i := 65) rfl) rfl rfl rfl rfl (Nat.le_of_ble_eq_true rfl) ⟨Nat.le_of_ble_eq_true rfl, Nat.le_of_ble_eq_true rfl⟩ h (fun r3 s4 h => ?_)
      refine g_if_eq C 9 30 rfl rfl h (fun h => ?_) (fun h => ?_)
      · refine g_aload_n C 14 0 rfl rfl ?_
        refine g_callVv C 15 [] [] rfl (M_X10_putsBack hZ) cnX10_194 cwX10_putsBack ciX10_putsBack (hZ.at (i := 65) rfl) rfl rfl rfl rfl (Nat.le_of_ble_eq_true rfl) ⟨Nat.le_of_ble_eq_true rfl, Nat.le_of_ble_eq_true rfl⟩ h (fun r5 s6 h => ?_)
        refine g_iload_n C 16 1 rfl rfl ?_
        refine g_sipush (v := 200) C 17 rfl rfl ?_
        refine g_icmp_gt C 18 45 rfl rfl h (fun h => ?_) (fun h => ?_)
        · refine g_ldc C 21 rfl kcX10_161 ?_
          exact g_ireturn C 22 rfl h
        · refine g_iload_n C 19 1 rfl rfl ?_
          refine g_goto C 20 47 rfl rfl ?_
          exact g_ireturn C 22 rfl h
      · refine g_aload_n C 10 0 rfl rfl ?_
        refine g_callVv C 11 [] [] rfl (M_X10_minute hZ) cnX10_175 cwX10_minute ciX10_minute (hZ.at (i := 65) rfl) rfl rfl rfl rfl (Nat.le_of_ble_eq_true rfl) ⟨Nat.le_of_ble_eq_true rfl, Nat.le_of_ble_eq_true rfl⟩ h (fun r7 s8 h => ?_)
        refine g_iinc C 12 1 (l1 + 1) [(1, .int (l1 + 1)), (0, .ref (ad 65))] rfl rfl (by decide) rfl rfl ?_
        refine g_goto C 13 6 rfl rfl ?_
        refine g_sub C [1, 0] [(0, .ref (ad 65)), (1, .int (l1 + 1))] rfl ?_
        exact ih _ _ h
set_option maxRecDepth 20000 in
set_option maxHeartbeats 4000000 in
theorem M_X10_out {Z : List gH} (hZ : Lay Z) : gMet yX10_out cX10_out 2 (some .int) 6 Z (fun ad => [.ref (ad 65)]) (F_X10_out Z) := by
  refine gMet_intro T_X10_out T_X10_out_ok rfl (fun _ => Nat.le_of_ble_eq_true rfl) (fun g ad σ z C h => ?_)
  show g 0 [(0, .ref (ad 65))] [] σ
  rw [F_X10_out] at h
  refine g_aload_n C 0 0 rfl rfl ?_
  refine g_callVv C 1 [] [] rfl (M_X10_thinks hZ) cnX10_191 cwX10_thinks ciX10_thinks (hZ.at (i := 65) rfl) rfl rfl rfl rfl (Nat.le_of_ble_eq_true rfl) ⟨Nat.le_of_ble_eq_true rfl, Nat.le_of_ble_eq_true rfl⟩ h (fun r1 s2 h => ?_)
  refine g_iconst (v := 0) C 2 rfl rfl ?_
  refine g_istore_n C 3 [(1, .int 0), (0, .ref (ad 65))] rfl (by decide) rfl ?_
  refine g_sub C [1, 0] [(0, .ref (ad 65)), (1, .int 0)] rfl ?_
  exact C_F_X10_out_L6 C hZ _ _ _ h
def T_X10_hot : List (Nat × Instr × Nat) := [(0, .iload_n 1, 1), (1, .invokestatic 103, 3), (4, .ifCond .ne 6, 3), (7, .ldc 115, 2), (9, .ireturn, 1), (10, .aload_n 0, 1), (11, .invokevirtual 191, 3), (14, .iconst 0, 1), (15, .istore_n 2, 1), (16, .iload_n 2, 1), (17, .sipush 200, 3), (20, .if_icmp .gt 27, 3), (23, .aload_n 0, 1), (24, .getfield 9, 3), (27, .bipush 10, 2), (29, .iload_n 1, 1), (30, .iadd, 1), (31, .iaload, 1), (32, .bipush 50, 2), (34, .if_icmp .ge 13, 3), (37, .aload_n 0, 1), (38, .invokevirtual 175, 3), (41, .iinc 2 1, 3), (44, .goto (-28), 3), (47, .aload_n 0, 1), (48, .invokevirtual 194, 3), (51, .iload_n 2, 1), (52, .sipush 200, 3), (55, .if_icmp .gt 7, 3), (58, .iload_n 2, 1), (59, .goto 5, 3), (62, .ldc 161, 2), (64, .ireturn, 1)]
theorem T_X10_hot_ok : gTb cX10_hot T_X10_hot = true := by decide +kernel
def F_X10_hot_L16 (Z : List gH) (l1 : Int32) : Nat → Int32 → gS → Option (Int32 × gS)
  | 0, _, _ => none
  | n + 1, l2, σ => if 200 < l2 then mCall (F_X10_putsBack Z σ) (fun r1 s2 => if 200 < l2 then some ((-1000000005), s2) else some (l2, s2)) else mIn 1508 (10 + l1) (if 50 ≤ (σ 66 (nn (10 + l1))) then mCall (F_X10_putsBack Z σ) (fun r3 s4 => if 200 < l2 then some ((-1000000005), s4) else some (l2, s4)) else mCall (F_X10_minute Z σ) (fun r5 s6 => F_X10_hot_L16 Z l1 n (l2 + 1) s6))
def F_X10_hot (Z : List gH) (l1 : Int32) (σ : gS) : Option (Int32 × gS) := mCall (F_X10_isRoom Z l1 σ) (fun r1 s2 => if r1 = 0 then some ((-1000000001), s2) else mCall (F_X10_thinks Z s2) (fun r3 s4 => F_X10_hot_L16 Z l1 mFuel 0 s4))
set_option maxRecDepth 20000 in
set_option maxHeartbeats 4000000 in
theorem C_F_X10_hot_L16 {g : Nat → List (Nat × Value) → List Value → gS → Prop} {Z : List gH} {ad : Nat → Nat} {z : Int32 × gS}  (C : gOk g T_X10_hot RX10 3 (some .int) 6 Z ad z) (hZ : Lay Z) (l1 : Int32) : ∀ (n : Nat) (l2 : Int32) (σ : gS), F_X10_hot_L16 Z l1 n l2 σ = some z → g 16 [(0, .ref (ad 65)), (1, .int l1), (2, .int l2)] [] σ := by
  intro n
  induction n with
  | zero => intro l2 σ h; cases h
  | succ n ih =>
    intro l2 σ h
    rw [F_X10_hot_L16] at h
    refine g_iload_n C 9 2 rfl rfl ?_
    refine g_sipush (v := 200) C 10 rfl rfl ?_
    refine g_icmp_gt C 11 47 rfl rfl h (fun h => ?_) (fun h => ?_)
    · refine g_aload_n C 24 0 rfl rfl ?_
      refine g_callVv C 25 [] [] rfl (M_X10_putsBack hZ) cnX10_194 cwX10_putsBack ciX10_putsBack (hZ.at (i := 65) rfl) rfl rfl rfl rfl (Nat.le_of_ble_eq_true rfl) ⟨Nat.le_of_ble_eq_true rfl, Nat.le_of_ble_eq_true rfl⟩ h (fun r1 s2 h => ?_)
      refine g_iload_n C 26 2 rfl rfl ?_
      refine g_sipush (v := 200) C 27 rfl rfl ?_
      refine g_icmp_gt C 28 62 rfl rfl h (fun h => ?_) (fun h => ?_)
      · refine g_ldc C 31 rfl kcX10_161 ?_
        exact g_ireturn C 32 rfl h
      · refine g_iload_n C 29 2 rfl rfl ?_
        refine g_goto C 30 64 rfl rfl ?_
        exact g_ireturn C 32 rfl h
    · refine g_aload_n C 12 0 rfl rfl ?_
      refine g_getr (b := 66) C 13 rfl flX10_9 (hZ.at (i := 65) rfl) rfl ?_
      refine g_bipush (v := 10) C 14 rfl rfl ?_
      refine g_iload_n C 15 1 rfl rfl ?_
      refine g_iadd C 16 rfl ?_
      refine g_iald C 17 rfl (hZ.at (i := 66) rfl) h (fun h => ?_)
      refine g_bipush (v := 50) C 18 rfl rfl ?_
      refine g_icmp_ge C 19 47 rfl rfl h (fun h => ?_) (fun h => ?_)
      · refine g_aload_n C 24 0 rfl rfl ?_
        refine g_callVv C 25 [] [] rfl (M_X10_putsBack hZ) cnX10_194 cwX10_putsBack ciX10_putsBack (hZ.at (i := 65) rfl) rfl rfl rfl rfl (Nat.le_of_ble_eq_true rfl) ⟨Nat.le_of_ble_eq_true rfl, Nat.le_of_ble_eq_true rfl⟩ h (fun r3 s4 h => ?_)
        refine g_iload_n C 26 2 rfl rfl ?_
        refine g_sipush (v := 200) C 27 rfl rfl ?_
        refine g_icmp_gt C 28 62 rfl rfl h (fun h => ?_) (fun h => ?_)
        · refine g_ldc C 31 rfl kcX10_161 ?_
          exact g_ireturn C 32 rfl h
        · refine g_iload_n C 29 2 rfl rfl ?_
          refine g_goto C 30 64 rfl rfl ?_
          exact g_ireturn C 32 rfl h
      · refine g_aload_n C 20 0 rfl rfl ?_
        refine g_callVv C 21 [] [] rfl (M_X10_minute hZ) cnX10_175 cwX10_minute ciX10_minute (hZ.at (i := 65) rfl) rfl rfl rfl rfl (Nat.le_of_ble_eq_true rfl) ⟨Nat.le_of_ble_eq_true rfl, Nat.le_of_ble_eq_true rfl⟩ h (fun r5 s6 h => ?_)
        refine g_iinc C 22 2 (l2 + 1) [(2, .int (l2 + 1)), (0, .ref (ad 65)), (1, .int l1)] rfl rfl (by decide) rfl rfl ?_
        refine g_goto C 23 16 rfl rfl ?_
        refine g_sub C [1, 2, 0] [(0, .ref (ad 65)), (1, .int l1), (2, .int (l2 + 1))] rfl ?_
        exact ih _ _ h
set_option maxRecDepth 20000 in
set_option maxHeartbeats 4000000 in
theorem M_X10_hot {Z : List gH} (hZ : Lay Z) (l1 : Int32) : gMet yX10_hot cX10_hot 3 (some .int) 6 Z (fun ad => [.ref (ad 65), .int l1]) (F_X10_hot Z l1) := by
  refine gMet_intro T_X10_hot T_X10_hot_ok rfl (fun _ => Nat.le_of_ble_eq_true rfl) (fun g ad σ z C h => ?_)
  show g 0 [(0, .ref (ad 65)), (1, .int l1)] [] σ
  rw [F_X10_hot] at h
  refine g_iload_n C 0 1 rfl rfl ?_
  refine g_callSi C 1 [.int l1] [] rfl (M_X10_isRoom hZ l1) cnX10_103 cwX10_isRoom csX10_isRoom rfl rfl rfl (Nat.le_of_ble_eq_true rfl) ⟨Nat.le_of_ble_eq_true rfl, Nat.le_of_ble_eq_true rfl⟩ h (fun r1 s2 h => ?_)
  refine g_if_ne C 2 10 rfl rfl h (fun h => ?_) (fun h => ?_)
  · refine g_aload_n C 5 0 rfl rfl ?_
    refine g_callVv C 6 [] [] rfl (M_X10_thinks hZ) cnX10_191 cwX10_thinks ciX10_thinks (hZ.at (i := 65) rfl) rfl rfl rfl rfl (Nat.le_of_ble_eq_true rfl) ⟨Nat.le_of_ble_eq_true rfl, Nat.le_of_ble_eq_true rfl⟩ h (fun r3 s4 h => ?_)
    refine g_iconst (v := 0) C 7 rfl rfl ?_
    refine g_istore_n C 8 [(2, .int 0), (0, .ref (ad 65)), (1, .int l1)] rfl (by decide) rfl ?_
    refine g_sub C [1, 2, 0] [(0, .ref (ad 65)), (1, .int l1), (2, .int 0)] rfl ?_
    exact C_F_X10_hot_L16 C hZ _ _ _ _ h
  · refine g_ldc C 3 rfl kcX10_115 ?_
    exact g_ireturn C 4 rfl h
def T_X10_burntBy : List (Nat × Instr × Nat) := [(0, .aload_n 0, 1), (1, .iload_n 1, 1), (2, .invokevirtual 178, 3), (5, .aload_n 0, 1), (6, .getfield 9, 3), (9, .bipush 6, 2), (11, .iaload, 1), (12, .istore_n 2, 1), (13, .aload_n 0, 1), (14, .invokevirtual 194, 3), (17, .iload_n 2, 1), (18, .ireturn, 1)]
theorem T_X10_burntBy_ok : gTb cX10_burntBy T_X10_burntBy = true := by decide +kernel
def F_X10_burntBy (Z : List gH) (l1 : Int32) (σ : gS) : Option (Int32 × gS) := mCall (F_X10_goesOn Z l1 σ) (fun r1 s2 => mLet ((s2 66 6)) (fun v3 => mCall (F_X10_putsBack Z s2) (fun r4 s5 => some (v3, s5))))
set_option maxRecDepth 20000 in
set_option maxHeartbeats 4000000 in
theorem M_X10_burntBy {Z : List gH} (hZ : Lay Z) (l1 : Int32) : gMet yX10_burntBy cX10_burntBy 3 (some .int) 7 Z (fun ad => [.ref (ad 65), .int l1]) (F_X10_burntBy Z l1) := by
  refine gMet_intro T_X10_burntBy T_X10_burntBy_ok rfl (fun _ => Nat.le_of_ble_eq_true rfl) (fun g ad σ z C h => ?_)
  show g 0 [(0, .ref (ad 65)), (1, .int l1)] [] σ
  rw [F_X10_burntBy] at h
  refine g_aload_n C 0 0 rfl rfl ?_
  refine g_iload_n C 1 1 rfl rfl ?_
  refine g_callVv C 2 [.int l1] [] rfl (M_X10_goesOn hZ l1) cnX10_178 cwX10_goesOn ciX10_goesOn (hZ.at (i := 65) rfl) rfl rfl rfl rfl (Nat.le_of_ble_eq_true rfl) ⟨Nat.le_of_ble_eq_true rfl, Nat.le_of_ble_eq_true rfl⟩ h (fun r1 s2 h => ?_)
  refine g_aload_n C 3 0 rfl rfl ?_
  refine g_getr (b := 66) C 4 rfl flX10_9 (hZ.at (i := 65) rfl) rfl ?_
  refine g_bipush (v := 6) C 5 rfl rfl ?_
  refine g_ialdK C 6 6 rfl (hZ.at (i := 66) rfl) rfl (vp_k rfl) ?_
  refine g_let h (fun v3 h => ?_)
  refine g_istore_n C 7 [(2, .int v3), (0, .ref (ad 65)), (1, .int l1)] rfl (by decide) rfl ?_
  refine g_aload_n C 8 1 rfl rfl ?_
  refine g_callVv C 9 [] [] rfl (M_X10_putsBack hZ) cnX10_194 cwX10_putsBack ciX10_putsBack (hZ.at (i := 65) rfl) rfl rfl rfl rfl (Nat.le_of_ble_eq_true rfl) ⟨Nat.le_of_ble_eq_true rfl, Nat.le_of_ble_eq_true rfl⟩ h (fun r4 s5 h => ?_)
  refine g_iload_n C 10 0 rfl rfl ?_
  exact g_ireturn C 11 rfl h
def T_X10_shut : List (Nat × Instr × Nat) := [(0, .iload_n 1, 1), (1, .iconst 1, 1), (2, .bipush 60, 2), (4, .invokestatic 84, 3), (7, .ifCond .eq 12, 3), (10, .iload_n 2, 1), (11, .iconst 0, 1), (12, .iconst 2, 1), (13, .invokestatic 84, 3), (16, .ifCond .ne 6, 3), (19, .ldc 115, 2), (21, .ireturn, 1), (22, .aload_n 0, 1), (23, .invokevirtual 191, 3), (26, .ldc 161, 2), (28, .istore_n 3, 1), (29, .ldc 161, 2), (31, .istore 4, 2), (33, .iconst 0, 1), (34, .istore 5, 2), (36, .iload 5, 2), (38, .bipush 64, 2), (40, .if_icmp .ge 105, 3), (43, .iload 5, 2), (45, .bipush 8, 2), (47, .idiv, 1), (48, .iload 5, 2), (50, .bipush 8, 2), (52, .irem, 1), (53, .if_icmp .ge 86, 3), (56, .aload_n 0, 1), (57, .getfield 9, 3), (60, .bipush 18, 2), (62, .iload 5, 2), (64, .iadd, 1), (65, .iaload, 1), (66, .iconst 2, 1), (67, .if_icmp .ne 72, 3), (70, .aload_n 0, 1), (71, .iload 5, 2), (73, .bipush 8, 2), (75, .idiv, 1), (76, .iload 5, 2), (78, .bipush 8, 2), (80, .irem, 1), (81, .iconst 1, 1), (82, .invokevirtual 151, 3), (85, .pop, 1), (86, .aload_n 0, 1), (87, .iload_n 1, 1), (88, .invokevirtual 197, 3), (91, .istore 6, 2), (93, .iload_n 3, 1), (94, .ldc 161, 2), (96, .if_icmp .eq 10, 3), (99, .iload 6, 2), (101, .iload 4, 2), (103, .if_icmp .ge 7, 3), (106, .iconst 1, 1), (107, .goto 4, 3), (110, .iconst 0, 1), (111, .istore 7, 2), (113, .iload 7, 2), (115, .ifCond .eq 8, 3), (118, .iload 5, 2), (120, .goto 4, 3), (123, .iload_n 3, 1), (124, .istore_n 3, 1), (125, .iload 7, 2), (127, .ifCond .eq 8, 3), (130, .iload 6, 2), (132, .goto 5, 3), (135, .iload 4, 2), (137, .istore 4, 2), (139, .iinc 5 1, 3), (142, .goto (-106), 3), (145, .iload_n 3, 1), (146, .ldc 161, 2), (148, .if_icmp .eq 8, 3), (151, .iload_n 2, 1), (152, .iconst 2, 1), (153, .if_icmp .ne 8, 3), (156, .iload 4, 2), (158, .goto 18, 3), (161, .iload_n 2, 1), (162, .ifCond .ne 10, 3), (165, .iload_n 3, 1), (166, .bipush 8, 2), (168, .idiv, 1), (169, .goto 7, 3), (172, .iload_n 3, 1), (173, .bipush 8, 2), (175, .irem, 1), (176, .ireturn, 1)]
theorem T_X10_shut_ok : gTb cX10_shut T_X10_shut = true := by decide +kernel
def F_X10_shut_J124 (Z : List gH) (k36 : Int32 → Int32 → Int32 → gS → Option (Int32 × gS)) (l1 : Int32) (l2 : Int32) (l4 : Int32) (l5 : Int32) (l6 : Int32) (l7 : Int32) (t0 : Int32) (σ : gS) : Option (Int32 × gS) := if l7 = 0 then k36 t0 l4 (l5 + 1) σ else k36 t0 l6 (l5 + 1) σ
def F_X10_shut_L36 (Z : List gH) (l1 : Int32) (l2 : Int32) : Nat → Int32 → Int32 → Int32 → gS → Option (Int32 × gS)
  | 0, _, _, _, _ => none
  | n + 1, l3, l4, l5, σ => if 64 ≤ l5 then if l3 = (-1000000005) then some (l4, σ) else if l2 = 2 then some (l4, σ) else if l2 = 0 then some ((l3 / 8), σ) else some ((mRem l3 8), σ) else if (mRem l5 8) ≤ (l5 / 8) then F_X10_shut_L36 Z l1 l2 n l3 l4 (l5 + 1) σ else mIn 1508 (18 + l5) (if (σ 66 (nn (18 + l5))) = 2 then mCall (F_X10_leaves Z (l5 / 8) (mRem l5 8) 1 σ) (fun r1 s2 => mCall (F_X10_burntBy Z l1 s2) (fun r3 s4 => if l3 = (-1000000005) then F_X10_shut_J124 Z (F_X10_shut_L36 Z l1 l2 n) l1 l2 l4 l5 r3 1 l5 s4 else if l4 ≤ r3 then F_X10_shut_J124 Z (F_X10_shut_L36 Z l1 l2 n) l1 l2 l4 l5 r3 0 l3 s4 else F_X10_shut_J124 Z (F_X10_shut_L36 Z l1 l2 n) l1 l2 l4 l5 r3 1 l5 s4)) else F_X10_shut_L36 Z l1 l2 n l3 l4 (l5 + 1) σ)
def F_X10_shut (Z : List gH) (l1 : Int32) (l2 : Int32) (σ : gS) : Option (Int32 × gS) := mCall (F_X10_in Z l1 1 60 σ) (fun r1 s2 => if r1 = 0 then some ((-1000000001), s2) else mCall (F_X10_in Z l2 0 2 s2) (fun r3 s4 => if r3 = 0 then some ((-1000000001), s4) else mCall (F_X10_thinks Z s4) (fun r5 s6 => F_X10_shut_L36 Z l1 l2 mFuel (-1000000005) (-1000000005) 0 s6)))
set_option maxRecDepth 20000 in
set_option maxHeartbeats 4000000 in
theorem C_F_X10_shut_J124 {g : Nat → List (Nat × Value) → List Value → gS → Prop} {Z : List gH} {ad : Nat → Nat} {z : Int32 × gS}  (C : gOk g T_X10_shut RX10 8 (some .int) 8 Z ad z) (hZ : Lay Z) {k36 : Int32 → Int32 → Int32 → gS → Option (Int32 × gS)} (l1 : Int32) (l2 : Int32) (hk36 : ∀ (l3 : Int32) (l4 : Int32) (l5 : Int32) (σ : gS), k36 l3 l4 l5 σ = some z → g 36 [(0, .ref (ad 65)), (1, .int l1), (2, .int l2), (3, .int l3), (4, .int l4), (5, .int l5)] [] σ) (l4 : Int32) (l5 : Int32) (l6 : Int32) (l7 : Int32) (t0 : Int32) (σ : gS) (h : F_X10_shut_J124 Z k36 l1 l2 l4 l5 l6 l7 t0 σ = some z) : g 124 [(0, .ref (ad 65)), (1, .int l1), (2, .int l2), (4, .int l4), (5, .int l5), (6, .int l6), (7, .int l7)] [.int t0] σ := by
  rw [F_X10_shut_J124] at h
  refine g_istore_n C 67 [(3, .int t0), (0, .ref (ad 65)), (1, .int l1), (2, .int l2), (4, .int l4), (5, .int l5), (6, .int l6), (7, .int l7)] rfl (by decide) rfl ?_
  refine g_iload C 68 7 rfl rfl ?_
  refine g_if_eq C 69 135 rfl rfl h (fun h => ?_) (fun h => ?_)
  · refine g_iload C 72 4 rfl rfl ?_
    refine g_istore C 73 [(4, .int l4), (3, .int t0), (0, .ref (ad 65)), (1, .int l1), (2, .int l2), (5, .int l5), (6, .int l6), (7, .int l7)] rfl (by decide) rfl ?_
    refine g_iinc C 74 5 (l5 + 1) [(5, .int (l5 + 1)), (4, .int l4), (3, .int t0), (0, .ref (ad 65)), (1, .int l1), (2, .int l2), (6, .int l6), (7, .int l7)] rfl rfl (by decide) rfl rfl ?_
    refine g_goto C 75 36 rfl rfl ?_
    refine g_sub C [3, 4, 5, 2, 1, 0] [(0, .ref (ad 65)), (1, .int l1), (2, .int l2), (3, .int t0), (4, .int l4), (5, .int (l5 + 1))] rfl ?_
    exact hk36 _ _ _ _ h
  · refine g_iload C 70 6 rfl rfl ?_
    refine g_goto C 71 137 rfl rfl ?_
    refine g_istore C 73 [(4, .int l6), (3, .int t0), (0, .ref (ad 65)), (1, .int l1), (2, .int l2), (5, .int l5), (6, .int l6), (7, .int l7)] rfl (by decide) rfl ?_
    refine g_iinc C 74 5 (l5 + 1) [(5, .int (l5 + 1)), (4, .int l6), (3, .int t0), (0, .ref (ad 65)), (1, .int l1), (2, .int l2), (6, .int l6), (7, .int l7)] rfl rfl (by decide) rfl rfl ?_
    refine g_goto C 75 36 rfl rfl ?_
    refine g_sub C [3, 4, 5, 2, 1, 0] [(0, .ref (ad 65)), (1, .int l1), (2, .int l2), (3, .int t0), (4, .int l6), (5, .int (l5 + 1))] rfl ?_
    exact hk36 _ _ _ _ h
set_option maxRecDepth 20000 in
set_option maxHeartbeats 4000000 in
theorem C_F_X10_shut_L36 {g : Nat → List (Nat × Value) → List Value → gS → Prop} {Z : List gH} {ad : Nat → Nat} {z : Int32 × gS}  (C : gOk g T_X10_shut RX10 8 (some .int) 8 Z ad z) (hZ : Lay Z) (l1 : Int32) (l2 : Int32) : ∀ (n : Nat) (l3 : Int32) (l4 : Int32) (l5 : Int32) (σ : gS), F_X10_shut_L36 Z l1 l2 n l3 l4 l5 σ = some z → g 36 [(0, .ref (ad 65)), (1, .int l1), (2, .int l2), (3, .int l3), (4, .int l4), (5, .int l5)] [] σ := by
  intro n
  induction n with
  | zero => intro l3 l4 l5 σ h; cases h
  | succ n ih =>
    intro l3 l4 l5 σ h
    rw [F_X10_shut_L36] at h
    refine g_iload C 20 5 rfl rfl ?_
    refine g_bipush (v := 64) C 21 rfl rfl ?_
    refine g_icmp_ge C 22 145 rfl rfl h (fun h => ?_) (fun h => ?_)
    · refine g_iload_n C 76 3 rfl rfl ?_
      refine g_ldc C 77 rfl kcX10_161 ?_
      refine g_icmp_eq C 78 156 rfl rfl h (fun h => ?_) (fun h => ?_)
      · refine g_iload C 82 4 rfl rfl ?_
        refine g_goto C 83 176 rfl rfl ?_
        exact g_ireturn C 93 rfl h
      · refine g_iload_n C 79 2 rfl rfl ?_
        refine g_iconst (v := 2) C 80 rfl rfl ?_
        refine g_icmp_ne C 81 161 rfl rfl h (fun h => ?_) (fun h => ?_)
        · refine g_iload_n C 84 2 rfl rfl ?_
          refine g_if_ne C 85 172 rfl rfl h (fun h => ?_) (fun h => ?_)
          · refine g_iload_n C 90 3 rfl rfl ?_
            refine g_bipush (v := 8) C 91 rfl rfl ?_
            refine g_iremK C 92 rfl (by decide) ?_
            exact g_ireturn C 93 rfl h
          · refine g_iload_n C 86 3 rfl rfl ?_
            refine g_bipush (v := 8) C 87 rfl rfl ?_
            refine g_idivK C 88 rfl (by decide) ?_
            refine g_goto C 89 176 rfl rfl ?_
            exact g_ireturn C 93 rfl h
        · refine g_iload C 82 4 rfl rfl ?_
          refine g_goto C 83 176 rfl rfl ?_
          exact g_ireturn C 93 rfl h
    · refine g_iload C 23 5 rfl rfl ?_
      refine g_bipush (v := 8) C 24 rfl rfl ?_
      refine g_idivK C 25 rfl (by decide) ?_
      refine g_iload C 26 5 rfl rfl ?_
      refine g_bipush (v := 8) C 27 rfl rfl ?_
      refine g_iremK C 28 rfl (by decide) ?_
      refine g_icmp_ge C 29 139 rfl rfl h (fun h => ?_) (fun h => ?_)
      · refine g_iinc C 74 5 (l5 + 1) [(5, .int (l5 + 1)), (0, .ref (ad 65)), (1, .int l1), (2, .int l2), (3, .int l3), (4, .int l4)] rfl rfl (by decide) rfl rfl ?_
        refine g_goto C 75 36 rfl rfl ?_
        refine g_sub C [1, 2, 3, 4, 5, 0] [(0, .ref (ad 65)), (1, .int l1), (2, .int l2), (3, .int l3), (4, .int l4), (5, .int (l5 + 1))] rfl ?_
        exact ih _ _ _ _ h
      · refine g_aload_n C 30 0 rfl rfl ?_
        refine g_getr (b := 66) C 31 rfl flX10_9 (hZ.at (i := 65) rfl) rfl ?_
        refine g_bipush (v := 18) C 32 rfl rfl ?_
        refine g_iload C 33 5 rfl rfl ?_
        refine g_iadd C 34 rfl ?_
        refine g_iald C 35 rfl (hZ.at (i := 66) rfl) h (fun h => ?_)
        refine g_iconst (v := 2) C 36 rfl rfl ?_
        refine g_icmp_ne C 37 139 rfl rfl h (fun h => ?_) (fun h => ?_)
        · refine g_iinc C 74 5 (l5 + 1) [(5, .int (l5 + 1)), (0, .ref (ad 65)), (1, .int l1), (2, .int l2), (3, .int l3), (4, .int l4)] rfl rfl (by decide) rfl rfl ?_
          refine g_goto C 75 36 rfl rfl ?_
          refine g_sub C [1, 2, 3, 4, 5, 0] [(0, .ref (ad 65)), (1, .int l1), (2, .int l2), (3, .int l3), (4, .int l4), (5, .int (l5 + 1))] rfl ?_
          exact ih _ _ _ _ h
        · refine g_aload_n C 38 0 rfl rfl ?_
          refine g_iload C 39 5 rfl rfl ?_
          refine g_bipush (v := 8) C 40 rfl rfl ?_
          refine g_idivK C 41 rfl (by decide) ?_
          refine g_iload C 42 5 rfl rfl ?_
          refine g_bipush (v := 8) C 43 rfl rfl ?_
          refine g_iremK C 44 rfl (by decide) ?_
          refine g_iconst (v := 1) C 45 rfl rfl ?_
          refine g_callVi C 46 [.int (l5 / 8), .int (mRem l5 8), .int 1] [] rfl (M_X10_leaves hZ (l5 / 8) (mRem l5 8) 1) cnX10_151 cwX10_leaves ciX10_leaves (hZ.at (i := 65) rfl) rfl rfl rfl rfl (Nat.le_of_ble_eq_true rfl) ⟨Nat.le_of_ble_eq_true rfl, Nat.le_of_ble_eq_true rfl⟩ h (fun r1 s2 h => ?_)
          refine g_pop C 47 rfl rfl ?_
          refine g_aload_n C 48 0 rfl rfl ?_
          refine g_iload_n C 49 1 rfl rfl ?_
          refine g_callVi C 50 [.int l1] [] rfl (M_X10_burntBy hZ l1) cnX10_197 cwX10_burntBy ciX10_burntBy (hZ.at (i := 65) rfl) rfl rfl rfl rfl (Nat.le_of_ble_eq_true rfl) ⟨Nat.le_of_ble_eq_true rfl, Nat.le_of_ble_eq_true rfl⟩ h (fun r3 s4 h => ?_)
          refine g_istore C 51 [(6, .int r3), (0, .ref (ad 65)), (1, .int l1), (2, .int l2), (3, .int l3), (4, .int l4), (5, .int l5)] rfl (by decide) rfl ?_
          refine g_iload_n C 52 4 rfl rfl ?_
          refine g_ldc C 53 rfl kcX10_161 ?_
          refine g_icmp_eq C 54 106 rfl rfl h (fun h => ?_) (fun h => ?_)
          · refine g_iconst (v := 1) C 58 rfl rfl ?_
            refine g_goto C 59 111 rfl rfl ?_
            refine g_istore C 61 [(7, .int 1), (6, .int r3), (0, .ref (ad 65)), (1, .int l1), (2, .int l2), (3, .int l3), (4, .int l4), (5, .int l5)] rfl (by decide) rfl ?_
            refine g_iload C 62 0 rfl rfl ?_
            refine g_if_eq_F C 63 123 rfl rfl (by decide) ?_
            refine g_iload C 64 7 rfl rfl ?_
            refine g_goto C 65 124 rfl rfl ?_
            refine g_sub C [2, 3, 4, 6, 7, 1, 0] [(0, .ref (ad 65)), (1, .int l1), (2, .int l2), (4, .int l4), (5, .int l5), (6, .int r3), (7, .int 1)] rfl ?_
            exact C_F_X10_shut_J124 C hZ _ _ ih _ _ _ _ _ _ h
          · refine g_iload C 55 0 rfl rfl ?_
            refine g_iload C 56 5 rfl rfl ?_
            refine g_icmp_ge C 57 110 rfl rfl h (fun h => ?_) (fun h => ?_)
            · refine g_iconst (v := 0) C 60 rfl rfl ?_
              refine g_istore C 61 [(7, .int 0), (6, .int r3), (0, .ref (ad 65)), (1, .int l1), (2, .int l2), (3, .int l3), (4, .int l4), (5, .int l5)] rfl (by decide) rfl ?_
              refine g_iload C 62 0 rfl rfl ?_
              refine g_if_eq_T C 63 123 rfl rfl (by decide) ?_
              refine g_iload_n C 66 5 rfl rfl ?_
              refine g_sub C [2, 3, 4, 6, 7, 1, 0] [(0, .ref (ad 65)), (1, .int l1), (2, .int l2), (4, .int l4), (5, .int l5), (6, .int r3), (7, .int 0)] rfl ?_
              exact C_F_X10_shut_J124 C hZ _ _ ih _ _ _ _ _ _ h
            · refine g_iconst (v := 1) C 58 rfl rfl ?_
              refine g_goto C 59 111 rfl rfl ?_
              refine g_istore C 61 [(7, .int 1), (6, .int r3), (0, .ref (ad 65)), (1, .int l1), (2, .int l2), (3, .int l3), (4, .int l4), (5, .int l5)] rfl (by decide) rfl ?_
              refine g_iload C 62 0 rfl rfl ?_
              refine g_if_eq_F C 63 123 rfl rfl (by decide) ?_
              refine g_iload C 64 7 rfl rfl ?_
              refine g_goto C 65 124 rfl rfl ?_
              refine g_sub C [2, 3, 4, 6, 7, 1, 0] [(0, .ref (ad 65)), (1, .int l1), (2, .int l2), (4, .int l4), (5, .int l5), (6, .int r3), (7, .int 1)] rfl ?_
              exact C_F_X10_shut_J124 C hZ _ _ ih _ _ _ _ _ _ h
set_option maxRecDepth 20000 in
set_option maxHeartbeats 4000000 in
theorem M_X10_shut {Z : List gH} (hZ : Lay Z) (l1 : Int32) (l2 : Int32) : gMet yX10_shut cX10_shut 8 (some .int) 8 Z (fun ad => [.ref (ad 65), .int l1, .int l2]) (F_X10_shut Z l1 l2) := by
  refine gMet_intro T_X10_shut T_X10_shut_ok rfl (fun _ => Nat.le_of_ble_eq_true rfl) (fun g ad σ z C h => ?_)
  show g 0 [(0, .ref (ad 65)), (1, .int l1), (2, .int l2)] [] σ
  rw [F_X10_shut] at h
  refine g_iload_n C 0 1 rfl rfl ?_
  refine g_iconst (v := 1) C 1 rfl rfl ?_
  refine g_bipush (v := 60) C 2 rfl rfl ?_
  refine g_callSi C 3 [.int l1, .int 1, .int 60] [] rfl (M_X10_in hZ l1 1 60) cnX10_84 cwX10_in csX10_in rfl rfl rfl (Nat.le_of_ble_eq_true rfl) ⟨Nat.le_of_ble_eq_true rfl, Nat.le_of_ble_eq_true rfl⟩ h (fun r1 s2 h => ?_)
  refine g_if_eq C 4 19 rfl rfl h (fun h => ?_) (fun h => ?_)
  · refine g_ldc C 10 rfl kcX10_115 ?_
    exact g_ireturn C 11 rfl h
  · refine g_iload_n C 5 2 rfl rfl ?_
    refine g_iconst (v := 0) C 6 rfl rfl ?_
    refine g_iconst (v := 2) C 7 rfl rfl ?_
    refine g_callSi C 8 [.int l2, .int 0, .int 2] [] rfl (M_X10_in hZ l2 0 2) cnX10_84 cwX10_in csX10_in rfl rfl rfl (Nat.le_of_ble_eq_true rfl) ⟨Nat.le_of_ble_eq_true rfl, Nat.le_of_ble_eq_true rfl⟩ h (fun r3 s4 h => ?_)
    refine g_if_ne C 9 22 rfl rfl h (fun h => ?_) (fun h => ?_)
    · refine g_aload_n C 12 0 rfl rfl ?_
      refine g_callVv C 13 [] [] rfl (M_X10_thinks hZ) cnX10_191 cwX10_thinks ciX10_thinks (hZ.at (i := 65) rfl) rfl rfl rfl rfl (Nat.le_of_ble_eq_true rfl) ⟨Nat.le_of_ble_eq_true rfl, Nat.le_of_ble_eq_true rfl⟩ h (fun r5 s6 h => ?_)
      refine g_ldc C 14 rfl kcX10_161 ?_
      refine g_istore_n C 15 [(3, .int (-1000000005)), (0, .ref (ad 65)), (1, .int l1), (2, .int l2)] rfl (by decide) rfl ?_
      refine g_ldc C 16 rfl kcX10_161 ?_
      refine g_istore C 17 [(4, .int (-1000000005)), (3, .int (-1000000005)), (0, .ref (ad 65)), (1, .int l1), (2, .int l2)] rfl (by decide) rfl ?_
      refine g_iconst (v := 0) C 18 rfl rfl ?_
      refine g_istore C 19 [(5, .int 0), (4, .int (-1000000005)), (3, .int (-1000000005)), (0, .ref (ad 65)), (1, .int l1), (2, .int l2)] rfl (by decide) rfl ?_
      refine g_sub C [3, 4, 5, 2, 1, 0] [(0, .ref (ad 65)), (1, .int l1), (2, .int l2), (3, .int (-1000000005)), (4, .int (-1000000005)), (5, .int 0)] rfl ?_
      exact C_F_X10_shut_L36 C hZ _ _ _ _ _ _ _ h
    · refine g_ldc C 10 rfl kcX10_115 ?_
      exact g_ireturn C 11 rfl h
def T_X10_hired : List (Nat × Instr × Nat) := [(0, .iload_n 1, 1), (1, .iconst 1, 1), (2, .bipush 60, 2), (4, .invokestatic 84, 3), (7, .ifCond .eq 12, 3), (10, .iload_n 2, 1), (11, .iconst 0, 1), (12, .iconst 1, 1), (13, .invokestatic 84, 3), (16, .ifCond .ne 6, 3), (19, .ldc 115, 2), (21, .ireturn, 1), (22, .aload_n 0, 1), (23, .invokevirtual 191, 3), (26, .iconst 0, 1), (27, .istore_n 3, 1), (28, .iconst (-1), 1), (29, .istore 4, 2), (31, .iconst 0, 1), (32, .istore 5, 2), (34, .iload 5, 2), (36, .bipush 100, 2), (38, .if_icmp .gt 54, 3), (41, .aload_n 0, 1), (42, .getfield 9, 3), (45, .iconst 3, 1), (46, .iload 5, 2), (48, .iastore, 1), (49, .aload_n 0, 1), (50, .iload_n 1, 1), (51, .invokevirtual 197, 3), (54, .istore 6, 2), (56, .iload 6, 2), (58, .iload 4, 2), (60, .if_icmp .le 8, 3), (63, .iload 5, 2), (65, .goto 4, 3), (68, .iload_n 3, 1), (69, .istore_n 3, 1), (70, .iload 6, 2), (72, .iload 4, 2), (74, .if_icmp .le 8, 3), (77, .iload 6, 2), (79, .goto 5, 3), (82, .iload 4, 2), (84, .istore 4, 2), (86, .iinc 5 10, 3), (89, .goto (-55), 3), (92, .iload_n 2, 1), (93, .ifCond .ne 7, 3), (96, .iload_n 3, 1), (97, .goto 5, 3), (100, .iload 4, 2), (102, .ireturn, 1)]
theorem T_X10_hired_ok : gTb cX10_hired T_X10_hired = true := by decide +kernel
def F_X10_hired_J69 (Z : List gH) (k34 : Int32 → Int32 → Int32 → gS → Option (Int32 × gS)) (l1 : Int32) (l2 : Int32) (l4 : Int32) (l5 : Int32) (l6 : Int32) (t0 : Int32) (σ : gS) : Option (Int32 × gS) := if l6 ≤ l4 then k34 t0 l4 (l5 + 10) σ else k34 t0 l6 (l5 + 10) σ
def F_X10_hired_L34 (Z : List gH) (l1 : Int32) (l2 : Int32) : Nat → Int32 → Int32 → Int32 → gS → Option (Int32 × gS)
  | 0, _, _, _, _ => none
  | n + 1, l3, l4, l5, σ => if 100 < l5 then if l2 = 0 then some (l3, σ) else some (l4, σ) else mLet (gu σ 66 3 l5) (fun s1 => mCall (F_X10_burntBy Z l1 s1) (fun r2 s3 => if r2 ≤ l4 then F_X10_hired_J69 Z (F_X10_hired_L34 Z l1 l2 n) l1 l2 l4 l5 r2 l3 s3 else F_X10_hired_J69 Z (F_X10_hired_L34 Z l1 l2 n) l1 l2 l4 l5 r2 l5 s3))
def F_X10_hired (Z : List gH) (l1 : Int32) (l2 : Int32) (σ : gS) : Option (Int32 × gS) := mCall (F_X10_in Z l1 1 60 σ) (fun r1 s2 => if r1 = 0 then some ((-1000000001), s2) else mCall (F_X10_in Z l2 0 1 s2) (fun r3 s4 => if r3 = 0 then some ((-1000000001), s4) else mCall (F_X10_thinks Z s4) (fun r5 s6 => F_X10_hired_L34 Z l1 l2 mFuel 0 (-1) 0 s6)))
set_option maxRecDepth 20000 in
set_option maxHeartbeats 4000000 in
theorem C_F_X10_hired_J69 {g : Nat → List (Nat × Value) → List Value → gS → Prop} {Z : List gH} {ad : Nat → Nat} {z : Int32 × gS}  (C : gOk g T_X10_hired RX10 7 (some .int) 8 Z ad z) (hZ : Lay Z) {k34 : Int32 → Int32 → Int32 → gS → Option (Int32 × gS)} (l1 : Int32) (l2 : Int32) (hk34 : ∀ (l3 : Int32) (l4 : Int32) (l5 : Int32) (σ : gS), k34 l3 l4 l5 σ = some z → g 34 [(0, .ref (ad 65)), (1, .int l1), (2, .int l2), (3, .int l3), (4, .int l4), (5, .int l5)] [] σ) (l4 : Int32) (l5 : Int32) (l6 : Int32) (t0 : Int32) (σ : gS) (h : F_X10_hired_J69 Z k34 l1 l2 l4 l5 l6 t0 σ = some z) : g 69 [(0, .ref (ad 65)), (1, .int l1), (2, .int l2), (4, .int l4), (5, .int l5), (6, .int l6)] [.int t0] σ := by
  rw [F_X10_hired_J69] at h
  refine g_istore_n C 38 [(3, .int t0), (0, .ref (ad 65)), (1, .int l1), (2, .int l2), (4, .int l4), (5, .int l5), (6, .int l6)] rfl (by decide) rfl ?_
  refine g_iload C 39 6 rfl rfl ?_
  refine g_iload C 40 4 rfl rfl ?_
  refine g_icmp_le C 41 82 rfl rfl h (fun h => ?_) (fun h => ?_)
  · refine g_iload C 44 4 rfl rfl ?_
    refine g_istore C 45 [(4, .int l4), (3, .int t0), (0, .ref (ad 65)), (1, .int l1), (2, .int l2), (5, .int l5), (6, .int l6)] rfl (by decide) rfl ?_
    refine g_iinc C 46 5 (l5 + 10) [(5, .int (l5 + 10)), (4, .int l4), (3, .int t0), (0, .ref (ad 65)), (1, .int l1), (2, .int l2), (6, .int l6)] rfl rfl (by decide) rfl rfl ?_
    refine g_goto C 47 34 rfl rfl ?_
    refine g_sub C [3, 4, 5, 2, 1, 0] [(0, .ref (ad 65)), (1, .int l1), (2, .int l2), (3, .int t0), (4, .int l4), (5, .int (l5 + 10))] rfl ?_
    exact hk34 _ _ _ _ h
  · refine g_iload C 42 6 rfl rfl ?_
    refine g_goto C 43 84 rfl rfl ?_
    refine g_istore C 45 [(4, .int l6), (3, .int t0), (0, .ref (ad 65)), (1, .int l1), (2, .int l2), (5, .int l5), (6, .int l6)] rfl (by decide) rfl ?_
    refine g_iinc C 46 5 (l5 + 10) [(5, .int (l5 + 10)), (4, .int l6), (3, .int t0), (0, .ref (ad 65)), (1, .int l1), (2, .int l2), (6, .int l6)] rfl rfl (by decide) rfl rfl ?_
    refine g_goto C 47 34 rfl rfl ?_
    refine g_sub C [3, 4, 5, 2, 1, 0] [(0, .ref (ad 65)), (1, .int l1), (2, .int l2), (3, .int t0), (4, .int l6), (5, .int (l5 + 10))] rfl ?_
    exact hk34 _ _ _ _ h
set_option maxRecDepth 20000 in
set_option maxHeartbeats 4000000 in
theorem C_F_X10_hired_L34 {g : Nat → List (Nat × Value) → List Value → gS → Prop} {Z : List gH} {ad : Nat → Nat} {z : Int32 × gS}  (C : gOk g T_X10_hired RX10 7 (some .int) 8 Z ad z) (hZ : Lay Z) (l1 : Int32) (l2 : Int32) : ∀ (n : Nat) (l3 : Int32) (l4 : Int32) (l5 : Int32) (σ : gS), F_X10_hired_L34 Z l1 l2 n l3 l4 l5 σ = some z → g 34 [(0, .ref (ad 65)), (1, .int l1), (2, .int l2), (3, .int l3), (4, .int l4), (5, .int l5)] [] σ := by
  intro n
  induction n with
  | zero => intro l3 l4 l5 σ h; cases h
  | succ n ih =>
    intro l3 l4 l5 σ h
    rw [F_X10_hired_L34] at h
    refine g_iload C 20 5 rfl rfl ?_
    refine g_bipush (v := 100) C 21 rfl rfl ?_
    refine g_icmp_gt C 22 92 rfl rfl h (fun h => ?_) (fun h => ?_)
    · refine g_iload_n C 48 2 rfl rfl ?_
      refine g_if_ne C 49 100 rfl rfl h (fun h => ?_) (fun h => ?_)
      · refine g_iload C 52 4 rfl rfl ?_
        exact g_ireturn C 53 rfl h
      · refine g_iload_n C 50 3 rfl rfl ?_
        refine g_goto C 51 102 rfl rfl ?_
        exact g_ireturn C 53 rfl h
    · refine g_aload_n C 23 0 rfl rfl ?_
      refine g_getr (b := 66) C 24 rfl flX10_9 (hZ.at (i := 65) rfl) rfl ?_
      refine g_iconst (v := 3) C 25 rfl rfl ?_
      refine g_iload C 26 5 rfl rfl ?_
      refine g_iastK C 27 3 rfl (hZ.at (i := 66) rfl) rfl (vp_k rfl) h (fun s1 h => ?_)
      refine g_aload_n C 28 0 rfl rfl ?_
      refine g_iload_n C 29 1 rfl rfl ?_
      refine g_callVi C 30 [.int l1] [] rfl (M_X10_burntBy hZ l1) cnX10_197 cwX10_burntBy ciX10_burntBy (hZ.at (i := 65) rfl) rfl rfl rfl rfl (Nat.le_of_ble_eq_true rfl) ⟨Nat.le_of_ble_eq_true rfl, Nat.le_of_ble_eq_true rfl⟩ h (fun r2 s3 h => ?_)
      refine g_istore C 31 [(6, .int r2), (0, .ref (ad 65)), (1, .int l1), (2, .int l2), (3, .int l3), (4, .int l4), (5, .int l5)] rfl (by decide) rfl ?_
      refine g_iload C 32 0 rfl rfl ?_
      refine g_iload C 33 5 rfl rfl ?_
      refine g_icmp_le C 34 68 rfl rfl h (fun h => ?_) (fun h => ?_)
      · refine g_iload_n C 37 4 rfl rfl ?_
        refine g_sub C [1, 2, 3, 5, 6, 0] [(0, .ref (ad 65)), (1, .int l1), (2, .int l2), (4, .int l4), (5, .int l5), (6, .int r2)] rfl ?_
        exact C_F_X10_hired_J69 C hZ _ _ ih _ _ _ _ _ h
      · refine g_iload C 35 6 rfl rfl ?_
        refine g_goto C 36 69 rfl rfl ?_
        refine g_sub C [1, 2, 3, 5, 6, 0] [(0, .ref (ad 65)), (1, .int l1), (2, .int l2), (4, .int l4), (5, .int l5), (6, .int r2)] rfl ?_
        exact C_F_X10_hired_J69 C hZ _ _ ih _ _ _ _ _ h
set_option maxRecDepth 20000 in
set_option maxHeartbeats 4000000 in
theorem M_X10_hired {Z : List gH} (hZ : Lay Z) (l1 : Int32) (l2 : Int32) : gMet yX10_hired cX10_hired 7 (some .int) 8 Z (fun ad => [.ref (ad 65), .int l1, .int l2]) (F_X10_hired Z l1 l2) := by
  refine gMet_intro T_X10_hired T_X10_hired_ok rfl (fun _ => Nat.le_of_ble_eq_true rfl) (fun g ad σ z C h => ?_)
  show g 0 [(0, .ref (ad 65)), (1, .int l1), (2, .int l2)] [] σ
  rw [F_X10_hired] at h
  refine g_iload_n C 0 1 rfl rfl ?_
  refine g_iconst (v := 1) C 1 rfl rfl ?_
  refine g_bipush (v := 60) C 2 rfl rfl ?_
  refine g_callSi C 3 [.int l1, .int 1, .int 60] [] rfl (M_X10_in hZ l1 1 60) cnX10_84 cwX10_in csX10_in rfl rfl rfl (Nat.le_of_ble_eq_true rfl) ⟨Nat.le_of_ble_eq_true rfl, Nat.le_of_ble_eq_true rfl⟩ h (fun r1 s2 h => ?_)
  refine g_if_eq C 4 19 rfl rfl h (fun h => ?_) (fun h => ?_)
  · refine g_ldc C 10 rfl kcX10_115 ?_
    exact g_ireturn C 11 rfl h
  · refine g_iload_n C 5 2 rfl rfl ?_
    refine g_iconst (v := 0) C 6 rfl rfl ?_
    refine g_iconst (v := 1) C 7 rfl rfl ?_
    refine g_callSi C 8 [.int l2, .int 0, .int 1] [] rfl (M_X10_in hZ l2 0 1) cnX10_84 cwX10_in csX10_in rfl rfl rfl (Nat.le_of_ble_eq_true rfl) ⟨Nat.le_of_ble_eq_true rfl, Nat.le_of_ble_eq_true rfl⟩ h (fun r3 s4 h => ?_)
    refine g_if_ne C 9 22 rfl rfl h (fun h => ?_) (fun h => ?_)
    · refine g_aload_n C 12 0 rfl rfl ?_
      refine g_callVv C 13 [] [] rfl (M_X10_thinks hZ) cnX10_191 cwX10_thinks ciX10_thinks (hZ.at (i := 65) rfl) rfl rfl rfl rfl (Nat.le_of_ble_eq_true rfl) ⟨Nat.le_of_ble_eq_true rfl, Nat.le_of_ble_eq_true rfl⟩ h (fun r5 s6 h => ?_)
      refine g_iconst (v := 0) C 14 rfl rfl ?_
      refine g_istore_n C 15 [(3, .int 0), (0, .ref (ad 65)), (1, .int l1), (2, .int l2)] rfl (by decide) rfl ?_
      refine g_iconst (v := (-1)) C 16 rfl rfl ?_
      refine g_istore C 17 [(4, .int (-1)), (3, .int 0), (0, .ref (ad 65)), (1, .int l1), (2, .int l2)] rfl (by decide) rfl ?_
      refine g_iconst (v := 0) C 18 rfl rfl ?_
      refine g_istore C 19 [(5, .int 0), (4, .int (-1)), (3, .int 0), (0, .ref (ad 65)), (1, .int l1), (2, .int l2)] rfl (by decide) rfl ?_
      refine g_sub C [3, 4, 5, 2, 1, 0] [(0, .ref (ad 65)), (1, .int l1), (2, .int l2), (3, .int 0), (4, .int (-1)), (5, .int 0)] rfl ?_
      exact C_F_X10_hired_L34 C hZ _ _ _ _ _ _ _ h
    · refine g_ldc C 10 rfl kcX10_115 ?_
      exact g_ireturn C 11 rfl h
def T_X10_becomes : List (Nat × Instr × Nat) := [(0, .aload_n 0, 1), (1, .iload_n 1, 1), (2, .invokevirtual 121, 3), (5, .ifCond .eq 22, 3), (8, .iload_n 2, 1), (9, .iconst 1, 1), (10, .bipush 60, 2), (12, .invokestatic 84, 3), (15, .ifCond .eq 12, 3), (18, .iload_n 3, 1), (19, .iconst 0, 1), (20, .iconst 1, 1), (21, .invokestatic 84, 3), (24, .ifCond .ne 6, 3), (27, .ldc 115, 2), (29, .ireturn, 1), (30, .aload_n 0, 1), (31, .invokevirtual 191, 3), (34, .iconst 0, 1), (35, .istore 4, 2), (37, .iconst (-1), 1), (38, .istore 5, 2), (40, .iconst 0, 1), (41, .istore 6, 2), (43, .iload 6, 2), (45, .iconst 5, 1), (46, .if_icmp .gt 71, 3), (49, .aload_n 0, 1), (50, .iload_n 1, 1), (51, .iconst 0, 1), (52, .iload 6, 2), (54, .invokevirtual 107, 3), (57, .aload_n 0, 1), (58, .iload_n 2, 1), (59, .invokevirtual 197, 3), (62, .istore 7, 2), (64, .iload 5, 2), (66, .ifCond .lt 10, 3), (69, .iload 7, 2), (71, .iload 5, 2), (73, .if_icmp .ge 7, 3), (76, .iconst 1, 1), (77, .goto 4, 3), (80, .iconst 0, 1), (81, .istore 8, 2), (83, .iload 8, 2), (85, .ifCond .eq 8, 3), (88, .iload 6, 2), (90, .goto 5, 3), (93, .iload 4, 2), (95, .istore 4, 2), (97, .iload 8, 2), (99, .ifCond .eq 8, 3), (102, .iload 7, 2), (104, .goto 5, 3), (107, .iload 5, 2), (109, .istore 5, 2), (111, .iinc 6 1, 3), (114, .goto (-71), 3), (117, .iload_n 3, 1), (118, .ifCond .ne 8, 3), (121, .iload 4, 2), (123, .goto 5, 3), (126, .iload 5, 2), (128, .ireturn, 1)]
theorem T_X10_becomes_ok : gTb cX10_becomes T_X10_becomes = true := by decide +kernel
def F_X10_becomes_J95 (Z : List gH) (k43 : Int32 → Int32 → Int32 → gS → Option (Int32 × gS)) (l1 : Int32) (l2 : Int32) (l3 : Int32) (l5 : Int32) (l6 : Int32) (l7 : Int32) (l8 : Int32) (t0 : Int32) (σ : gS) : Option (Int32 × gS) := if l8 = 0 then k43 t0 l5 (l6 + 1) σ else k43 t0 l7 (l6 + 1) σ
def F_X10_becomes_L43 (Z : List gH) (l1 : Int32) (l2 : Int32) (l3 : Int32) : Nat → Int32 → Int32 → Int32 → gS → Option (Int32 × gS)
  | 0, _, _, _, _ => none
  | n + 1, l4, l5, l6, σ => if 5 < l6 then if l3 = 0 then some (l4, σ) else some (l5, σ) else mCall (F_X10_put Z l1 0 l6 σ) (fun r1 s2 => mCall (F_X10_burntBy Z l2 s2) (fun r3 s4 => if l5 < 0 then F_X10_becomes_J95 Z (F_X10_becomes_L43 Z l1 l2 l3 n) l1 l2 l3 l5 l6 r3 1 l6 s4 else if l5 ≤ r3 then F_X10_becomes_J95 Z (F_X10_becomes_L43 Z l1 l2 l3 n) l1 l2 l3 l5 l6 r3 0 l4 s4 else F_X10_becomes_J95 Z (F_X10_becomes_L43 Z l1 l2 l3 n) l1 l2 l3 l5 l6 r3 1 l6 s4))
def F_X10_becomes (Z : List gH) (l1 : Int32) (l2 : Int32) (l3 : Int32) (σ : gS) : Option (Int32 × gS) := mCall (F_X10_isThing Z l1 σ) (fun r1 s2 => if r1 = 0 then some ((-1000000001), s2) else mCall (F_X10_in Z l2 1 60 s2) (fun r3 s4 => if r3 = 0 then some ((-1000000001), s4) else mCall (F_X10_in Z l3 0 1 s4) (fun r5 s6 => if r5 = 0 then some ((-1000000001), s6) else mCall (F_X10_thinks Z s6) (fun r7 s8 => F_X10_becomes_L43 Z l1 l2 l3 mFuel 0 (-1) 0 s8))))
set_option maxRecDepth 20000 in
set_option maxHeartbeats 4000000 in
theorem C_F_X10_becomes_J95 {g : Nat → List (Nat × Value) → List Value → gS → Prop} {Z : List gH} {ad : Nat → Nat} {z : Int32 × gS}  (C : gOk g T_X10_becomes RX10 9 (some .int) 8 Z ad z) (hZ : Lay Z) {k43 : Int32 → Int32 → Int32 → gS → Option (Int32 × gS)} (l1 : Int32) (l2 : Int32) (l3 : Int32) (hk43 : ∀ (l4 : Int32) (l5 : Int32) (l6 : Int32) (σ : gS), k43 l4 l5 l6 σ = some z → g 43 [(0, .ref (ad 65)), (1, .int l1), (2, .int l2), (3, .int l3), (4, .int l4), (5, .int l5), (6, .int l6)] [] σ) (l5 : Int32) (l6 : Int32) (l7 : Int32) (l8 : Int32) (t0 : Int32) (σ : gS) (h : F_X10_becomes_J95 Z k43 l1 l2 l3 l5 l6 l7 l8 t0 σ = some z) : g 95 [(0, .ref (ad 65)), (1, .int l1), (2, .int l2), (3, .int l3), (5, .int l5), (6, .int l6), (7, .int l7), (8, .int l8)] [.int t0] σ := by
  rw [F_X10_becomes_J95] at h
  refine g_istore C 50 [(4, .int t0), (0, .ref (ad 65)), (1, .int l1), (2, .int l2), (3, .int l3), (5, .int l5), (6, .int l6), (7, .int l7), (8, .int l8)] rfl (by decide) rfl ?_
  refine g_iload C 51 8 rfl rfl ?_
  refine g_if_eq C 52 107 rfl rfl h (fun h => ?_) (fun h => ?_)
  · refine g_iload C 55 5 rfl rfl ?_
    refine g_istore C 56 [(5, .int l5), (4, .int t0), (0, .ref (ad 65)), (1, .int l1), (2, .int l2), (3, .int l3), (6, .int l6), (7, .int l7), (8, .int l8)] rfl (by decide) rfl ?_
    refine g_iinc C 57 6 (l6 + 1) [(6, .int (l6 + 1)), (5, .int l5), (4, .int t0), (0, .ref (ad 65)), (1, .int l1), (2, .int l2), (3, .int l3), (7, .int l7), (8, .int l8)] rfl rfl (by decide) rfl rfl ?_
    refine g_goto C 58 43 rfl rfl ?_
    refine g_sub C [3, 4, 5, 6, 2, 1, 0] [(0, .ref (ad 65)), (1, .int l1), (2, .int l2), (3, .int l3), (4, .int t0), (5, .int l5), (6, .int (l6 + 1))] rfl ?_
    exact hk43 _ _ _ _ h
  · refine g_iload C 53 7 rfl rfl ?_
    refine g_goto C 54 109 rfl rfl ?_
    refine g_istore C 56 [(5, .int l7), (4, .int t0), (0, .ref (ad 65)), (1, .int l1), (2, .int l2), (3, .int l3), (6, .int l6), (7, .int l7), (8, .int l8)] rfl (by decide) rfl ?_
    refine g_iinc C 57 6 (l6 + 1) [(6, .int (l6 + 1)), (5, .int l7), (4, .int t0), (0, .ref (ad 65)), (1, .int l1), (2, .int l2), (3, .int l3), (7, .int l7), (8, .int l8)] rfl rfl (by decide) rfl rfl ?_
    refine g_goto C 58 43 rfl rfl ?_
    refine g_sub C [3, 4, 5, 6, 2, 1, 0] [(0, .ref (ad 65)), (1, .int l1), (2, .int l2), (3, .int l3), (4, .int t0), (5, .int l7), (6, .int (l6 + 1))] rfl ?_
    exact hk43 _ _ _ _ h
set_option maxRecDepth 20000 in
set_option maxHeartbeats 4000000 in
theorem C_F_X10_becomes_L43 {g : Nat → List (Nat × Value) → List Value → gS → Prop} {Z : List gH} {ad : Nat → Nat} {z : Int32 × gS}  (C : gOk g T_X10_becomes RX10 9 (some .int) 8 Z ad z) (hZ : Lay Z) (l1 : Int32) (l2 : Int32) (l3 : Int32) : ∀ (n : Nat) (l4 : Int32) (l5 : Int32) (l6 : Int32) (σ : gS), F_X10_becomes_L43 Z l1 l2 l3 n l4 l5 l6 σ = some z → g 43 [(0, .ref (ad 65)), (1, .int l1), (2, .int l2), (3, .int l3), (4, .int l4), (5, .int l5), (6, .int l6)] [] σ := by
  intro n
  induction n with
  | zero => intro l4 l5 l6 σ h; cases h
  | succ n ih =>
    intro l4 l5 l6 σ h
    rw [F_X10_becomes_L43] at h
    refine g_iload C 24 6 rfl rfl ?_
    refine g_iconst (v := 5) C 25 rfl rfl ?_
    refine g_icmp_gt C 26 117 rfl rfl h (fun h => ?_) (fun h => ?_)
    · refine g_iload_n C 59 3 rfl rfl ?_
      refine g_if_ne C 60 126 rfl rfl h (fun h => ?_) (fun h => ?_)
      · refine g_iload C 63 5 rfl rfl ?_
        exact g_ireturn C 64 rfl h
      · refine g_iload C 61 4 rfl rfl ?_
        refine g_goto C 62 128 rfl rfl ?_
        exact g_ireturn C 64 rfl h
    · refine g_aload_n C 27 0 rfl rfl ?_
      refine g_iload_n C 28 1 rfl rfl ?_
      refine g_iconst (v := 0) C 29 rfl rfl ?_
      refine g_iload C 30 6 rfl rfl ?_
      refine g_callVv C 31 [.int l1, .int 0, .int l6] [] rfl (M_X10_put hZ l1 0 l6) cnX10_107 cwX10_put ciX10_put (hZ.at (i := 65) rfl) rfl rfl rfl rfl (Nat.le_of_ble_eq_true rfl) ⟨Nat.le_of_ble_eq_true rfl, Nat.le_of_ble_eq_true rfl⟩ h (fun r1 s2 h => ?_)
      refine g_aload_n C 32 0 rfl rfl ?_
      refine g_iload_n C 33 2 rfl rfl ?_
      refine g_callVi C 34 [.int l2] [] rfl (M_X10_burntBy hZ l2) cnX10_197 cwX10_burntBy ciX10_burntBy (hZ.at (i := 65) rfl) rfl rfl rfl rfl (Nat.le_of_ble_eq_true rfl) ⟨Nat.le_of_ble_eq_true rfl, Nat.le_of_ble_eq_true rfl⟩ h (fun r3 s4 h => ?_)
      refine g_istore C 35 [(7, .int r3), (0, .ref (ad 65)), (1, .int l1), (2, .int l2), (3, .int l3), (4, .int l4), (5, .int l5), (6, .int l6)] rfl (by decide) rfl ?_
      refine g_iload C 36 6 rfl rfl ?_
      refine g_if_lt C 37 76 rfl rfl h (fun h => ?_) (fun h => ?_)
      · refine g_iconst (v := 1) C 41 rfl rfl ?_
        refine g_goto C 42 81 rfl rfl ?_
        refine g_istore C 44 [(8, .int 1), (7, .int r3), (0, .ref (ad 65)), (1, .int l1), (2, .int l2), (3, .int l3), (4, .int l4), (5, .int l5), (6, .int l6)] rfl (by decide) rfl ?_
        refine g_iload C 45 0 rfl rfl ?_
        refine g_if_eq_F C 46 93 rfl rfl (by decide) ?_
        refine g_iload C 47 8 rfl rfl ?_
        refine g_goto C 48 95 rfl rfl ?_
        refine g_sub C [2, 3, 4, 5, 7, 8, 1, 0] [(0, .ref (ad 65)), (1, .int l1), (2, .int l2), (3, .int l3), (5, .int l5), (6, .int l6), (7, .int r3), (8, .int 1)] rfl ?_
        exact C_F_X10_becomes_J95 C hZ _ _ _ ih _ _ _ _ _ _ h
      · refine g_iload C 38 0 rfl rfl ?_
        refine g_iload C 39 6 rfl rfl ?_
        refine g_icmp_ge C 40 80 rfl rfl h (fun h => ?_) (fun h => ?_)
        · refine g_iconst (v := 0) C 43 rfl rfl ?_
          refine g_istore C 44 [(8, .int 0), (7, .int r3), (0, .ref (ad 65)), (1, .int l1), (2, .int l2), (3, .int l3), (4, .int l4), (5, .int l5), (6, .int l6)] rfl (by decide) rfl ?_
          refine g_iload C 45 0 rfl rfl ?_
          refine g_if_eq_T C 46 93 rfl rfl (by decide) ?_
          refine g_iload C 49 6 rfl rfl ?_
          refine g_sub C [2, 3, 4, 5, 7, 8, 1, 0] [(0, .ref (ad 65)), (1, .int l1), (2, .int l2), (3, .int l3), (5, .int l5), (6, .int l6), (7, .int r3), (8, .int 0)] rfl ?_
          exact C_F_X10_becomes_J95 C hZ _ _ _ ih _ _ _ _ _ _ h
        · refine g_iconst (v := 1) C 41 rfl rfl ?_
          refine g_goto C 42 81 rfl rfl ?_
          refine g_istore C 44 [(8, .int 1), (7, .int r3), (0, .ref (ad 65)), (1, .int l1), (2, .int l2), (3, .int l3), (4, .int l4), (5, .int l5), (6, .int l6)] rfl (by decide) rfl ?_
          refine g_iload C 45 0 rfl rfl ?_
          refine g_if_eq_F C 46 93 rfl rfl (by decide) ?_
          refine g_iload C 47 8 rfl rfl ?_
          refine g_goto C 48 95 rfl rfl ?_
          refine g_sub C [2, 3, 4, 5, 7, 8, 1, 0] [(0, .ref (ad 65)), (1, .int l1), (2, .int l2), (3, .int l3), (5, .int l5), (6, .int l6), (7, .int r3), (8, .int 1)] rfl ?_
          exact C_F_X10_becomes_J95 C hZ _ _ _ ih _ _ _ _ _ _ h
set_option maxRecDepth 20000 in
set_option maxHeartbeats 4000000 in
theorem M_X10_becomes {Z : List gH} (hZ : Lay Z) (l1 : Int32) (l2 : Int32) (l3 : Int32) : gMet yX10_becomes cX10_becomes 9 (some .int) 8 Z (fun ad => [.ref (ad 65), .int l1, .int l2, .int l3]) (F_X10_becomes Z l1 l2 l3) := by
  refine gMet_intro T_X10_becomes T_X10_becomes_ok rfl (fun _ => Nat.le_of_ble_eq_true rfl) (fun g ad σ z C h => ?_)
  show g 0 [(0, .ref (ad 65)), (1, .int l1), (2, .int l2), (3, .int l3)] [] σ
  rw [F_X10_becomes] at h
  refine g_aload_n C 0 0 rfl rfl ?_
  refine g_iload_n C 1 1 rfl rfl ?_
  refine g_callVi C 2 [.int l1] [] rfl (M_X10_isThing hZ l1) cnX10_121 cwX10_isThing ciX10_isThing (hZ.at (i := 65) rfl) rfl rfl rfl rfl (Nat.le_of_ble_eq_true rfl) ⟨Nat.le_of_ble_eq_true rfl, Nat.le_of_ble_eq_true rfl⟩ h (fun r1 s2 h => ?_)
  refine g_if_eq C 3 27 rfl rfl h (fun h => ?_) (fun h => ?_)
  · refine g_ldc C 14 rfl kcX10_115 ?_
    exact g_ireturn C 15 rfl h
  · refine g_iload_n C 4 2 rfl rfl ?_
    refine g_iconst (v := 1) C 5 rfl rfl ?_
    refine g_bipush (v := 60) C 6 rfl rfl ?_
    refine g_callSi C 7 [.int l2, .int 1, .int 60] [] rfl (M_X10_in hZ l2 1 60) cnX10_84 cwX10_in csX10_in rfl rfl rfl (Nat.le_of_ble_eq_true rfl) ⟨Nat.le_of_ble_eq_true rfl, Nat.le_of_ble_eq_true rfl⟩ h (fun r3 s4 h => ?_)
    refine g_if_eq C 8 27 rfl rfl h (fun h => ?_) (fun h => ?_)
    · refine g_ldc C 14 rfl kcX10_115 ?_
      exact g_ireturn C 15 rfl h
    · refine g_iload_n C 9 3 rfl rfl ?_
      refine g_iconst (v := 0) C 10 rfl rfl ?_
      refine g_iconst (v := 1) C 11 rfl rfl ?_
      refine g_callSi C 12 [.int l3, .int 0, .int 1] [] rfl (M_X10_in hZ l3 0 1) cnX10_84 cwX10_in csX10_in rfl rfl rfl (Nat.le_of_ble_eq_true rfl) ⟨Nat.le_of_ble_eq_true rfl, Nat.le_of_ble_eq_true rfl⟩ h (fun r5 s6 h => ?_)
      refine g_if_ne C 13 30 rfl rfl h (fun h => ?_) (fun h => ?_)
      · refine g_aload_n C 16 0 rfl rfl ?_
        refine g_callVv C 17 [] [] rfl (M_X10_thinks hZ) cnX10_191 cwX10_thinks ciX10_thinks (hZ.at (i := 65) rfl) rfl rfl rfl rfl (Nat.le_of_ble_eq_true rfl) ⟨Nat.le_of_ble_eq_true rfl, Nat.le_of_ble_eq_true rfl⟩ h (fun r7 s8 h => ?_)
        refine g_iconst (v := 0) C 18 rfl rfl ?_
        refine g_istore C 19 [(4, .int 0), (0, .ref (ad 65)), (1, .int l1), (2, .int l2), (3, .int l3)] rfl (by decide) rfl ?_
        refine g_iconst (v := (-1)) C 20 rfl rfl ?_
        refine g_istore C 21 [(5, .int (-1)), (4, .int 0), (0, .ref (ad 65)), (1, .int l1), (2, .int l2), (3, .int l3)] rfl (by decide) rfl ?_
        refine g_iconst (v := 0) C 22 rfl rfl ?_
        refine g_istore C 23 [(6, .int 0), (5, .int (-1)), (4, .int 0), (0, .ref (ad 65)), (1, .int l1), (2, .int l2), (3, .int l3)] rfl (by decide) rfl ?_
        refine g_sub C [3, 4, 5, 6, 2, 1, 0] [(0, .ref (ad 65)), (1, .int l1), (2, .int l2), (3, .int l3), (4, .int 0), (5, .int (-1)), (6, .int 0)] rfl ?_
        exact C_F_X10_becomes_L43 C hZ _ _ _ _ _ _ _ _ h
      · refine g_ldc C 14 rfl kcX10_115 ?_
        exact g_ireturn C 15 rfl h
def T_X10_isSheet : List (Nat × Instr × Nat) := [(0, .iload_n 0, 1), (1, .iconst 0, 1), (2, .iconst 3, 1), (3, .invokestatic 84, 3), (6, .ireturn, 1)]
theorem T_X10_isSheet_ok : gTb cX10_isSheet T_X10_isSheet = true := by decide +kernel
def F_X10_isSheet (Z : List gH) (l0 : Int32) (σ : gS) : Option (Int32 × gS) := mCall (F_X10_in Z l0 0 3 σ) (fun r1 s2 => mZ r1 s2)
set_option maxRecDepth 20000 in
set_option maxHeartbeats 4000000 in
theorem M_X10_isSheet {Z : List gH} (hZ : Lay Z) (l0 : Int32) : gMet yX10_isSheet cX10_isSheet 1 (some .boolean) 2 Z (fun ad => [.int l0]) (F_X10_isSheet Z l0) := by
  refine gMet_intro T_X10_isSheet T_X10_isSheet_ok rfl (fun _ => Nat.le_of_ble_eq_true rfl) (fun g ad σ z C h => ?_)
  show g 0 [(0, .int l0)] [] σ
  rw [F_X10_isSheet] at h
  refine g_iload_n C 0 0 rfl rfl ?_
  refine g_iconst (v := 0) C 1 rfl rfl ?_
  refine g_iconst (v := 3) C 2 rfl rfl ?_
  refine g_callSi C 3 [.int l0, .int 0, .int 3] [] rfl (M_X10_in hZ l0 0 3) cnX10_84 cwX10_in csX10_in rfl rfl rfl (Nat.le_of_ble_eq_true rfl) ⟨Nat.le_of_ble_eq_true rfl, Nat.le_of_ble_eq_true rfl⟩ h (fun r1 s2 h => ?_)
  exact g_zreturn C 4 rfl h
def T_X10_bits : List (Nat × Instr × Nat) := [(0, .iconst 0, 1), (1, .istore_n 1, 1), (2, .iload_n 0, 1), (3, .istore_n 2, 1), (4, .iload_n 2, 1), (5, .ifCond .eq 15, 3), (8, .iinc 1 1, 3), (11, .iload_n 2, 1), (12, .iload_n 2, 1), (13, .iconst 1, 1), (14, .isub, 1), (15, .iand, 1), (16, .istore_n 2, 1), (17, .goto (-13), 3), (20, .iload_n 1, 1), (21, .ireturn, 1)]
theorem T_X10_bits_ok : gTb cX10_bits T_X10_bits = true := by decide +kernel
def F_X10_bits_L4 (Z : List gH) : Nat → Int32 → Int32 → gS → Option (Int32 × gS)
  | 0, _, _, _ => none
  | n + 1, l1, l2, σ => if l2 = 0 then some (l1, σ) else mLet ((l2 &&& (l2 - 1))) (fun v1 => F_X10_bits_L4 Z n (l1 + 1) v1 σ)
def F_X10_bits (Z : List gH) (l0 : Int32) (σ : gS) : Option (Int32 × gS) := F_X10_bits_L4 Z mFuel 0 l0 σ
set_option maxRecDepth 20000 in
set_option maxHeartbeats 4000000 in
theorem C_F_X10_bits_L4 {g : Nat → List (Nat × Value) → List Value → gS → Prop} {Z : List gH} {ad : Nat → Nat} {z : Int32 × gS}  (C : gOk g T_X10_bits RX10 3 (some .int) 1 Z ad z) (hZ : Lay Z) : ∀ (n : Nat) (l1 : Int32) (l2 : Int32) (σ : gS), F_X10_bits_L4 Z n l1 l2 σ = some z → g 4 [(1, .int l1), (2, .int l2)] [] σ := by
  intro n
  induction n with
  | zero => intro l1 l2 σ h; cases h
  | succ n ih =>
    intro l1 l2 σ h
    rw [F_X10_bits_L4] at h
    refine g_iload_n C 4 1 rfl rfl ?_
    refine g_if_eq C 5 20 rfl rfl h (fun h => ?_) (fun h => ?_)
    · refine g_iload_n C 14 0 rfl rfl ?_
      exact g_ireturn C 15 rfl h
    · refine g_iinc C 6 0 (l1 + 1) [(1, .int (l1 + 1)), (2, .int l2)] rfl rfl (by decide) rfl rfl ?_
      refine g_iload_n C 7 1 rfl rfl ?_
      refine g_iload_n C 8 1 rfl rfl ?_
      refine g_iconst (v := 1) C 9 rfl rfl ?_
      refine g_isub C 10 rfl ?_
      refine g_iand C 11 rfl ?_
      refine g_let h (fun v1 h => ?_)
      refine g_istore_n C 12 [(2, .int v1), (1, .int (l1 + 1))] rfl (by decide) rfl ?_
      refine g_goto C 13 4 rfl rfl ?_
      refine g_sub C [1, 0] [(1, .int (l1 + 1)), (2, .int v1)] rfl ?_
      exact ih _ _ _ h
set_option maxRecDepth 20000 in
set_option maxHeartbeats 4000000 in
theorem M_X10_bits {Z : List gH} (hZ : Lay Z) (l0 : Int32) : gMet yX10_bits cX10_bits 3 (some .int) 1 Z (fun ad => [.int l0]) (F_X10_bits Z l0) := by
  refine gMet_intro T_X10_bits T_X10_bits_ok rfl (fun _ => Nat.le_of_ble_eq_true rfl) (fun g ad σ z C h => ?_)
  show g 0 [(0, .int l0)] [] σ
  rw [F_X10_bits] at h
  refine g_iconst (v := 0) C 0 rfl rfl ?_
  refine g_istore_n C 1 [(1, .int 0), (0, .int l0)] rfl (by decide) rfl ?_
  refine g_iload_n C 2 1 rfl rfl ?_
  refine g_istore_n C 3 [(2, .int l0), (1, .int 0), (0, .int l0)] rfl (by decide) rfl ?_
  refine g_sub C [1, 0] [(1, .int 0), (2, .int l0)] rfl ?_
  exact C_F_X10_bits_L4 C hZ _ _ _ _ h
def T_X10_isSo : List (Nat × Instr × Nat) := [(0, .iconst 1, 1), (1, .istore_n 2, 1), (2, .iconst 0, 1), (3, .istore_n 3, 1), (4, .iload_n 3, 1), (5, .aload_n 0, 1), (6, .getfield 60, 3), (9, .iload_n 1, 1), (10, .iaload, 1), (11, .if_icmp .ge 55, 3), (14, .iload_n 2, 1), (15, .ifCond .eq 51, 3), (18, .aload_n 0, 1), (19, .getfield 63, 3), (22, .bipush 24, 2), (24, .iload_n 1, 1), (25, .imul, 1), (26, .iload_n 3, 1), (27, .iadd, 1), (28, .iaload, 1), (29, .istore 4, 2), (31, .iload 4, 2), (33, .ldc 161, 2), (35, .if_icmp .eq 15, 3), (38, .iload 4, 2), (40, .aload_n 0, 1), (41, .invokevirtual 181, 3), (44, .invokestatic 200, 3), (47, .if_icmp .ne 7, 3), (50, .iconst 1, 1), (51, .goto 4, 3), (54, .iconst 0, 1), (55, .istore_n 2, 1), (56, .aload_n 0, 1), (57, .invokevirtual 175, 3), (60, .iinc 3 1, 3), (63, .goto (-59), 3), (66, .aload_n 0, 1), (67, .invokevirtual 194, 3), (70, .iload_n 2, 1), (71, .ireturn, 1)]
theorem T_X10_isSo_ok : gTb cX10_isSo T_X10_isSo = true := by decide +kernel
def F_X10_isSo_L4 (Z : List gH) (l1 : Int32) : Nat → Int32 → Int32 → gS → Option (Int32 × gS)
  | 0, _, _, _ => none
  | n + 1, l2, l3, σ => mIn 4 l1 (if (σ 82 (nn l1)) ≤ l3 then mCall (F_X10_putsBack Z σ) (fun r1 s2 => mZ l2 s2) else if l2 = 0 then mCall (F_X10_putsBack Z σ) (fun r3 s4 => mZ l2 s4) else mIn 96 ((24 * l1) + l3) (mLet ((σ 83 (nn ((24 * l1) + l3)))) (fun v5 => if v5 = (-1000000005) then mCall (F_X10_minute Z σ) (fun r6 s7 => F_X10_isSo_L4 Z l1 n 1 (l3 + 1) s7) else mCall (F_X10_lit Z σ) (fun r8 s9 => mCall (F_X10_bits Z r8 s9) (fun r10 s11 => if v5 = r10 then mCall (F_X10_minute Z s11) (fun r14 s15 => F_X10_isSo_L4 Z l1 n 1 (l3 + 1) s15) else mCall (F_X10_minute Z s11) (fun r12 s13 => F_X10_isSo_L4 Z l1 n 0 (l3 + 1) s13))))))
def F_X10_isSo (Z : List gH) (l1 : Int32) (σ : gS) : Option (Int32 × gS) := F_X10_isSo_L4 Z l1 mFuel 1 0 σ
set_option maxRecDepth 20000 in
set_option maxHeartbeats 4000000 in
theorem C_F_X10_isSo_L4 {g : Nat → List (Nat × Value) → List Value → gS → Prop} {Z : List gH} {ad : Nat → Nat} {z : Int32 × gS}  (C : gOk g T_X10_isSo RX10 5 (some .boolean) 6 Z ad z) (hZ : Lay Z) (l1 : Int32) : ∀ (n : Nat) (l2 : Int32) (l3 : Int32) (σ : gS), F_X10_isSo_L4 Z l1 n l2 l3 σ = some z → g 4 [(0, .ref (ad 65)), (1, .int l1), (2, .int l2), (3, .int l3)] [] σ := by
  intro n
  induction n with
  | zero => intro l2 l3 σ h; cases h
  | succ n ih =>
    intro l2 l3 σ h
    rw [F_X10_isSo_L4] at h
    refine g_iload_n C 4 3 rfl rfl ?_
    refine g_aload_n C 5 0 rfl rfl ?_
    refine g_getr (b := 82) C 6 rfl flX10_60 (hZ.at (i := 65) rfl) rfl ?_
    refine g_iload_n C 7 1 rfl rfl ?_
    refine g_iald C 8 rfl (hZ.at (i := 82) rfl) h (fun h => ?_)
    refine g_icmp_ge C 9 66 rfl rfl h (fun h => ?_) (fun h => ?_)
    · refine g_aload_n C 37 0 rfl rfl ?_
      refine g_callVv C 38 [] [] rfl (M_X10_putsBack hZ) cnX10_194 cwX10_putsBack ciX10_putsBack (hZ.at (i := 65) rfl) rfl rfl rfl rfl (Nat.le_of_ble_eq_true rfl) ⟨Nat.le_of_ble_eq_true rfl, Nat.le_of_ble_eq_true rfl⟩ h (fun r1 s2 h => ?_)
      refine g_iload_n C 39 2 rfl rfl ?_
      exact g_zreturn C 40 rfl h
    · refine g_iload_n C 10 2 rfl rfl ?_
      refine g_if_eq C 11 66 rfl rfl h (fun h => ?_) (fun h => ?_)
      · refine g_aload_n C 37 0 rfl rfl ?_
        refine g_callVv C 38 [] [] rfl (M_X10_putsBack hZ) cnX10_194 cwX10_putsBack ciX10_putsBack (hZ.at (i := 65) rfl) rfl rfl rfl rfl (Nat.le_of_ble_eq_true rfl) ⟨Nat.le_of_ble_eq_true rfl, Nat.le_of_ble_eq_true rfl⟩ h (fun r3 s4 h => ?_)
        refine g_iload_n C 39 2 rfl rfl ?_
        exact g_zreturn C 40 rfl h
      · refine g_aload_n C 12 0 rfl rfl ?_
        refine g_getr (b := 83) C 13 rfl flX10_63 (hZ.at (i := 65) rfl) rfl ?_
        refine g_bipush (v := 24) C 14 rfl rfl ?_
        refine g_iload_n C 15 1 rfl rfl ?_
        refine g_imul C 16 rfl ?_
        refine g_iload_n C 17 3 rfl rfl ?_
        refine g_iadd C 18 rfl ?_
        refine g_iald C 19 rfl (hZ.at (i := 83) rfl) h (fun h => ?_)
        refine g_let h (fun v5 h => ?_)
        refine g_istore C 20 [(4, .int v5), (0, .ref (ad 65)), (1, .int l1), (2, .int l2), (3, .int l3)] rfl (by decide) rfl ?_
        refine g_iload C 21 0 rfl rfl ?_
        refine g_ldc C 22 rfl kcX10_161 ?_
        refine g_icmp_eq C 23 50 rfl rfl h (fun h => ?_) (fun h => ?_)
        · refine g_iconst (v := 1) C 29 rfl rfl ?_
          refine g_goto C 30 55 rfl rfl ?_
          refine g_istore_n C 32 [(2, .int 1), (4, .int v5), (0, .ref (ad 65)), (1, .int l1), (3, .int l3)] rfl (by decide) rfl ?_
          refine g_aload_n C 33 2 rfl rfl ?_
          refine g_callVv C 34 [] [] rfl (M_X10_minute hZ) cnX10_175 cwX10_minute ciX10_minute (hZ.at (i := 65) rfl) rfl rfl rfl rfl (Nat.le_of_ble_eq_true rfl) ⟨Nat.le_of_ble_eq_true rfl, Nat.le_of_ble_eq_true rfl⟩ h (fun r6 s7 h => ?_)
          refine g_iinc C 35 4 (l3 + 1) [(3, .int (l3 + 1)), (2, .int 1), (4, .int v5), (0, .ref (ad 65)), (1, .int l1)] rfl rfl (by decide) rfl rfl ?_
          refine g_goto C 36 4 rfl rfl ?_
          refine g_sub C [3, 4, 1, 0] [(0, .ref (ad 65)), (1, .int l1), (2, .int 1), (3, .int (l3 + 1))] rfl ?_
          exact ih _ _ _ h
        · refine g_iload C 24 0 rfl rfl ?_
          refine g_aload_n C 25 1 rfl rfl ?_
          refine g_callVi C 26 [] [.int v5] rfl (M_X10_lit hZ) cnX10_181 cwX10_lit ciX10_lit (hZ.at (i := 65) rfl) rfl rfl rfl rfl (Nat.le_of_ble_eq_true rfl) ⟨Nat.le_of_ble_eq_true rfl, Nat.le_of_ble_eq_true rfl⟩ h (fun r8 s9 h => ?_)
          refine g_callSi C 27 [.int r8] [.int v5] rfl (M_X10_bits hZ r8) cnX10_200 cwX10_bits csX10_bits rfl rfl rfl (Nat.le_of_ble_eq_true rfl) ⟨Nat.le_of_ble_eq_true rfl, Nat.le_of_ble_eq_true rfl⟩ h (fun r10 s11 h => ?_)
          refine g_icmp_ne C 28 54 rfl rfl h (fun h => ?_) (fun h => ?_)
          · refine g_iconst (v := 0) C 31 rfl rfl ?_
            refine g_istore_n C 32 [(2, .int 0), (4, .int v5), (0, .ref (ad 65)), (1, .int l1), (3, .int l3)] rfl (by decide) rfl ?_
            refine g_aload_n C 33 2 rfl rfl ?_
            refine g_callVv C 34 [] [] rfl (M_X10_minute hZ) cnX10_175 cwX10_minute ciX10_minute (hZ.at (i := 65) rfl) rfl rfl rfl rfl (Nat.le_of_ble_eq_true rfl) ⟨Nat.le_of_ble_eq_true rfl, Nat.le_of_ble_eq_true rfl⟩ h (fun r12 s13 h => ?_)
            refine g_iinc C 35 4 (l3 + 1) [(3, .int (l3 + 1)), (2, .int 0), (4, .int v5), (0, .ref (ad 65)), (1, .int l1)] rfl rfl (by decide) rfl rfl ?_
            refine g_goto C 36 4 rfl rfl ?_
            refine g_sub C [3, 4, 1, 0] [(0, .ref (ad 65)), (1, .int l1), (2, .int 0), (3, .int (l3 + 1))] rfl ?_
            exact ih _ _ _ h
          · refine g_iconst (v := 1) C 29 rfl rfl ?_
            refine g_goto C 30 55 rfl rfl ?_
            refine g_istore_n C 32 [(2, .int 1), (4, .int v5), (0, .ref (ad 65)), (1, .int l1), (3, .int l3)] rfl (by decide) rfl ?_
            refine g_aload_n C 33 2 rfl rfl ?_
            refine g_callVv C 34 [] [] rfl (M_X10_minute hZ) cnX10_175 cwX10_minute ciX10_minute (hZ.at (i := 65) rfl) rfl rfl rfl rfl (Nat.le_of_ble_eq_true rfl) ⟨Nat.le_of_ble_eq_true rfl, Nat.le_of_ble_eq_true rfl⟩ h (fun r14 s15 h => ?_)
            refine g_iinc C 35 4 (l3 + 1) [(3, .int (l3 + 1)), (2, .int 1), (4, .int v5), (0, .ref (ad 65)), (1, .int l1)] rfl rfl (by decide) rfl rfl ?_
            refine g_goto C 36 4 rfl rfl ?_
            refine g_sub C [3, 4, 1, 0] [(0, .ref (ad 65)), (1, .int l1), (2, .int 1), (3, .int (l3 + 1))] rfl ?_
            exact ih _ _ _ h
set_option maxRecDepth 20000 in
set_option maxHeartbeats 4000000 in
theorem M_X10_isSo {Z : List gH} (hZ : Lay Z) (l1 : Int32) : gMet yX10_isSo cX10_isSo 5 (some .boolean) 6 Z (fun ad => [.ref (ad 65), .int l1]) (F_X10_isSo Z l1) := by
  refine gMet_intro T_X10_isSo T_X10_isSo_ok rfl (fun _ => Nat.le_of_ble_eq_true rfl) (fun g ad σ z C h => ?_)
  show g 0 [(0, .ref (ad 65)), (1, .int l1)] [] σ
  rw [F_X10_isSo] at h
  refine g_iconst (v := 1) C 0 rfl rfl ?_
  refine g_istore_n C 1 [(2, .int 1), (0, .ref (ad 65)), (1, .int l1)] rfl (by decide) rfl ?_
  refine g_iconst (v := 0) C 2 rfl rfl ?_
  refine g_istore_n C 3 [(3, .int 0), (2, .int 1), (0, .ref (ad 65)), (1, .int l1)] rfl (by decide) rfl ?_
  refine g_sub C [2, 3, 1, 0] [(0, .ref (ad 65)), (1, .int l1), (2, .int 1), (3, .int 0)] rfl ?_
  exact C_F_X10_isSo_L4 C hZ _ _ _ _ _ h
def T_X10_began : List (Nat × Instr × Nat) := [(0, .iload_n 1, 1), (1, .invokestatic 203, 3), (4, .ifCond .ne 6, 3), (7, .ldc 115, 2), (9, .ireturn, 1), (10, .aload_n 0, 1), (11, .getfield 57, 3), (14, .iload_n 1, 1), (15, .iaload, 1), (16, .ifCond .ge 6, 3), (19, .ldc 206, 2), (21, .ireturn, 1), (22, .aload_n 0, 1), (23, .invokevirtual 191, 3), (26, .iconst 0, 1), (27, .istore_n 2, 1), (28, .iconst 0, 1), (29, .istore_n 3, 1), (30, .iload_n 3, 1), (31, .aload_n 0, 1), (32, .getfield 9, 3), (35, .iconst 1, 1), (36, .iaload, 1), (37, .if_icmp .ge 78, 3), (40, .iconst 0, 1), (41, .istore 4, 2), (43, .iload 4, 2), (45, .aload_n 0, 1), (46, .getfield 9, 3), (49, .iconst 1, 1), (50, .iaload, 1), (51, .if_icmp .ge 27, 3), (54, .aload_n 0, 1), (55, .iload 4, 2), (57, .iconst 3, 1), (58, .iload 4, 2), (60, .iload_n 3, 1), (61, .if_icmp .ne 7, 3), (64, .iconst 1, 1), (65, .goto 4, 3), (68, .iconst 0, 1), (69, .invokevirtual 107, 3), (72, .iinc 4 1, 3), (75, .goto (-32), 3), (78, .aload_n 0, 1), (79, .iload_n 1, 1), (80, .invokevirtual 207, 3), (83, .istore 4, 2), (85, .iload_n 2, 1), (86, .iload 4, 2), (88, .ifCond .eq 18, 3), (91, .aload_n 0, 1), (92, .iload_n 3, 1), (93, .iconst 2, 1), (94, .invokevirtual 92, 3), (97, .ifCond .le 9, 3), (100, .iconst 1, 1), (101, .iload_n 3, 1), (102, .ishl, 1), (103, .goto 4, 3), (106, .iconst 0, 1), (107, .ior, 1), (108, .istore_n 2, 1), (109, .iinc 3 1, 3), (112, .goto (-82), 3), (115, .iload_n 2, 1), (116, .ireturn, 1)]
theorem T_X10_began_ok : gTb cX10_began T_X10_began = true := by decide +kernel
def F_X10_began_L43 (Z : List gH) (k30 : Int32 → Int32 → gS → Option (Int32 × gS)) (l1 : Int32) : Nat → Int32 → Int32 → Int32 → gS → Option (Int32 × gS)
  | 0, _, _, _, _ => none
  | n + 1, l2, l3, l4, σ => if (σ 66 1) ≤ l4 then mCall (F_X10_isSo Z l1 σ) (fun r1 s2 => if r1 = 0 then mLet ((l2 ||| 0)) (fun v3 => k30 v3 (l3 + 1) s2) else mCall (F_X10_of Z l3 2 s2) (fun r4 s5 => if r4 ≤ 0 then mLet ((l2 ||| 0)) (fun v6 => k30 v6 (l3 + 1) s5) else mLet ((l2 ||| (1 <<< (l3 &&& 31)))) (fun v7 => k30 v7 (l3 + 1) s5))) else if l4 = l3 then mCall (F_X10_put Z l4 3 1 σ) (fun r10 s11 => F_X10_began_L43 Z k30 l1 n l2 l3 (l4 + 1) s11) else mCall (F_X10_put Z l4 3 0 σ) (fun r8 s9 => F_X10_began_L43 Z k30 l1 n l2 l3 (l4 + 1) s9)
def F_X10_began_L30 (Z : List gH) (l1 : Int32) : Nat → Int32 → Int32 → gS → Option (Int32 × gS)
  | 0, _, _, _ => none
  | n + 1, l2, l3, σ => if (σ 66 1) ≤ l3 then some (l2, σ) else F_X10_began_L43 Z (F_X10_began_L30 Z l1 n) l1 mFuel l2 l3 0 σ
def F_X10_began (Z : List gH) (l1 : Int32) (σ : gS) : Option (Int32 × gS) := mCall (F_X10_isSheet Z l1 σ) (fun r1 s2 => if r1 = 0 then some ((-1000000001), s2) else mIn 4 l1 (if 0 ≤ (s2 81 (nn l1)) then mCall (F_X10_thinks Z s2) (fun r3 s4 => F_X10_began_L30 Z l1 mFuel 0 0 s4) else some ((-1000000011), s2)))
set_option maxRecDepth 20000 in
set_option maxHeartbeats 4000000 in
theorem C_F_X10_began_L43 {g : Nat → List (Nat × Value) → List Value → gS → Prop} {Z : List gH} {ad : Nat → Nat} {z : Int32 × gS}  (C : gOk g T_X10_began RX10 5 (some .int) 7 Z ad z) (hZ : Lay Z) {k30 : Int32 → Int32 → gS → Option (Int32 × gS)} (l1 : Int32) (hk30 : ∀ (l2 : Int32) (l3 : Int32) (σ : gS), k30 l2 l3 σ = some z → g 30 [(0, .ref (ad 65)), (1, .int l1), (2, .int l2), (3, .int l3)] [] σ) : ∀ (n : Nat) (l2 : Int32) (l3 : Int32) (l4 : Int32) (σ : gS), F_X10_began_L43 Z k30 l1 n l2 l3 l4 σ = some z → g 43 [(0, .ref (ad 65)), (1, .int l1), (2, .int l2), (3, .int l3), (4, .int l4)] [] σ := by
  intro n
  induction n with
  | zero => intro l2 l3 l4 σ h; cases h
  | succ n ih =>
    intro l2 l3 l4 σ h
    rw [F_X10_began_L43] at h
    refine g_iload C 26 4 rfl rfl ?_
    refine g_aload_n C 27 0 rfl rfl ?_
    refine g_getr (b := 66) C 28 rfl flX10_9 (hZ.at (i := 65) rfl) rfl ?_
    refine g_iconst (v := 1) C 29 rfl rfl ?_
    refine g_ialdK C 30 1 rfl (hZ.at (i := 66) rfl) rfl (vp_k rfl) ?_
    refine g_icmp_ge C 31 78 rfl rfl h (fun h => ?_) (fun h => ?_)
    · refine g_aload_n C 44 0 rfl rfl ?_
      refine g_iload_n C 45 1 rfl rfl ?_
      refine g_callVi C 46 [.int l1] [] rfl (M_X10_isSo hZ l1) cnX10_207 cwX10_isSo ciX10_isSo (hZ.at (i := 65) rfl) rfl rfl rfl rfl (Nat.le_of_ble_eq_true rfl) ⟨Nat.le_of_ble_eq_true rfl, Nat.le_of_ble_eq_true rfl⟩ h (fun r1 s2 h => ?_)
      refine g_istore C 47 [(4, .int r1), (0, .ref (ad 65)), (1, .int l1), (2, .int l2), (3, .int l3)] rfl (by decide) rfl ?_
      refine g_iload_n C 48 3 rfl rfl ?_
      refine g_iload C 49 0 rfl rfl ?_
      refine g_if_eq C 50 106 rfl rfl h (fun h => ?_) (fun h => ?_)
      · refine g_iconst (v := 0) C 60 rfl rfl ?_
        refine g_ior C 61 rfl ?_
        refine g_let h (fun v3 h => ?_)
        refine g_istore_n C 62 [(2, .int v3), (4, .int r1), (0, .ref (ad 65)), (1, .int l1), (3, .int l3)] rfl (by decide) rfl ?_
        refine g_iinc C 63 4 (l3 + 1) [(3, .int (l3 + 1)), (2, .int v3), (4, .int r1), (0, .ref (ad 65)), (1, .int l1)] rfl rfl (by decide) rfl rfl ?_
        refine g_goto C 64 30 rfl rfl ?_
        refine g_sub C [3, 4, 1, 0] [(0, .ref (ad 65)), (1, .int l1), (2, .int v3), (3, .int (l3 + 1))] rfl ?_
        exact hk30 _ _ _ h
      · refine g_aload_n C 51 1 rfl rfl ?_
        refine g_iload_n C 52 4 rfl rfl ?_
        refine g_iconst (v := 2) C 53 rfl rfl ?_
        refine g_callVi C 54 [.int l3, .int 2] [.int l2] rfl (M_X10_of hZ l3 2) cnX10_92 cwX10_of ciX10_of (hZ.at (i := 65) rfl) rfl rfl rfl rfl (Nat.le_of_ble_eq_true rfl) ⟨Nat.le_of_ble_eq_true rfl, Nat.le_of_ble_eq_true rfl⟩ h (fun r4 s5 h => ?_)
        refine g_if_le C 55 106 rfl rfl h (fun h => ?_) (fun h => ?_)
        · refine g_iconst (v := 0) C 60 rfl rfl ?_
          refine g_ior C 61 rfl ?_
          refine g_let h (fun v6 h => ?_)
          refine g_istore_n C 62 [(2, .int v6), (4, .int r1), (0, .ref (ad 65)), (1, .int l1), (3, .int l3)] rfl (by decide) rfl ?_
          refine g_iinc C 63 4 (l3 + 1) [(3, .int (l3 + 1)), (2, .int v6), (4, .int r1), (0, .ref (ad 65)), (1, .int l1)] rfl rfl (by decide) rfl rfl ?_
          refine g_goto C 64 30 rfl rfl ?_
          refine g_sub C [3, 4, 1, 0] [(0, .ref (ad 65)), (1, .int l1), (2, .int v6), (3, .int (l3 + 1))] rfl ?_
          exact hk30 _ _ _ h
        · refine g_iconst (v := 1) C 56 rfl rfl ?_
          refine g_iload_n C 57 4 rfl rfl ?_
          refine g_ishl C 58 rfl ?_
          refine g_goto C 59 107 rfl rfl ?_
          refine g_ior C 61 rfl ?_
          refine g_let h (fun v7 h => ?_)
          refine g_istore_n C 62 [(2, .int v7), (4, .int r1), (0, .ref (ad 65)), (1, .int l1), (3, .int l3)] rfl (by decide) rfl ?_
          refine g_iinc C 63 4 (l3 + 1) [(3, .int (l3 + 1)), (2, .int v7), (4, .int r1), (0, .ref (ad 65)), (1, .int l1)] rfl rfl (by decide) rfl rfl ?_
          refine g_goto C 64 30 rfl rfl ?_
          refine g_sub C [3, 4, 1, 0] [(0, .ref (ad 65)), (1, .int l1), (2, .int v7), (3, .int (l3 + 1))] rfl ?_
          exact hk30 _ _ _ h
    · refine g_aload_n C 32 0 rfl rfl ?_
      refine g_iload C 33 4 rfl rfl ?_
      refine g_iconst (v := 3) C 34 rfl rfl ?_
      refine g_iload C 35 4 rfl rfl ?_
      refine g_iload_n C 36 3 rfl rfl ?_
      refine g_icmp_ne C 37 68 rfl rfl h (fun h => ?_) (fun h => ?_)
      · refine g_iconst (v := 0) C 40 rfl rfl ?_
        refine g_callVv C 41 [.int l4, .int 3, .int 0] [] rfl (M_X10_put hZ l4 3 0) cnX10_107 cwX10_put ciX10_put (hZ.at (i := 65) rfl) rfl rfl rfl rfl (Nat.le_of_ble_eq_true rfl) ⟨Nat.le_of_ble_eq_true rfl, Nat.le_of_ble_eq_true rfl⟩ h (fun r8 s9 h => ?_)
        refine g_iinc C 42 4 (l4 + 1) [(4, .int (l4 + 1)), (0, .ref (ad 65)), (1, .int l1), (2, .int l2), (3, .int l3)] rfl rfl (by decide) rfl rfl ?_
        refine g_goto C 43 43 rfl rfl ?_
        refine g_sub C [1, 2, 3, 4, 0] [(0, .ref (ad 65)), (1, .int l1), (2, .int l2), (3, .int l3), (4, .int (l4 + 1))] rfl ?_
        exact ih _ _ _ _ h
      · refine g_iconst (v := 1) C 38 rfl rfl ?_
        refine g_goto C 39 69 rfl rfl ?_
        refine g_callVv C 41 [.int l4, .int 3, .int 1] [] rfl (M_X10_put hZ l4 3 1) cnX10_107 cwX10_put ciX10_put (hZ.at (i := 65) rfl) rfl rfl rfl rfl (Nat.le_of_ble_eq_true rfl) ⟨Nat.le_of_ble_eq_true rfl, Nat.le_of_ble_eq_true rfl⟩ h (fun r10 s11 h => ?_)
        refine g_iinc C 42 4 (l4 + 1) [(4, .int (l4 + 1)), (0, .ref (ad 65)), (1, .int l1), (2, .int l2), (3, .int l3)] rfl rfl (by decide) rfl rfl ?_
        refine g_goto C 43 43 rfl rfl ?_
        refine g_sub C [1, 2, 3, 4, 0] [(0, .ref (ad 65)), (1, .int l1), (2, .int l2), (3, .int l3), (4, .int (l4 + 1))] rfl ?_
        exact ih _ _ _ _ h
set_option maxRecDepth 20000 in
set_option maxHeartbeats 4000000 in
theorem C_F_X10_began_L30 {g : Nat → List (Nat × Value) → List Value → gS → Prop} {Z : List gH} {ad : Nat → Nat} {z : Int32 × gS}  (C : gOk g T_X10_began RX10 5 (some .int) 7 Z ad z) (hZ : Lay Z) (l1 : Int32) : ∀ (n : Nat) (l2 : Int32) (l3 : Int32) (σ : gS), F_X10_began_L30 Z l1 n l2 l3 σ = some z → g 30 [(0, .ref (ad 65)), (1, .int l1), (2, .int l2), (3, .int l3)] [] σ := by
  intro n
  induction n with
  | zero => intro l2 l3 σ h; cases h
  | succ n ih =>
    intro l2 l3 σ h
    rw [F_X10_began_L30] at h
    refine g_iload_n C 18 3 rfl rfl ?_
    refine g_aload_n C 19 0 rfl rfl ?_
    refine g_getr (b := 66) C 20 rfl flX10_9 (hZ.at (i := 65) rfl) rfl ?_
    refine g_iconst (v := 1) C 21 rfl rfl ?_
    refine g_ialdK C 22 1 rfl (hZ.at (i := 66) rfl) rfl (vp_k rfl) ?_
    refine g_icmp_ge C 23 115 rfl rfl h (fun h => ?_) (fun h => ?_)
    · refine g_iload_n C 65 2 rfl rfl ?_
      exact g_ireturn C 66 rfl h
    · refine g_iconst (v := 0) C 24 rfl rfl ?_
      refine g_istore C 25 [(4, .int 0), (0, .ref (ad 65)), (1, .int l1), (2, .int l2), (3, .int l3)] rfl (by decide) rfl ?_
      refine g_sub C [1, 2, 3, 4, 0] [(0, .ref (ad 65)), (1, .int l1), (2, .int l2), (3, .int l3), (4, .int 0)] rfl ?_
      exact C_F_X10_began_L43 C hZ _ ih _ _ _ _ _ h
set_option maxRecDepth 20000 in
set_option maxHeartbeats 4000000 in
theorem M_X10_began {Z : List gH} (hZ : Lay Z) (l1 : Int32) : gMet yX10_began cX10_began 5 (some .int) 7 Z (fun ad => [.ref (ad 65), .int l1]) (F_X10_began Z l1) := by
  refine gMet_intro T_X10_began T_X10_began_ok rfl (fun _ => Nat.le_of_ble_eq_true rfl) (fun g ad σ z C h => ?_)
  show g 0 [(0, .ref (ad 65)), (1, .int l1)] [] σ
  rw [F_X10_began] at h
  refine g_iload_n C 0 1 rfl rfl ?_
  refine g_callSi C 1 [.int l1] [] rfl (M_X10_isSheet hZ l1) cnX10_203 cwX10_isSheet csX10_isSheet rfl rfl rfl (Nat.le_of_ble_eq_true rfl) ⟨Nat.le_of_ble_eq_true rfl, Nat.le_of_ble_eq_true rfl⟩ h (fun r1 s2 h => ?_)
  refine g_if_ne C 2 10 rfl rfl h (fun h => ?_) (fun h => ?_)
  · refine g_aload_n C 5 0 rfl rfl ?_
    refine g_getr (b := 81) C 6 rfl flX10_57 (hZ.at (i := 65) rfl) rfl ?_
    refine g_iload_n C 7 1 rfl rfl ?_
    refine g_iald C 8 rfl (hZ.at (i := 81) rfl) h (fun h => ?_)
    refine g_if_ge C 9 22 rfl rfl h (fun h => ?_) (fun h => ?_)
    · refine g_aload_n C 12 0 rfl rfl ?_
      refine g_callVv C 13 [] [] rfl (M_X10_thinks hZ) cnX10_191 cwX10_thinks ciX10_thinks (hZ.at (i := 65) rfl) rfl rfl rfl rfl (Nat.le_of_ble_eq_true rfl) ⟨Nat.le_of_ble_eq_true rfl, Nat.le_of_ble_eq_true rfl⟩ h (fun r3 s4 h => ?_)
      refine g_iconst (v := 0) C 14 rfl rfl ?_
      refine g_istore_n C 15 [(2, .int 0), (0, .ref (ad 65)), (1, .int l1)] rfl (by decide) rfl ?_
      refine g_iconst (v := 0) C 16 rfl rfl ?_
      refine g_istore_n C 17 [(3, .int 0), (2, .int 0), (0, .ref (ad 65)), (1, .int l1)] rfl (by decide) rfl ?_
      refine g_sub C [2, 3, 1, 0] [(0, .ref (ad 65)), (1, .int l1), (2, .int 0), (3, .int 0)] rfl ?_
      exact C_F_X10_began_L30 C hZ _ _ _ _ _ h
    · refine g_ldc C 10 rfl kcX10_206 ?_
      exact g_ireturn C 11 rfl h
  · refine g_ldc C 3 rfl kcX10_115 ?_
    exact g_ireturn C 4 rfl h
def T_X10_like : List (Nat × Instr × Nat) := [(0, .iload_n 1, 1), (1, .invokestatic 203, 3), (4, .ifCond .eq 12, 3), (7, .iload_n 2, 1), (8, .iconst 0, 1), (9, .iconst 1, 1), (10, .invokestatic 84, 3), (13, .ifCond .ne 6, 3), (16, .ldc 115, 2), (18, .ireturn, 1), (19, .aload_n 0, 1), (20, .getfield 57, 3), (23, .iload_n 1, 1), (24, .iaload, 1), (25, .ifCond .ge 6, 3), (28, .ldc 206, 2), (30, .ireturn, 1), (31, .aload_n 0, 1), (32, .invokevirtual 191, 3), (35, .iconst 0, 1), (36, .istore_n 3, 1), (37, .iload_n 3, 1), (38, .bipush 8, 2), (40, .if_icmp .ge 16, 3), (43, .aload_n 0, 1), (44, .getfield 28, 3), (47, .iload_n 3, 1), (48, .iconst 0, 1), (49, .iastore, 1), (50, .iinc 3 1, 3), (53, .goto (-16), 3), (56, .iconst 0, 1), (57, .istore_n 3, 1), (58, .iload_n 3, 1), (59, .aload_n 0, 1), (60, .getfield 60, 3), (63, .iload_n 1, 1), (64, .iaload, 1), (65, .if_icmp .ge 87, 3), (68, .aload_n 0, 1), (69, .getfield 63, 3), (72, .bipush 24, 2), (74, .iload_n 1, 1), (75, .imul, 1), (76, .iload_n 3, 1), (77, .iadd, 1), (78, .iaload, 1), (79, .istore 4, 2), (81, .iconst 0, 1), (82, .istore 5, 2), (84, .iload 5, 2), (86, .bipush 8, 2), (88, .if_icmp .ge 54, 3), (91, .iload 4, 2), (93, .ldc 161, 2), (95, .if_icmp .eq 47, 3), (98, .iload 4, 2), (100, .aload_n 0, 1), (101, .getfield 9, 3), (104, .bipush 10, 2), (106, .iload 5, 2), (108, .iadd, 1), (109, .iaload, 1), (110, .isub, 1), (111, .istore 6, 2), (113, .aload_n 0, 1), (114, .getfield 28, 3), (117, .iload 5, 2), (119, .dup2, 1), (120, .iaload, 1), (121, .iload 6, 2), (123, .ifCond .ge 9, 3), (126, .iload 6, 2), (128, .ineg, 1), (129, .goto 5, 3), (132, .iload 6, 2), (134, .iadd, 1), (135, .iastore, 1), (136, .iinc 5 1, 3), (139, .goto (-55), 3), (142, .aload_n 0, 1), (143, .invokevirtual 175, 3), (146, .iinc 3 1, 3), (149, .goto (-91), 3), (152, .aload_n 0, 1), (153, .invokevirtual 194, 3), (156, .iconst 0, 1), (157, .istore_n 3, 1), (158, .iconst 1, 1), (159, .istore 4, 2), (161, .iload 4, 2), (163, .bipush 8, 2), (165, .if_icmp .ge 32, 3), (168, .aload_n 0, 1), (169, .getfield 28, 3), (172, .iload 4, 2), (174, .iaload, 1), (175, .aload_n 0, 1), (176, .getfield 28, 3), (179, .iload_n 3, 1), (180, .iaload, 1), (181, .if_icmp .ge 8, 3), (184, .iload 4, 2), (186, .goto 4, 3), (189, .iload_n 3, 1), (190, .istore_n 3, 1), (191, .iinc 4 1, 3), (194, .goto (-33), 3), (197, .iload_n 2, 1), (198, .ifCond .ne 7, 3), (201, .iload_n 3, 1), (202, .goto 9, 3), (205, .aload_n 0, 1), (206, .getfield 28, 3), (209, .iload_n 3, 1), (210, .iaload, 1), (211, .ireturn, 1)]
theorem T_X10_like_ok : gTb cX10_like T_X10_like = true := by decide +kernel
def F_X10_like_L161 (Z : List gH) (l2 : Int32) : Nat → Int32 → Int32 → gS → Option (Int32 × gS)
  | 0, _, _, _ => none
  | n + 1, l3, l4, σ => if 8 ≤ l4 then if l2 = 0 then some (l3, σ) else mIn 8 l3 (some ((σ 72 (nn l3)), σ)) else mIn 8 l4 (mIn 8 l3 (if (σ 72 (nn l3)) ≤ (σ 72 (nn l4)) then F_X10_like_L161 Z l2 n l3 (l4 + 1) σ else F_X10_like_L161 Z l2 n l4 (l4 + 1) σ))
def F_X10_like_L84 (Z : List gH) (k58 : Int32 → gS → Option (Int32 × gS)) (l1 : Int32) (l2 : Int32) : Nat → Int32 → Int32 → Int32 → gS → Option (Int32 × gS)
  | 0, _, _, _, _ => none
  | n + 1, l3, l4, l5, σ => if 8 ≤ l5 then mCall (F_X10_minute Z σ) (fun r1 s2 => k58 (l3 + 1) s2) else if l4 = (-1000000005) then mCall (F_X10_minute Z σ) (fun r3 s4 => k58 (l3 + 1) s4) else mIn 1508 (10 + l5) (mLet ((l4 - (σ 66 (nn (10 + l5))))) (fun v5 => mIn 8 l5 (if 0 ≤ v5 then mIn 8 l5 (mLet (gu σ 72 (nn l5) ((σ 72 (nn l5)) + v5)) (fun s6 => F_X10_like_L84 Z k58 l1 l2 n l3 l4 (l5 + 1) s6)) else mIn 8 l5 (mLet (gu σ 72 (nn l5) ((σ 72 (nn l5)) + (-v5))) (fun s7 => F_X10_like_L84 Z k58 l1 l2 n l3 l4 (l5 + 1) s7)))))
def F_X10_like_L58 (Z : List gH) (l1 : Int32) (l2 : Int32) : Nat → Int32 → gS → Option (Int32 × gS)
  | 0, _, _ => none
  | n + 1, l3, σ => mIn 4 l1 (if (σ 82 (nn l1)) ≤ l3 then mCall (F_X10_putsBack Z σ) (fun r1 s2 => F_X10_like_L161 Z l2 mFuel 0 1 s2) else mIn 96 ((24 * l1) + l3) (mLet ((σ 83 (nn ((24 * l1) + l3)))) (fun v3 => F_X10_like_L84 Z (F_X10_like_L58 Z l1 l2 n) l1 l2 mFuel l3 v3 0 σ)))
def F_X10_like_L37 (Z : List gH) (l1 : Int32) (l2 : Int32) : Nat → Int32 → gS → Option (Int32 × gS)
  | 0, _, _ => none
  | n + 1, l3, σ => if 8 ≤ l3 then F_X10_like_L58 Z l1 l2 mFuel 0 σ else mIn 8 l3 (mLet (gu σ 72 (nn l3) 0) (fun s1 => F_X10_like_L37 Z l1 l2 n (l3 + 1) s1))
def F_X10_like (Z : List gH) (l1 : Int32) (l2 : Int32) (σ : gS) : Option (Int32 × gS) := mCall (F_X10_isSheet Z l1 σ) (fun r1 s2 => if r1 = 0 then some ((-1000000001), s2) else mCall (F_X10_in Z l2 0 1 s2) (fun r3 s4 => if r3 = 0 then some ((-1000000001), s4) else mIn 4 l1 (if 0 ≤ (s4 81 (nn l1)) then mCall (F_X10_thinks Z s4) (fun r5 s6 => F_X10_like_L37 Z l1 l2 mFuel 0 s6) else some ((-1000000011), s4))))
set_option maxRecDepth 20000 in
set_option maxHeartbeats 4000000 in
theorem C_F_X10_like_L161 {g : Nat → List (Nat × Value) → List Value → gS → Prop} {Z : List gH} {ad : Nat → Nat} {z : Int32 × gS}  (C : gOk g T_X10_like RX10 7 (some .int) 6 Z ad z) (hZ : Lay Z) (l2 : Int32) : ∀ (n : Nat) (l3 : Int32) (l4 : Int32) (σ : gS), F_X10_like_L161 Z l2 n l3 l4 σ = some z → g 161 [(0, .ref (ad 65)), (2, .int l2), (3, .int l3), (4, .int l4)] [] σ := by
  intro n
  induction n with
  | zero => intro l3 l4 σ h; cases h
  | succ n ih =>
    intro l3 l4 σ h
    rw [F_X10_like_L161] at h
    refine g_iload C 90 3 rfl rfl ?_
    refine g_bipush (v := 8) C 91 rfl rfl ?_
    refine g_icmp_ge C 92 197 rfl rfl h (fun h => ?_) (fun h => ?_)
    · refine g_iload_n C 108 1 rfl rfl ?_
      refine g_if_ne C 109 205 rfl rfl h (fun h => ?_) (fun h => ?_)
      · refine g_aload_n C 112 0 rfl rfl ?_
        refine g_getr (b := 72) C 113 rfl flX10_28 (hZ.at (i := 65) rfl) rfl ?_
        refine g_iload_n C 114 2 rfl rfl ?_
        refine g_iald C 115 rfl (hZ.at (i := 72) rfl) h (fun h => ?_)
        exact g_ireturn C 116 rfl h
      · refine g_iload_n C 110 2 rfl rfl ?_
        refine g_goto C 111 211 rfl rfl ?_
        exact g_ireturn C 116 rfl h
    · refine g_aload_n C 93 0 rfl rfl ?_
      refine g_getr (b := 72) C 94 rfl flX10_28 (hZ.at (i := 65) rfl) rfl ?_
      refine g_iload C 95 3 rfl rfl ?_
      refine g_iald C 96 rfl (hZ.at (i := 72) rfl) h (fun h => ?_)
      refine g_aload_n C 97 0 rfl rfl ?_
      refine g_getr (b := 72) C 98 rfl flX10_28 (hZ.at (i := 65) rfl) rfl ?_
      refine g_iload_n C 99 2 rfl rfl ?_
      refine g_iald C 100 rfl (hZ.at (i := 72) rfl) h (fun h => ?_)
      refine g_icmp_ge C 101 189 rfl rfl h (fun h => ?_) (fun h => ?_)
      · refine g_iload_n C 104 2 rfl rfl ?_
        refine g_istore_n C 105 [(3, .int l3), (0, .ref (ad 65)), (2, .int l2), (4, .int l4)] rfl (by decide) rfl ?_
        refine g_iinc C 106 3 (l4 + 1) [(4, .int (l4 + 1)), (3, .int l3), (0, .ref (ad 65)), (2, .int l2)] rfl rfl (by decide) rfl rfl ?_
        refine g_goto C 107 161 rfl rfl ?_
        refine g_sub C [2, 3, 1, 0] [(0, .ref (ad 65)), (2, .int l2), (3, .int l3), (4, .int (l4 + 1))] rfl ?_
        exact ih _ _ _ h
      · refine g_iload C 102 3 rfl rfl ?_
        refine g_goto C 103 190 rfl rfl ?_
        refine g_istore_n C 105 [(3, .int l4), (0, .ref (ad 65)), (2, .int l2), (4, .int l4)] rfl (by decide) rfl ?_
        refine g_iinc C 106 3 (l4 + 1) [(4, .int (l4 + 1)), (3, .int l4), (0, .ref (ad 65)), (2, .int l2)] rfl rfl (by decide) rfl rfl ?_
        refine g_goto C 107 161 rfl rfl ?_
        refine g_sub C [2, 3, 1, 0] [(0, .ref (ad 65)), (2, .int l2), (3, .int l4), (4, .int (l4 + 1))] rfl ?_
        exact ih _ _ _ h
set_option maxRecDepth 20000 in
set_option maxHeartbeats 4000000 in
theorem C_F_X10_like_L84 {g : Nat → List (Nat × Value) → List Value → gS → Prop} {Z : List gH} {ad : Nat → Nat} {z : Int32 × gS}  (C : gOk g T_X10_like RX10 7 (some .int) 6 Z ad z) (hZ : Lay Z) {k58 : Int32 → gS → Option (Int32 × gS)} (l1 : Int32) (l2 : Int32) (hk58 : ∀ (l3 : Int32) (σ : gS), k58 l3 σ = some z → g 58 [(0, .ref (ad 65)), (1, .int l1), (2, .int l2), (3, .int l3)] [] σ) : ∀ (n : Nat) (l3 : Int32) (l4 : Int32) (l5 : Int32) (σ : gS), F_X10_like_L84 Z k58 l1 l2 n l3 l4 l5 σ = some z → g 84 [(0, .ref (ad 65)), (1, .int l1), (2, .int l2), (3, .int l3), (4, .int l4), (5, .int l5)] [] σ := by
  intro n
  induction n with
  | zero => intro l3 l4 l5 σ h; cases h
  | succ n ih =>
    intro l3 l4 l5 σ h
    rw [F_X10_like_L84] at h
    refine g_iload C 50 5 rfl rfl ?_
    refine g_bipush (v := 8) C 51 rfl rfl ?_
    refine g_icmp_ge C 52 142 rfl rfl h (fun h => ?_) (fun h => ?_)
    · refine g_aload_n C 80 0 rfl rfl ?_
      refine g_callVv C 81 [] [] rfl (M_X10_minute hZ) cnX10_175 cwX10_minute ciX10_minute (hZ.at (i := 65) rfl) rfl rfl rfl rfl (Nat.le_of_ble_eq_true rfl) ⟨Nat.le_of_ble_eq_true rfl, Nat.le_of_ble_eq_true rfl⟩ h (fun r1 s2 h => ?_)
      refine g_iinc C 82 3 (l3 + 1) [(3, .int (l3 + 1)), (0, .ref (ad 65)), (1, .int l1), (2, .int l2), (4, .int l4), (5, .int l5)] rfl rfl (by decide) rfl rfl ?_
      refine g_goto C 83 58 rfl rfl ?_
      refine g_sub C [1, 2, 3, 0] [(0, .ref (ad 65)), (1, .int l1), (2, .int l2), (3, .int (l3 + 1))] rfl ?_
      exact hk58 _ _ h
    · refine g_iload C 53 4 rfl rfl ?_
      refine g_ldc C 54 rfl kcX10_161 ?_
      refine g_icmp_eq C 55 142 rfl rfl h (fun h => ?_) (fun h => ?_)
      · refine g_aload_n C 80 0 rfl rfl ?_
        refine g_callVv C 81 [] [] rfl (M_X10_minute hZ) cnX10_175 cwX10_minute ciX10_minute (hZ.at (i := 65) rfl) rfl rfl rfl rfl (Nat.le_of_ble_eq_true rfl) ⟨Nat.le_of_ble_eq_true rfl, Nat.le_of_ble_eq_true rfl⟩ h (fun r3 s4 h => ?_)
        refine g_iinc C 82 3 (l3 + 1) [(3, .int (l3 + 1)), (0, .ref (ad 65)), (1, .int l1), (2, .int l2), (4, .int l4), (5, .int l5)] rfl rfl (by decide) rfl rfl ?_
        refine g_goto C 83 58 rfl rfl ?_
        refine g_sub C [1, 2, 3, 0] [(0, .ref (ad 65)), (1, .int l1), (2, .int l2), (3, .int (l3 + 1))] rfl ?_
        exact hk58 _ _ h
      · refine g_iload C 56 4 rfl rfl ?_
        refine g_aload_n C 57 0 rfl rfl ?_
        refine g_getr (b := 66) C 58 rfl flX10_9 (hZ.at (i := 65) rfl) rfl ?_
        refine g_bipush (v := 10) C 59 rfl rfl ?_
        refine g_iload C 60 5 rfl rfl ?_
        refine g_iadd C 61 rfl ?_
        refine g_iald C 62 rfl (hZ.at (i := 66) rfl) h (fun h => ?_)
        refine g_isub C 63 rfl ?_
        refine g_let h (fun v5 h => ?_)
        refine g_istore C 64 [(6, .int v5), (0, .ref (ad 65)), (1, .int l1), (2, .int l2), (3, .int l3), (4, .int l4), (5, .int l5)] rfl (by decide) rfl ?_
        refine g_aload_n C 65 1 rfl rfl ?_
        refine g_getr (b := 72) C 66 rfl flX10_28 (hZ.at (i := 65) rfl) rfl ?_
        refine g_iload C 67 6 rfl rfl ?_
        refine g_dup2 C 68 rfl rfl rfl ?_
        refine g_iald C 69 rfl (hZ.at (i := 72) rfl) h (fun h => ?_)
        refine g_iload C 70 0 rfl rfl ?_
        refine g_if_ge C 71 132 rfl rfl h (fun h => ?_) (fun h => ?_)
        · refine g_iload C 75 0 rfl rfl ?_
          refine g_iadd C 76 rfl ?_
          refine g_iast C 77 rfl (hZ.at (i := 72) rfl) h (fun s6 h => ?_)
          refine g_iinc C 78 6 (l5 + 1) [(5, .int (l5 + 1)), (6, .int v5), (0, .ref (ad 65)), (1, .int l1), (2, .int l2), (3, .int l3), (4, .int l4)] rfl rfl (by decide) rfl rfl ?_
          refine g_goto C 79 84 rfl rfl ?_
          refine g_sub C [2, 3, 4, 5, 6, 0] [(0, .ref (ad 65)), (1, .int l1), (2, .int l2), (3, .int l3), (4, .int l4), (5, .int (l5 + 1))] rfl ?_
          exact ih _ _ _ _ h
        · refine g_iload C 72 0 rfl rfl ?_
          refine g_ineg C 73 rfl ?_
          refine g_goto C 74 134 rfl rfl ?_
          refine g_iadd C 76 rfl ?_
          refine g_iast C 77 rfl (hZ.at (i := 72) rfl) h (fun s7 h => ?_)
          refine g_iinc C 78 6 (l5 + 1) [(5, .int (l5 + 1)), (6, .int v5), (0, .ref (ad 65)), (1, .int l1), (2, .int l2), (3, .int l3), (4, .int l4)] rfl rfl (by decide) rfl rfl ?_
          refine g_goto C 79 84 rfl rfl ?_
          refine g_sub C [2, 3, 4, 5, 6, 0] [(0, .ref (ad 65)), (1, .int l1), (2, .int l2), (3, .int l3), (4, .int l4), (5, .int (l5 + 1))] rfl ?_
          exact ih _ _ _ _ h
set_option maxRecDepth 20000 in
set_option maxHeartbeats 4000000 in
theorem C_F_X10_like_L58 {g : Nat → List (Nat × Value) → List Value → gS → Prop} {Z : List gH} {ad : Nat → Nat} {z : Int32 × gS}  (C : gOk g T_X10_like RX10 7 (some .int) 6 Z ad z) (hZ : Lay Z) (l1 : Int32) (l2 : Int32) : ∀ (n : Nat) (l3 : Int32) (σ : gS), F_X10_like_L58 Z l1 l2 n l3 σ = some z → g 58 [(0, .ref (ad 65)), (1, .int l1), (2, .int l2), (3, .int l3)] [] σ := by
  intro n
  induction n with
  | zero => intro l3 σ h; cases h
  | succ n ih =>
    intro l3 σ h
    rw [F_X10_like_L58] at h
    refine g_iload_n C 33 3 rfl rfl ?_
    refine g_aload_n C 34 0 rfl rfl ?_
    refine g_getr (b := 82) C 35 rfl flX10_60 (hZ.at (i := 65) rfl) rfl ?_
    refine g_iload_n C 36 1 rfl rfl ?_
    refine g_iald C 37 rfl (hZ.at (i := 82) rfl) h (fun h => ?_)
    refine g_icmp_ge C 38 152 rfl rfl h (fun h => ?_) (fun h => ?_)
    · refine g_aload_n C 84 0 rfl rfl ?_
      refine g_callVv C 85 [] [] rfl (M_X10_putsBack hZ) cnX10_194 cwX10_putsBack ciX10_putsBack (hZ.at (i := 65) rfl) rfl rfl rfl rfl (Nat.le_of_ble_eq_true rfl) ⟨Nat.le_of_ble_eq_true rfl, Nat.le_of_ble_eq_true rfl⟩ h (fun r1 s2 h => ?_)
      refine g_iconst (v := 0) C 86 rfl rfl ?_
      refine g_istore_n C 87 [(3, .int 0), (0, .ref (ad 65)), (1, .int l1), (2, .int l2)] rfl (by decide) rfl ?_
      refine g_iconst (v := 1) C 88 rfl rfl ?_
      refine g_istore C 89 [(4, .int 1), (3, .int 0), (0, .ref (ad 65)), (1, .int l1), (2, .int l2)] rfl (by decide) rfl ?_
      refine g_sub C [2, 4, 1, 0] [(0, .ref (ad 65)), (2, .int l2), (3, .int 0), (4, .int 1)] rfl ?_
      exact C_F_X10_like_L161 C hZ _ _ _ _ _ h
    · refine g_aload_n C 39 0 rfl rfl ?_
      refine g_getr (b := 83) C 40 rfl flX10_63 (hZ.at (i := 65) rfl) rfl ?_
      refine g_bipush (v := 24) C 41 rfl rfl ?_
      refine g_iload_n C 42 1 rfl rfl ?_
      refine g_imul C 43 rfl ?_
      refine g_iload_n C 44 3 rfl rfl ?_
      refine g_iadd C 45 rfl ?_
      refine g_iald C 46 rfl (hZ.at (i := 83) rfl) h (fun h => ?_)
      refine g_let h (fun v3 h => ?_)
      refine g_istore C 47 [(4, .int v3), (0, .ref (ad 65)), (1, .int l1), (2, .int l2), (3, .int l3)] rfl (by decide) rfl ?_
      refine g_iconst (v := 0) C 48 rfl rfl ?_
      refine g_istore C 49 [(5, .int 0), (4, .int v3), (0, .ref (ad 65)), (1, .int l1), (2, .int l2), (3, .int l3)] rfl (by decide) rfl ?_
      refine g_sub C [2, 3, 4, 5, 1, 0] [(0, .ref (ad 65)), (1, .int l1), (2, .int l2), (3, .int l3), (4, .int v3), (5, .int 0)] rfl ?_
      exact C_F_X10_like_L84 C hZ _ _ ih _ _ _ _ _ h
set_option maxRecDepth 20000 in
set_option maxHeartbeats 4000000 in
theorem C_F_X10_like_L37 {g : Nat → List (Nat × Value) → List Value → gS → Prop} {Z : List gH} {ad : Nat → Nat} {z : Int32 × gS}  (C : gOk g T_X10_like RX10 7 (some .int) 6 Z ad z) (hZ : Lay Z) (l1 : Int32) (l2 : Int32) : ∀ (n : Nat) (l3 : Int32) (σ : gS), F_X10_like_L37 Z l1 l2 n l3 σ = some z → g 37 [(0, .ref (ad 65)), (1, .int l1), (2, .int l2), (3, .int l3)] [] σ := by
  intro n
  induction n with
  | zero => intro l3 σ h; cases h
  | succ n ih =>
    intro l3 σ h
    rw [F_X10_like_L37] at h
    refine g_iload_n C 21 3 rfl rfl ?_
    refine g_bipush (v := 8) C 22 rfl rfl ?_
    refine g_icmp_ge C 23 56 rfl rfl h (fun h => ?_) (fun h => ?_)
    · refine g_iconst (v := 0) C 31 rfl rfl ?_
      refine g_istore_n C 32 [(3, .int 0), (0, .ref (ad 65)), (1, .int l1), (2, .int l2)] rfl (by decide) rfl ?_
      refine g_sub C [1, 2, 3, 0] [(0, .ref (ad 65)), (1, .int l1), (2, .int l2), (3, .int 0)] rfl ?_
      exact C_F_X10_like_L58 C hZ _ _ _ _ _ h
    · refine g_aload_n C 24 0 rfl rfl ?_
      refine g_getr (b := 72) C 25 rfl flX10_28 (hZ.at (i := 65) rfl) rfl ?_
      refine g_iload_n C 26 3 rfl rfl ?_
      refine g_iconst (v := 0) C 27 rfl rfl ?_
      refine g_iast C 28 rfl (hZ.at (i := 72) rfl) h (fun s1 h => ?_)
      refine g_iinc C 29 3 (l3 + 1) [(3, .int (l3 + 1)), (0, .ref (ad 65)), (1, .int l1), (2, .int l2)] rfl rfl (by decide) rfl rfl ?_
      refine g_goto C 30 37 rfl rfl ?_
      refine g_sub C [1, 2, 3, 0] [(0, .ref (ad 65)), (1, .int l1), (2, .int l2), (3, .int (l3 + 1))] rfl ?_
      exact ih _ _ h
set_option maxRecDepth 20000 in
set_option maxHeartbeats 4000000 in
theorem M_X10_like {Z : List gH} (hZ : Lay Z) (l1 : Int32) (l2 : Int32) : gMet yX10_like cX10_like 7 (some .int) 6 Z (fun ad => [.ref (ad 65), .int l1, .int l2]) (F_X10_like Z l1 l2) := by
  refine gMet_intro T_X10_like T_X10_like_ok rfl (fun _ => Nat.le_of_ble_eq_true rfl) (fun g ad σ z C h => ?_)
  show g 0 [(0, .ref (ad 65)), (1, .int l1), (2, .int l2)] [] σ
  rw [F_X10_like] at h
  refine g_iload_n C 0 1 rfl rfl ?_
  refine g_callSi C 1 [.int l1] [] rfl (M_X10_isSheet hZ l1) cnX10_203 cwX10_isSheet csX10_isSheet rfl rfl rfl (Nat.le_of_ble_eq_true rfl) ⟨Nat.le_of_ble_eq_true rfl, Nat.le_of_ble_eq_true rfl⟩ h (fun r1 s2 h => ?_)
  refine g_if_eq C 2 16 rfl rfl h (fun h => ?_) (fun h => ?_)
  · refine g_ldc C 8 rfl kcX10_115 ?_
    exact g_ireturn C 9 rfl h
  · refine g_iload_n C 3 2 rfl rfl ?_
    refine g_iconst (v := 0) C 4 rfl rfl ?_
    refine g_iconst (v := 1) C 5 rfl rfl ?_
    refine g_callSi C 6 [.int l2, .int 0, .int 1] [] rfl (M_X10_in hZ l2 0 1) cnX10_84 cwX10_in csX10_in rfl rfl rfl (Nat.le_of_ble_eq_true rfl) ⟨Nat.le_of_ble_eq_true rfl, Nat.le_of_ble_eq_true rfl⟩ h (fun r3 s4 h => ?_)
    refine g_if_ne C 7 19 rfl rfl h (fun h => ?_) (fun h => ?_)
    · refine g_aload_n C 10 0 rfl rfl ?_
      refine g_getr (b := 81) C 11 rfl flX10_57 (hZ.at (i := 65) rfl) rfl ?_
      refine g_iload_n C 12 1 rfl rfl ?_
      refine g_iald C 13 rfl (hZ.at (i := 81) rfl) h (fun h => ?_)
      refine g_if_ge C 14 31 rfl rfl h (fun h => ?_) (fun h => ?_)
      · refine g_aload_n C 17 0 rfl rfl ?_
        refine g_callVv C 18 [] [] rfl (M_X10_thinks hZ) cnX10_191 cwX10_thinks ciX10_thinks (hZ.at (i := 65) rfl) rfl rfl rfl rfl (Nat.le_of_ble_eq_true rfl) ⟨Nat.le_of_ble_eq_true rfl, Nat.le_of_ble_eq_true rfl⟩ h (fun r5 s6 h => ?_)
        refine g_iconst (v := 0) C 19 rfl rfl ?_
        refine g_istore_n C 20 [(3, .int 0), (0, .ref (ad 65)), (1, .int l1), (2, .int l2)] rfl (by decide) rfl ?_
        refine g_sub C [1, 2, 3, 0] [(0, .ref (ad 65)), (1, .int l1), (2, .int l2), (3, .int 0)] rfl ?_
        exact C_F_X10_like_L37 C hZ _ _ _ _ _ h
      · refine g_ldc C 15 rfl kcX10_206 ?_
        exact g_ireturn C 16 rfl h
    · refine g_ldc C 8 rfl kcX10_115 ?_
      exact g_ireturn C 9 rfl h
def T_X10_fee : List (Nat × Instr × Nat) := [(0, .aload_n 0, 1), (1, .iconst 1, 1), (2, .invokevirtual 88, 3), (5, .istore_n 1, 1), (6, .aload_n 0, 1), (7, .getfield 54, 3), (10, .iconst 0, 1), (11, .aload_n 0, 1), (12, .getfield 9, 3), (15, .bipush 6, 2), (17, .iaload, 1), (18, .iastore, 1), (19, .aload_n 0, 1), (20, .getfield 54, 3), (23, .iconst 1, 1), (24, .aload_n 0, 1), (25, .getfield 9, 3), (28, .bipush 7, 2), (30, .iaload, 1), (31, .iastore, 1), (32, .iload_n 1, 1), (33, .ifCond .ge 13, 3), (36, .aload_n 0, 1), (37, .getfield 9, 3), (40, .bipush 6, 2), (42, .iaload, 1), (43, .goto 8, 3), (46, .aload_n 0, 1), (47, .iload_n 1, 1), (48, .invokevirtual 96, 3), (51, .ireturn, 1)]
theorem T_X10_fee_ok : gTb cX10_fee T_X10_fee = true := by decide +kernel
def F_X10_fee (Z : List gH) (σ : gS) : Option (Int32 × gS) := mCall (F_X10_counts Z 1 σ) (fun r1 s2 => mLet (gu s2 80 0 (s2 66 6)) (fun s3 => mLet (gu s3 80 1 (s3 66 7)) (fun s4 => if 0 ≤ r1 then mCall (F_X10_worksOut Z r1 s4) (fun r5 s6 => some (r5, s6)) else some ((s4 66 6), s4))))
set_option maxRecDepth 20000 in
set_option maxHeartbeats 4000000 in
theorem M_X10_fee {Z : List gH} (hZ : Lay Z) : gMet yX10_fee cX10_fee 2 (some .int) 3 Z (fun ad => [.ref (ad 65)]) (F_X10_fee Z) := by
  refine gMet_intro T_X10_fee T_X10_fee_ok rfl (fun _ => Nat.le_of_ble_eq_true rfl) (fun g ad σ z C h => ?_)
  show g 0 [(0, .ref (ad 65))] [] σ
  rw [F_X10_fee] at h
  refine g_aload_n C 0 0 rfl rfl ?_
  refine g_iconst (v := 1) C 1 rfl rfl ?_
  refine g_callVi C 2 [.int 1] [] rfl (M_X10_counts hZ 1) cnX10_88 cwX10_counts ciX10_counts (hZ.at (i := 65) rfl) rfl rfl rfl rfl (Nat.le_of_ble_eq_true rfl) ⟨Nat.le_of_ble_eq_true rfl, Nat.le_of_ble_eq_true rfl⟩ h (fun r1 s2 h => ?_)
  refine g_istore_n C 3 [(1, .int r1), (0, .ref (ad 65))] rfl (by decide) rfl ?_
  refine g_aload_n C 4 1 rfl rfl ?_
  refine g_getr (b := 80) C 5 rfl flX10_54 (hZ.at (i := 65) rfl) rfl ?_
  refine g_iconst (v := 0) C 6 rfl rfl ?_
  refine g_aload_n C 7 1 rfl rfl ?_
  refine g_getr (b := 66) C 8 rfl flX10_9 (hZ.at (i := 65) rfl) rfl ?_
  refine g_bipush (v := 6) C 9 rfl rfl ?_
  refine g_ialdK C 10 6 rfl (hZ.at (i := 66) rfl) rfl (vp_k rfl) ?_
  refine g_iastK C 11 0 rfl (hZ.at (i := 80) rfl) rfl (vp_k rfl) h (fun s3 h => ?_)
  refine g_aload_n C 12 1 rfl rfl ?_
  refine g_getr (b := 80) C 13 rfl flX10_54 (hZ.at (i := 65) rfl) rfl ?_
  refine g_iconst (v := 1) C 14 rfl rfl ?_
  refine g_aload_n C 15 1 rfl rfl ?_
  refine g_getr (b := 66) C 16 rfl flX10_9 (hZ.at (i := 65) rfl) rfl ?_
  refine g_bipush (v := 7) C 17 rfl rfl ?_
  refine g_ialdK C 18 7 rfl (hZ.at (i := 66) rfl) rfl (vp_k rfl) ?_
  refine g_iastK C 19 1 rfl (hZ.at (i := 80) rfl) rfl (vp_k rfl) h (fun s4 h => ?_)
  refine g_iload_n C 20 0 rfl rfl ?_
  refine g_if_ge C 21 46 rfl rfl h (fun h => ?_) (fun h => ?_)
  · refine g_aload_n C 27 1 rfl rfl ?_
    refine g_iload_n C 28 0 rfl rfl ?_
    refine g_callVi C 29 [.int r1] [] rfl (M_X10_worksOut hZ r1) cnX10_96 cwX10_worksOut ciX10_worksOut (hZ.at (i := 65) rfl) rfl rfl rfl rfl (Nat.le_of_ble_eq_true rfl) ⟨Nat.le_of_ble_eq_true rfl, Nat.le_of_ble_eq_true rfl⟩ h (fun r5 s6 h => ?_)
    exact g_ireturn C 30 rfl h
  · refine g_aload_n C 22 1 rfl rfl ?_
    refine g_getr (b := 66) C 23 rfl flX10_9 (hZ.at (i := 65) rfl) rfl ?_
    refine g_bipush (v := 6) C 24 rfl rfl ?_
    refine g_ialdK C 25 6 rfl (hZ.at (i := 66) rfl) rfl (vp_k rfl) ?_
    refine g_goto C 26 51 rfl rfl ?_
    exact g_ireturn C 30 rfl h
def T_X10_fine : List (Nat × Instr × Nat) := [(0, .aload_n 0, 1), (1, .iload_n 1, 1), (2, .invokevirtual 121, 3), (5, .ifCond .ne 6, 3), (8, .ldc 115, 2), (10, .ireturn, 1), (11, .aload_n 0, 1), (12, .iconst 2, 1), (13, .invokevirtual 88, 3), (16, .istore_n 2, 1), (17, .aload_n 0, 1), (18, .getfield 54, 3), (21, .iconst 0, 1), (22, .aload_n 0, 1), (23, .iload_n 1, 1), (24, .iconst 2, 1), (25, .invokevirtual 92, 3), (28, .iastore, 1), (29, .aload_n 0, 1), (30, .getfield 54, 3), (33, .iconst 1, 1), (34, .aload_n 0, 1), (35, .iload_n 1, 1), (36, .iconst 1, 1), (37, .invokevirtual 92, 3), (40, .iastore, 1), (41, .iload_n 2, 1), (42, .ifCond .ge 12, 3), (45, .aload_n 0, 1), (46, .iload_n 1, 1), (47, .iconst 2, 1), (48, .invokevirtual 92, 3), (51, .goto 8, 3), (54, .aload_n 0, 1), (55, .iload_n 2, 1), (56, .invokevirtual 96, 3), (59, .ireturn, 1)]
theorem T_X10_fine_ok : gTb cX10_fine T_X10_fine = true := by decide +kernel
def F_X10_fine (Z : List gH) (l1 : Int32) (σ : gS) : Option (Int32 × gS) := mCall (F_X10_isThing Z l1 σ) (fun r1 s2 => if r1 = 0 then some ((-1000000001), s2) else mCall (F_X10_counts Z 2 s2) (fun r3 s4 => mCall (F_X10_of Z l1 2 s4) (fun r5 s6 => mLet (gu s6 80 0 r5) (fun s7 => mCall (F_X10_of Z l1 1 s7) (fun r8 s9 => mLet (gu s9 80 1 r8) (fun s10 => if 0 ≤ r3 then mCall (F_X10_worksOut Z r3 s10) (fun r11 s12 => some (r11, s12)) else mCall (F_X10_of Z l1 2 s10) (fun r13 s14 => some (r13, s14))))))))
set_option maxRecDepth 20000 in
set_option maxHeartbeats 4000000 in
theorem M_X10_fine {Z : List gH} (hZ : Lay Z) (l1 : Int32) : gMet yX10_fine cX10_fine 3 (some .int) 3 Z (fun ad => [.ref (ad 65), .int l1]) (F_X10_fine Z l1) := by
  refine gMet_intro T_X10_fine T_X10_fine_ok rfl (fun _ => Nat.le_of_ble_eq_true rfl) (fun g ad σ z C h => ?_)
  show g 0 [(0, .ref (ad 65)), (1, .int l1)] [] σ
  rw [F_X10_fine] at h
  refine g_aload_n C 0 0 rfl rfl ?_
  refine g_iload_n C 1 1 rfl rfl ?_
  refine g_callVi C 2 [.int l1] [] rfl (M_X10_isThing hZ l1) cnX10_121 cwX10_isThing ciX10_isThing (hZ.at (i := 65) rfl) rfl rfl rfl rfl (Nat.le_of_ble_eq_true rfl) ⟨Nat.le_of_ble_eq_true rfl, Nat.le_of_ble_eq_true rfl⟩ h (fun r1 s2 h => ?_)
  refine g_if_ne C 3 11 rfl rfl h (fun h => ?_) (fun h => ?_)
  · refine g_aload_n C 6 0 rfl rfl ?_
    refine g_iconst (v := 2) C 7 rfl rfl ?_
    refine g_callVi C 8 [.int 2] [] rfl (M_X10_counts hZ 2) cnX10_88 cwX10_counts ciX10_counts (hZ.at (i := 65) rfl) rfl rfl rfl rfl (Nat.le_of_ble_eq_true rfl) ⟨Nat.le_of_ble_eq_true rfl, Nat.le_of_ble_eq_true rfl⟩ h (fun r3 s4 h => ?_)
    refine g_istore_n C 9 [(2, .int r3), (0, .ref (ad 65)), (1, .int l1)] rfl (by decide) rfl ?_
    refine g_aload_n C 10 1 rfl rfl ?_
    refine g_getr (b := 80) C 11 rfl flX10_54 (hZ.at (i := 65) rfl) rfl ?_
    refine g_iconst (v := 0) C 12 rfl rfl ?_
    refine g_aload_n C 13 1 rfl rfl ?_
    refine g_iload_n C 14 2 rfl rfl ?_
    refine g_iconst (v := 2) C 15 rfl rfl ?_
    refine g_callVi C 16 [.int l1, .int 2] [.int 0, .ref (ad 80)] rfl (M_X10_of hZ l1 2) cnX10_92 cwX10_of ciX10_of (hZ.at (i := 65) rfl) rfl rfl rfl rfl (Nat.le_of_ble_eq_true rfl) ⟨Nat.le_of_ble_eq_true rfl, Nat.le_of_ble_eq_true rfl⟩ h (fun r5 s6 h => ?_)
    refine g_iastK C 17 0 rfl (hZ.at (i := 80) rfl) rfl (vp_k rfl) h (fun s7 h => ?_)
    refine g_aload_n C 18 1 rfl rfl ?_
    refine g_getr (b := 80) C 19 rfl flX10_54 (hZ.at (i := 65) rfl) rfl ?_
    refine g_iconst (v := 1) C 20 rfl rfl ?_
    refine g_aload_n C 21 1 rfl rfl ?_
    refine g_iload_n C 22 2 rfl rfl ?_
    refine g_iconst (v := 1) C 23 rfl rfl ?_
    refine g_callVi C 24 [.int l1, .int 1] [.int 1, .ref (ad 80)] rfl (M_X10_of hZ l1 1) cnX10_92 cwX10_of ciX10_of (hZ.at (i := 65) rfl) rfl rfl rfl rfl (Nat.le_of_ble_eq_true rfl) ⟨Nat.le_of_ble_eq_true rfl, Nat.le_of_ble_eq_true rfl⟩ h (fun r8 s9 h => ?_)
    refine g_iastK C 25 1 rfl (hZ.at (i := 80) rfl) rfl (vp_k rfl) h (fun s10 h => ?_)
    refine g_iload_n C 26 0 rfl rfl ?_
    refine g_if_ge C 27 54 rfl rfl h (fun h => ?_) (fun h => ?_)
    · refine g_aload_n C 33 1 rfl rfl ?_
      refine g_iload_n C 34 0 rfl rfl ?_
      refine g_callVi C 35 [.int r3] [] rfl (M_X10_worksOut hZ r3) cnX10_96 cwX10_worksOut ciX10_worksOut (hZ.at (i := 65) rfl) rfl rfl rfl rfl (Nat.le_of_ble_eq_true rfl) ⟨Nat.le_of_ble_eq_true rfl, Nat.le_of_ble_eq_true rfl⟩ h (fun r11 s12 h => ?_)
      exact g_ireturn C 36 rfl h
    · refine g_aload_n C 28 1 rfl rfl ?_
      refine g_iload_n C 29 2 rfl rfl ?_
      refine g_iconst (v := 2) C 30 rfl rfl ?_
      refine g_callVi C 31 [.int l1, .int 2] [] rfl (M_X10_of hZ l1 2) cnX10_92 cwX10_of ciX10_of (hZ.at (i := 65) rfl) rfl rfl rfl rfl (Nat.le_of_ble_eq_true rfl) ⟨Nat.le_of_ble_eq_true rfl, Nat.le_of_ble_eq_true rfl⟩ h (fun r13 s14 h => ?_)
      refine g_goto C 32 59 rfl rfl ?_
      exact g_ireturn C 36 rfl h
  · refine g_ldc C 4 rfl kcX10_115 ?_
    exact g_ireturn C 5 rfl h
def T_X10_feed : List (Nat × Instr × Nat) := [(0, .aload_n 0, 1), (1, .getfield 210, 3), (4, .bipush 12, 2), (6, .iadd, 1), (7, .bipush 96, 2), (9, .if_icmp .le 6, 3), (12, .ldc 116, 2), (14, .ireturn, 1), (15, .iconst 0, 1), (16, .istore 4, 2), (18, .iload 4, 2), (20, .bipush 12, 2), (22, .if_icmp .ge 62, 3), (25, .iload 4, 2), (27, .iconst 4, 1), (28, .if_icmp .ge 7, 3), (31, .iload_n 1, 1), (32, .goto 15, 3), (35, .iload 4, 2), (37, .bipush 8, 2), (39, .if_icmp .ge 7, 3), (42, .iload_n 2, 1), (43, .goto 4, 3), (46, .iload_n 3, 1), (47, .istore 5, 2), (49, .aload_n 0, 1), (50, .getfield 31, 3), (53, .aload_n 0, 1), (54, .getfield 210, 3), (57, .iload 4, 2), (59, .iadd, 1), (60, .iload 5, 2), (62, .bipush 24, 2), (64, .bipush 8, 2), (66, .iload 4, 2), (68, .iconst 4, 1), (69, .irem, 1), (70, .imul, 1), (71, .isub, 1), (72, .ishr, 1), (73, .sipush 255, 3), (76, .iand, 1), (77, .iastore, 1), (78, .iinc 4 1, 3), (81, .goto (-63), 3), (84, .aload_n 0, 1), (85, .dup, 1), (86, .getfield 210, 3), (89, .bipush 12, 2), (91, .iadd, 1), (92, .putfield 210, 3), (95, .aload_n 0, 1), (96, .getfield 210, 3), (99, .ireturn, 1)]
theorem T_X10_feed_ok : gTb cX10_feed T_X10_feed = true := by decide +kernel
def F_X10_feed_J47 (Z : List gH) (k18 : Int32 → gS → Option (Int32 × gS)) (l1 : Int32) (l2 : Int32) (l3 : Int32) (l4 : Int32) (t0 : Int32) (σ : gS) : Option (Int32 × gS) := mIn 96 ((σ 65 10) + l4) (mLet (gu σ 73 (nn ((σ 65 10) + l4)) ((t0 >>> ((24 - (8 * (mRem l4 4))) &&& 31)) &&& 255)) (fun s1 => k18 (l4 + 1) s1))
def F_X10_feed_L18 (Z : List gH) (l1 : Int32) (l2 : Int32) (l3 : Int32) : Nat → Int32 → gS → Option (Int32 × gS)
  | 0, _, _ => none
  | n + 1, l4, σ => if 12 ≤ l4 then mLet (gu σ 65 10 ((σ 65 10) + 12)) (fun s1 => some ((s1 65 10), s1)) else if 4 ≤ l4 then if 8 ≤ l4 then F_X10_feed_J47 Z (F_X10_feed_L18 Z l1 l2 l3 n) l1 l2 l3 l4 l3 σ else F_X10_feed_J47 Z (F_X10_feed_L18 Z l1 l2 l3 n) l1 l2 l3 l4 l2 σ else F_X10_feed_J47 Z (F_X10_feed_L18 Z l1 l2 l3 n) l1 l2 l3 l4 l1 σ
def F_X10_feed (Z : List gH) (l1 : Int32) (l2 : Int32) (l3 : Int32) (σ : gS) : Option (Int32 × gS) := if ((σ 65 10) + 12) ≤ 96 then F_X10_feed_L18 Z l1 l2 l3 mFuel 0 σ else some ((-1000000003), σ)
set_option maxRecDepth 20000 in
set_option maxHeartbeats 4000000 in
theorem C_F_X10_feed_J47 {g : Nat → List (Nat × Value) → List Value → gS → Prop} {Z : List gH} {ad : Nat → Nat} {z : Int32 × gS}  (C : gOk g T_X10_feed RX10 6 (some .int) 1 Z ad z) (hZ : Lay Z) {k18 : Int32 → gS → Option (Int32 × gS)} (l1 : Int32) (l2 : Int32) (l3 : Int32) (hk18 : ∀ (l4 : Int32) (σ : gS), k18 l4 σ = some z → g 18 [(0, .ref (ad 65)), (1, .int l1), (2, .int l2), (3, .int l3), (4, .int l4)] [] σ) (l4 : Int32) (t0 : Int32) (σ : gS) (h : F_X10_feed_J47 Z k18 l1 l2 l3 l4 t0 σ = some z) : g 47 [(0, .ref (ad 65)), (1, .int l1), (2, .int l2), (3, .int l3), (4, .int l4)] [.int t0] σ := by
  rw [F_X10_feed_J47] at h
  refine g_istore C 24 [(5, .int t0), (0, .ref (ad 65)), (1, .int l1), (2, .int l2), (3, .int l3), (4, .int l4)] rfl (by decide) rfl ?_
  refine g_aload_n C 25 1 rfl rfl ?_
  refine g_getr (b := 73) C 26 rfl flX10_31 (hZ.at (i := 65) rfl) rfl ?_
  refine g_aload_n C 27 1 rfl rfl ?_
  refine g_geti C 28 rfl flX10_210 (hZ.at (i := 65) rfl) rfl ?_
  refine g_iload C 29 5 rfl rfl ?_
  refine g_iadd C 30 rfl ?_
  refine g_iload C 31 0 rfl rfl ?_
  refine g_bipush (v := 24) C 32 rfl rfl ?_
  refine g_bipush (v := 8) C 33 rfl rfl ?_
  refine g_iload C 34 5 rfl rfl ?_
  refine g_iconst (v := 4) C 35 rfl rfl ?_
  refine g_iremK C 36 rfl (by decide) ?_
  refine g_imul C 37 rfl ?_
  refine g_isub C 38 rfl ?_
  refine g_ishr C 39 rfl ?_
  refine g_sipush (v := 255) C 40 rfl rfl ?_
  refine g_iand C 41 rfl ?_
  refine g_iast C 42 rfl (hZ.at (i := 73) rfl) h (fun s1 h => ?_)
  refine g_iinc C 43 5 (l4 + 1) [(4, .int (l4 + 1)), (5, .int t0), (0, .ref (ad 65)), (1, .int l1), (2, .int l2), (3, .int l3)] rfl rfl (by decide) rfl rfl ?_
  refine g_goto C 44 18 rfl rfl ?_
  refine g_sub C [2, 3, 4, 5, 0] [(0, .ref (ad 65)), (1, .int l1), (2, .int l2), (3, .int l3), (4, .int (l4 + 1))] rfl ?_
  exact hk18 _ _ h
set_option maxRecDepth 20000 in
set_option maxHeartbeats 4000000 in
theorem C_F_X10_feed_L18 {g : Nat → List (Nat × Value) → List Value → gS → Prop} {Z : List gH} {ad : Nat → Nat} {z : Int32 × gS}  (C : gOk g T_X10_feed RX10 6 (some .int) 1 Z ad z) (hZ : Lay Z) (l1 : Int32) (l2 : Int32) (l3 : Int32) : ∀ (n : Nat) (l4 : Int32) (σ : gS), F_X10_feed_L18 Z l1 l2 l3 n l4 σ = some z → g 18 [(0, .ref (ad 65)), (1, .int l1), (2, .int l2), (3, .int l3), (4, .int l4)] [] σ := by
  intro n
  induction n with
  | zero => intro l4 σ h; cases h
  | succ n ih =>
    intro l4 σ h
    rw [F_X10_feed_L18] at h
    refine g_iload C 10 4 rfl rfl ?_
    refine g_bipush (v := 12) C 11 rfl rfl ?_
    refine g_icmp_ge C 12 84 rfl rfl h (fun h => ?_) (fun h => ?_)
    · refine g_aload_n C 45 0 rfl rfl ?_
      refine g_dup C 46 rfl rfl ?_
      refine g_geti C 47 rfl flX10_210 (hZ.at (i := 65) rfl) rfl ?_
      refine g_bipush (v := 12) C 48 rfl rfl ?_
      refine g_iadd C 49 rfl ?_
      refine g_put C 50 rfl fpX10_210 (hZ.at (i := 65) rfl) rfl rfl rfl h (fun s1 h => ?_)
      refine g_aload_n C 51 0 rfl rfl ?_
      refine g_geti C 52 rfl flX10_210 (hZ.at (i := 65) rfl) rfl ?_
      exact g_ireturn C 53 rfl h
    · refine g_iload C 13 4 rfl rfl ?_
      refine g_iconst (v := 4) C 14 rfl rfl ?_
      refine g_icmp_ge C 15 35 rfl rfl h (fun h => ?_) (fun h => ?_)
      · refine g_iload C 18 4 rfl rfl ?_
        refine g_bipush (v := 8) C 19 rfl rfl ?_
        refine g_icmp_ge C 20 46 rfl rfl h (fun h => ?_) (fun h => ?_)
        · refine g_iload_n C 23 3 rfl rfl ?_
          exact C_F_X10_feed_J47 C hZ _ _ _ ih _ _ _ h
        · refine g_iload_n C 21 2 rfl rfl ?_
          refine g_goto C 22 47 rfl rfl ?_
          exact C_F_X10_feed_J47 C hZ _ _ _ ih _ _ _ h
      · refine g_iload_n C 16 1 rfl rfl ?_
        refine g_goto C 17 47 rfl rfl ?_
        exact C_F_X10_feed_J47 C hZ _ _ _ ih _ _ _ h
set_option maxRecDepth 20000 in
set_option maxHeartbeats 4000000 in
theorem M_X10_feed {Z : List gH} (hZ : Lay Z) (l1 : Int32) (l2 : Int32) (l3 : Int32) : gMet yX10_feed cX10_feed 6 (some .int) 1 Z (fun ad => [.ref (ad 65), .int l1, .int l2, .int l3]) (F_X10_feed Z l1 l2 l3) := by
  refine gMet_intro T_X10_feed T_X10_feed_ok rfl (fun _ => Nat.le_of_ble_eq_true rfl) (fun g ad σ z C h => ?_)
  show g 0 [(0, .ref (ad 65)), (1, .int l1), (2, .int l2), (3, .int l3)] [] σ
  rw [F_X10_feed] at h
  refine g_aload_n C 0 0 rfl rfl ?_
  refine g_geti C 1 rfl flX10_210 (hZ.at (i := 65) rfl) rfl ?_
  refine g_bipush (v := 12) C 2 rfl rfl ?_
  refine g_iadd C 3 rfl ?_
  refine g_bipush (v := 96) C 4 rfl rfl ?_
  refine g_icmp_le C 5 15 rfl rfl h (fun h => ?_) (fun h => ?_)
  · refine g_iconst (v := 0) C 8 rfl rfl ?_
    refine g_istore C 9 [(4, .int 0), (0, .ref (ad 65)), (1, .int l1), (2, .int l2), (3, .int l3)] rfl (by decide) rfl ?_
    refine g_sub C [1, 2, 3, 4, 0] [(0, .ref (ad 65)), (1, .int l1), (2, .int l2), (3, .int l3), (4, .int 0)] rfl ?_
    exact C_F_X10_feed_L18 C hZ _ _ _ _ _ _ h
  · refine g_ldc C 6 rfl kcX10_116 ?_
    exact g_ireturn C 7 rfl h
def T_X10_trim : List (Nat × Instr × Nat) := [(0, .iload_n 1, 1), (1, .iconst 0, 1), (2, .aload_n 0, 1), (3, .getfield 210, 3), (6, .invokestatic 84, 3), (9, .ifCond .ne 6, 3), (12, .ldc 115, 2), (14, .ireturn, 1), (15, .aload_n 0, 1), (16, .iload_n 1, 1), (17, .putfield 210, 3), (20, .iload_n 1, 1), (21, .ireturn, 1)]
theorem T_X10_trim_ok : gTb cX10_trim T_X10_trim = true := by decide +kernel
def F_X10_trim (Z : List gH) (l1 : Int32) (σ : gS) : Option (Int32 × gS) := mCall (F_X10_in Z l1 0 (σ 65 10) σ) (fun r1 s2 => if r1 = 0 then some ((-1000000001), s2) else mLet (gu s2 65 10 l1) (fun s3 => some (l1, s3)))
set_option maxRecDepth 20000 in
set_option maxHeartbeats 4000000 in
theorem M_X10_trim {Z : List gH} (hZ : Lay Z) (l1 : Int32) : gMet yX10_trim cX10_trim 2 (some .int) 2 Z (fun ad => [.ref (ad 65), .int l1]) (F_X10_trim Z l1) := by
  refine gMet_intro T_X10_trim T_X10_trim_ok rfl (fun _ => Nat.le_of_ble_eq_true rfl) (fun g ad σ z C h => ?_)
  show g 0 [(0, .ref (ad 65)), (1, .int l1)] [] σ
  rw [F_X10_trim] at h
  refine g_iload_n C 0 1 rfl rfl ?_
  refine g_iconst (v := 0) C 1 rfl rfl ?_
  refine g_aload_n C 2 0 rfl rfl ?_
  refine g_geti C 3 rfl flX10_210 (hZ.at (i := 65) rfl) rfl ?_
  refine g_callSi C 4 [.int l1, .int 0, .int (σ 65 10)] [] rfl (M_X10_in hZ l1 0 (σ 65 10)) cnX10_84 cwX10_in csX10_in rfl rfl rfl (Nat.le_of_ble_eq_true rfl) ⟨Nat.le_of_ble_eq_true rfl, Nat.le_of_ble_eq_true rfl⟩ h (fun r1 s2 h => ?_)
  refine g_if_ne C 5 15 rfl rfl h (fun h => ?_) (fun h => ?_)
  · refine g_aload_n C 8 0 rfl rfl ?_
    refine g_iload_n C 9 1 rfl rfl ?_
    refine g_put C 10 rfl fpX10_210 (hZ.at (i := 65) rfl) rfl rfl rfl h (fun s3 h => ?_)
    refine g_iload_n C 11 1 rfl rfl ?_
    exact g_ireturn C 12 rfl h
  · refine g_ldc C 6 rfl kcX10_115 ?_
    exact g_ireturn C 7 rfl h
def T_X10_notsOpen : List (Nat × Instr × Nat) := [(0, .iconst 0, 1), (1, .istore_n 1, 1), (2, .iconst 0, 1), (3, .istore_n 2, 1), (4, .iload_n 2, 1), (5, .aload_n 0, 1), (6, .getfield 240, 3), (9, .if_icmp .ge 28, 3), (12, .iload_n 1, 1), (13, .aload_n 0, 1), (14, .getfield 44, 3), (17, .iload_n 2, 1), (18, .iaload, 1), (19, .bipush (-10), 2), (21, .if_icmp .ne 7, 3), (24, .iconst 1, 1), (25, .goto 4, 3), (28, .iconst 0, 1), (29, .iadd, 1), (30, .istore_n 1, 1), (31, .iinc 2 1, 3), (34, .goto (-30), 3), (37, .iload_n 1, 1), (38, .ireturn, 1)]
theorem T_X10_notsOpen_ok : gTb cX10_notsOpen T_X10_notsOpen = true := by decide +kernel
def F_X10_notsOpen_L4 (Z : List gH) : Nat → Int32 → Int32 → gS → Option (Int32 × gS)
  | 0, _, _, _ => none
  | n + 1, l1, l2, σ => if (σ 65 23) ≤ l2 then some (l1, σ) else mIn 96 l2 (if (σ 77 (nn l2)) = (-10) then mLet ((l1 + 1)) (fun v2 => F_X10_notsOpen_L4 Z n v2 (l2 + 1) σ) else mLet ((l1 + 0)) (fun v1 => F_X10_notsOpen_L4 Z n v1 (l2 + 1) σ))
def F_X10_notsOpen (Z : List gH) (σ : gS) : Option (Int32 × gS) := F_X10_notsOpen_L4 Z mFuel 0 0 σ
set_option maxRecDepth 20000 in
set_option maxHeartbeats 4000000 in
theorem C_F_X10_notsOpen_L4 {g : Nat → List (Nat × Value) → List Value → gS → Prop} {Z : List gH} {ad : Nat → Nat} {z : Int32 × gS}  (C : gOk g T_X10_notsOpen RX10 3 (some .int) 1 Z ad z) (hZ : Lay Z) : ∀ (n : Nat) (l1 : Int32) (l2 : Int32) (σ : gS), F_X10_notsOpen_L4 Z n l1 l2 σ = some z → g 4 [(0, .ref (ad 65)), (1, .int l1), (2, .int l2)] [] σ := by
  intro n
  induction n with
  | zero => intro l1 l2 σ h; cases h
  | succ n ih =>
    intro l1 l2 σ h
    rw [F_X10_notsOpen_L4] at h
    refine g_iload_n C 4 2 rfl rfl ?_
    refine g_aload_n C 5 0 rfl rfl ?_
    refine g_geti C 6 rfl flX10_240 (hZ.at (i := 65) rfl) rfl ?_
    refine g_icmp_ge C 7 37 rfl rfl h (fun h => ?_) (fun h => ?_)
    · refine g_iload_n C 22 1 rfl rfl ?_
      exact g_ireturn C 23 rfl h
    · refine g_iload_n C 8 1 rfl rfl ?_
      refine g_aload_n C 9 0 rfl rfl ?_
      refine g_getr (b := 77) C 10 rfl flX10_44 (hZ.at (i := 65) rfl) rfl ?_
      refine g_iload_n C 11 2 rfl rfl ?_
      refine g_iald C 12 rfl (hZ.at (i := 77) rfl) h (fun h => ?_)
      refine g_bipush (v := (-10)) C 13 rfl rfl ?_
      refine g_icmp_ne C 14 28 rfl rfl h (fun h => ?_) (fun h => ?_)
      · refine g_iconst (v := 0) C 17 rfl rfl ?_
        refine g_iadd C 18 rfl ?_
        refine g_let h (fun v1 h => ?_)
        refine g_istore_n C 19 [(1, .int v1), (0, .ref (ad 65)), (2, .int l2)] rfl (by decide) rfl ?_
        refine g_iinc C 20 2 (l2 + 1) [(2, .int (l2 + 1)), (1, .int v1), (0, .ref (ad 65))] rfl rfl (by decide) rfl rfl ?_
        refine g_goto C 21 4 rfl rfl ?_
        refine g_sub C [2, 1, 0] [(0, .ref (ad 65)), (1, .int v1), (2, .int (l2 + 1))] rfl ?_
        exact ih _ _ _ h
      · refine g_iconst (v := 1) C 15 rfl rfl ?_
        refine g_goto C 16 29 rfl rfl ?_
        refine g_iadd C 18 rfl ?_
        refine g_let h (fun v2 h => ?_)
        refine g_istore_n C 19 [(1, .int v2), (0, .ref (ad 65)), (2, .int l2)] rfl (by decide) rfl ?_
        refine g_iinc C 20 2 (l2 + 1) [(2, .int (l2 + 1)), (1, .int v2), (0, .ref (ad 65))] rfl rfl (by decide) rfl rfl ?_
        refine g_goto C 21 4 rfl rfl ?_
        refine g_sub C [2, 1, 0] [(0, .ref (ad 65)), (1, .int v2), (2, .int (l2 + 1))] rfl ?_
        exact ih _ _ _ h
set_option maxRecDepth 20000 in
set_option maxHeartbeats 4000000 in
theorem M_X10_notsOpen {Z : List gH} (hZ : Lay Z) : gMet yX10_notsOpen cX10_notsOpen 3 (some .int) 1 Z (fun ad => [.ref (ad 65)]) (F_X10_notsOpen Z) := by
  refine gMet_intro T_X10_notsOpen T_X10_notsOpen_ok rfl (fun _ => Nat.le_of_ble_eq_true rfl) (fun g ad σ z C h => ?_)
  show g 0 [(0, .ref (ad 65))] [] σ
  rw [F_X10_notsOpen] at h
  refine g_iconst (v := 0) C 0 rfl rfl ?_
  refine g_istore_n C 1 [(1, .int 0), (0, .ref (ad 65))] rfl (by decide) rfl ?_
  refine g_iconst (v := 0) C 2 rfl rfl ?_
  refine g_istore_n C 3 [(2, .int 0), (1, .int 0), (0, .ref (ad 65))] rfl (by decide) rfl ?_
  refine g_sub C [2, 1, 0] [(0, .ref (ad 65)), (1, .int 0), (2, .int 0)] rfl ?_
  exact C_F_X10_notsOpen_L4 C hZ _ _ _ _ h
def T_X10_rank : List (Nat × Instr × Nat) := [(0, .iload_n 0, 1), (1, .iconst (-1), 1), (2, .if_icmp .ne 7, 3), (5, .iconst 1, 1), (6, .goto 45, 3), (9, .iload_n 0, 1), (10, .bipush (-2), 2), (12, .if_icmp .ne 7, 3), (15, .iconst 2, 1), (16, .goto 35, 3), (19, .iload_n 0, 1), (20, .bipush (-5), 2), (22, .if_icmp .lt 7, 3), (25, .iconst 3, 1), (26, .goto 25, 3), (29, .iload_n 0, 1), (30, .bipush (-7), 2), (32, .if_icmp .lt 7, 3), (35, .iconst 4, 1), (36, .goto 15, 3), (39, .iload_n 0, 1), (40, .bipush (-9), 2), (42, .if_icmp .lt 7, 3), (45, .iconst 5, 1), (46, .goto 5, 3), (49, .bipush 6, 2), (51, .ireturn, 1)]
theorem T_X10_rank_ok : gTb cX10_rank T_X10_rank = true := by decide +kernel
def F_X10_rank (Z : List gH) (l0 : Int32) (σ : gS) : Option (Int32 × gS) := if l0 = (-1) then some (1, σ) else if l0 = (-2) then some (2, σ) else if l0 < (-5) then if l0 < (-7) then if l0 < (-9) then some (6, σ) else some (5, σ) else some (4, σ) else some (3, σ)
set_option maxRecDepth 20000 in
set_option maxHeartbeats 4000000 in
theorem M_X10_rank {Z : List gH} (hZ : Lay Z) (l0 : Int32) : gMet yX10_rank cX10_rank 1 (some .int) 1 Z (fun ad => [.int l0]) (F_X10_rank Z l0) := by
  refine gMet_intro T_X10_rank T_X10_rank_ok rfl (fun _ => Nat.le_of_ble_eq_true rfl) (fun g ad σ z C h => ?_)
  show g 0 [(0, .int l0)] [] σ
  rw [F_X10_rank] at h
  refine g_iload_n C 0 0 rfl rfl ?_
  refine g_iconst (v := (-1)) C 1 rfl rfl ?_
  refine g_icmp_ne C 2 9 rfl rfl h (fun h => ?_) (fun h => ?_)
  · refine g_iload_n C 5 0 rfl rfl ?_
    refine g_bipush (v := (-2)) C 6 rfl rfl ?_
    refine g_icmp_ne C 7 19 rfl rfl h (fun h => ?_) (fun h => ?_)
    · refine g_iload_n C 10 0 rfl rfl ?_
      refine g_bipush (v := (-5)) C 11 rfl rfl ?_
      refine g_icmp_lt C 12 29 rfl rfl h (fun h => ?_) (fun h => ?_)
      · refine g_iload_n C 15 0 rfl rfl ?_
        refine g_bipush (v := (-7)) C 16 rfl rfl ?_
        refine g_icmp_lt C 17 39 rfl rfl h (fun h => ?_) (fun h => ?_)
        · refine g_iload_n C 20 0 rfl rfl ?_
          refine g_bipush (v := (-9)) C 21 rfl rfl ?_
          refine g_icmp_lt C 22 49 rfl rfl h (fun h => ?_) (fun h => ?_)
          · refine g_bipush (v := 6) C 25 rfl rfl ?_
            exact g_ireturn C 26 rfl h
          · refine g_iconst (v := 5) C 23 rfl rfl ?_
            refine g_goto C 24 51 rfl rfl ?_
            exact g_ireturn C 26 rfl h
        · refine g_iconst (v := 4) C 18 rfl rfl ?_
          refine g_goto C 19 51 rfl rfl ?_
          exact g_ireturn C 26 rfl h
      · refine g_iconst (v := 3) C 13 rfl rfl ?_
        refine g_goto C 14 51 rfl rfl ?_
        exact g_ireturn C 26 rfl h
    · refine g_iconst (v := 2) C 8 rfl rfl ?_
      refine g_goto C 9 51 rfl rfl ?_
      exact g_ireturn C 26 rfl h
  · refine g_iconst (v := 1) C 3 rfl rfl ?_
    refine g_goto C 4 51 rfl rfl ?_
    exact g_ireturn C 26 rfl h
def T_X10_settle : List (Nat × Instr × Nat) := [(0, .aload_n 0, 1), (1, .getfield 240, 3), (4, .ifCond .le 78, 3), (7, .aload_n 0, 1), (8, .getfield 44, 3), (11, .aload_n 0, 1), (12, .getfield 240, 3), (15, .iconst 1, 1), (16, .isub, 1), (17, .iaload, 1), (18, .bipush (-11), 2), (20, .if_icmp .eq 62, 3), (23, .aload_n 0, 1), (24, .getfield 44, 3), (27, .aload_n 0, 1), (28, .getfield 240, 3), (31, .iconst 1, 1), (32, .isub, 1), (33, .iaload, 1), (34, .invokestatic 243, 3), (37, .iload_n 1, 1), (38, .if_icmp .lt 44, 3), (41, .aload_n 0, 1), (42, .dup, 1), (43, .getfield 240, 3), (46, .iconst 1, 1), (47, .isub, 1), (48, .putfield 240, 3), (51, .aload_n 0, 1), (52, .getfield 41, 3), (55, .aload_n 0, 1), (56, .getfield 246, 3), (59, .aload_n 0, 1), (60, .getfield 44, 3), (63, .aload_n 0, 1), (64, .getfield 240, 3), (67, .iaload, 1), (68, .iastore, 1), (69, .aload_n 0, 1), (70, .dup, 1), (71, .getfield 246, 3), (74, .iconst 1, 1), (75, .iadd, 1), (76, .putfield 246, 3), (79, .goto (-79), 3), (82, .return_, 1)]
theorem T_X10_settle_ok : gTb cX10_settle T_X10_settle = true := by decide +kernel
def F_X10_settle_L0 (Z : List gH) (l1 : Int32) : Nat → gS → Option (Int32 × gS)
  | 0, _ => none
  | n + 1, σ => if (σ 65 23) ≤ 0 then some (0, σ) else mIn 96 ((σ 65 23) - 1) (if (σ 77 (nn ((σ 65 23) - 1))) = (-11) then some (0, σ) else mIn 96 ((σ 65 23) - 1) (mCall (F_X10_rank Z (σ 77 (nn ((σ 65 23) - 1))) σ) (fun r1 s2 => if r1 < l1 then some (0, s2) else mLet (gu s2 65 23 ((s2 65 23) - 1)) (fun s3 => mIn 96 (s3 65 23) (mIn 96 (s3 65 20) (mLet (gu s3 76 (nn (s3 65 20)) (s3 77 (nn (s3 65 23)))) (fun s4 => mLet (gu s4 65 20 ((s4 65 20) + 1)) (fun s5 => F_X10_settle_L0 Z l1 n s5))))))))
def F_X10_settle (Z : List gH) (l1 : Int32) (σ : gS) : Option (Int32 × gS) := if (σ 65 23) ≤ 0 then some (0, σ) else mIn 96 ((σ 65 23) - 1) (if (σ 77 (nn ((σ 65 23) - 1))) = (-11) then some (0, σ) else mIn 96 ((σ 65 23) - 1) (mCall (F_X10_rank Z (σ 77 (nn ((σ 65 23) - 1))) σ) (fun r1 s2 => if r1 < l1 then some (0, s2) else mLet (gu s2 65 23 ((s2 65 23) - 1)) (fun s3 => mIn 96 (s3 65 23) (mIn 96 (s3 65 20) (mLet (gu s3 76 (nn (s3 65 20)) (s3 77 (nn (s3 65 23)))) (fun s4 => mLet (gu s4 65 20 ((s4 65 20) + 1)) (fun s5 => F_X10_settle_L0 Z l1 mFuel s5))))))))
set_option maxRecDepth 20000 in
set_option maxHeartbeats 4000000 in
theorem C_F_X10_settle_L0 {g : Nat → List (Nat × Value) → List Value → gS → Prop} {Z : List gH} {ad : Nat → Nat} {z : Int32 × gS}  (C : gOk g T_X10_settle RX10 2 none 2 Z ad z) (hZ : Lay Z) (l1 : Int32) : ∀ (n : Nat) (σ : gS), F_X10_settle_L0 Z l1 n  σ = some z → g 0 [(0, .ref (ad 65)), (1, .int l1)] [] σ := by
  intro n
  induction n with
  | zero => intro  σ h; cases h
  | succ n ih =>
    intro  σ h
    rw [F_X10_settle_L0] at h
    refine g_aload_n C 0 0 rfl rfl ?_
    refine g_geti C 1 rfl flX10_240 (hZ.at (i := 65) rfl) rfl ?_
    refine g_if_le C 2 82 rfl rfl h (fun h => ?_) (fun h => ?_)
    · exact g_return C 45 rfl h
    · refine g_aload_n C 3 0 rfl rfl ?_
      refine g_getr (b := 77) C 4 rfl flX10_44 (hZ.at (i := 65) rfl) rfl ?_
      refine g_aload_n C 5 0 rfl rfl ?_
      refine g_geti C 6 rfl flX10_240 (hZ.at (i := 65) rfl) rfl ?_
      refine g_iconst (v := 1) C 7 rfl rfl ?_
      refine g_isub C 8 rfl ?_
      refine g_iald C 9 rfl (hZ.at (i := 77) rfl) h (fun h => ?_)
      refine g_bipush (v := (-11)) C 10 rfl rfl ?_
      refine g_icmp_eq C 11 82 rfl rfl h (fun h => ?_) (fun h => ?_)
      · exact g_return C 45 rfl h
      · refine g_aload_n C 12 0 rfl rfl ?_
        refine g_getr (b := 77) C 13 rfl flX10_44 (hZ.at (i := 65) rfl) rfl ?_
        refine g_aload_n C 14 0 rfl rfl ?_
        refine g_geti C 15 rfl flX10_240 (hZ.at (i := 65) rfl) rfl ?_
        refine g_iconst (v := 1) C 16 rfl rfl ?_
        refine g_isub C 17 rfl ?_
        refine g_iald C 18 rfl (hZ.at (i := 77) rfl) h (fun h => ?_)
        refine g_callSi C 19 [.int (σ 77 (nn ((σ 65 23) - 1)))] [] rfl (M_X10_rank hZ (σ 77 (nn ((σ 65 23) - 1)))) cnX10_243 cwX10_rank csX10_rank rfl rfl rfl (Nat.le_of_ble_eq_true rfl) ⟨Nat.le_of_ble_eq_true rfl, Nat.le_of_ble_eq_true rfl⟩ h (fun r1 s2 h => ?_)
        refine g_iload_n C 20 1 rfl rfl ?_
        refine g_icmp_lt C 21 82 rfl rfl h (fun h => ?_) (fun h => ?_)
        · exact g_return C 45 rfl h
        · refine g_aload_n C 22 0 rfl rfl ?_
          refine g_dup C 23 rfl rfl ?_
          refine g_geti C 24 rfl flX10_240 (hZ.at (i := 65) rfl) rfl ?_
          refine g_iconst (v := 1) C 25 rfl rfl ?_
          refine g_isub C 26 rfl ?_
          refine g_put C 27 rfl fpX10_240 (hZ.at (i := 65) rfl) rfl rfl rfl h (fun s3 h => ?_)
          refine g_aload_n C 28 0 rfl rfl ?_
          refine g_getr (b := 76) C 29 rfl flX10_41 (hZ.at (i := 65) rfl) rfl ?_
          refine g_aload_n C 30 0 rfl rfl ?_
          refine g_geti C 31 rfl flX10_246 (hZ.at (i := 65) rfl) rfl ?_
          refine g_aload_n C 32 0 rfl rfl ?_
          refine g_getr (b := 77) C 33 rfl flX10_44 (hZ.at (i := 65) rfl) rfl ?_
          refine g_aload_n C 34 0 rfl rfl ?_
          refine g_geti C 35 rfl flX10_240 (hZ.at (i := 65) rfl) rfl ?_
          refine g_iald C 36 rfl (hZ.at (i := 77) rfl) h (fun h => ?_)
          refine g_iast C 37 rfl (hZ.at (i := 76) rfl) h (fun s4 h => ?_)
          refine g_aload_n C 38 0 rfl rfl ?_
          refine g_dup C 39 rfl rfl ?_
          refine g_geti C 40 rfl flX10_246 (hZ.at (i := 65) rfl) rfl ?_
          refine g_iconst (v := 1) C 41 rfl rfl ?_
          refine g_iadd C 42 rfl ?_
          refine g_put C 43 rfl fpX10_246 (hZ.at (i := 65) rfl) rfl rfl rfl h (fun s5 h => ?_)
          refine g_goto C 44 0 rfl rfl ?_
          exact ih _ h
set_option maxRecDepth 20000 in
set_option maxHeartbeats 4000000 in
theorem M_X10_settle {Z : List gH} (hZ : Lay Z) (l1 : Int32) : gMet yX10_settle cX10_settle 2 none 2 Z (fun ad => [.ref (ad 65), .int l1]) (F_X10_settle Z l1) := by
  refine gMet_intro T_X10_settle T_X10_settle_ok rfl (fun _ => Nat.le_of_ble_eq_true rfl) (fun g ad σ z C h => ?_)
  show g 0 [(0, .ref (ad 65)), (1, .int l1)] [] σ
  rw [F_X10_settle] at h
  refine g_aload_n C 0 0 rfl rfl ?_
  refine g_geti C 1 rfl flX10_240 (hZ.at (i := 65) rfl) rfl ?_
  refine g_if_le C 2 82 rfl rfl h (fun h => ?_) (fun h => ?_)
  · exact g_return C 45 rfl h
  · refine g_aload_n C 3 0 rfl rfl ?_
    refine g_getr (b := 77) C 4 rfl flX10_44 (hZ.at (i := 65) rfl) rfl ?_
    refine g_aload_n C 5 0 rfl rfl ?_
    refine g_geti C 6 rfl flX10_240 (hZ.at (i := 65) rfl) rfl ?_
    refine g_iconst (v := 1) C 7 rfl rfl ?_
    refine g_isub C 8 rfl ?_
    refine g_iald C 9 rfl (hZ.at (i := 77) rfl) h (fun h => ?_)
    refine g_bipush (v := (-11)) C 10 rfl rfl ?_
    refine g_icmp_eq C 11 82 rfl rfl h (fun h => ?_) (fun h => ?_)
    · exact g_return C 45 rfl h
    · refine g_aload_n C 12 0 rfl rfl ?_
      refine g_getr (b := 77) C 13 rfl flX10_44 (hZ.at (i := 65) rfl) rfl ?_
      refine g_aload_n C 14 0 rfl rfl ?_
      refine g_geti C 15 rfl flX10_240 (hZ.at (i := 65) rfl) rfl ?_
      refine g_iconst (v := 1) C 16 rfl rfl ?_
      refine g_isub C 17 rfl ?_
      refine g_iald C 18 rfl (hZ.at (i := 77) rfl) h (fun h => ?_)
      refine g_callSi C 19 [.int (σ 77 (nn ((σ 65 23) - 1)))] [] rfl (M_X10_rank hZ (σ 77 (nn ((σ 65 23) - 1)))) cnX10_243 cwX10_rank csX10_rank rfl rfl rfl (Nat.le_of_ble_eq_true rfl) ⟨Nat.le_of_ble_eq_true rfl, Nat.le_of_ble_eq_true rfl⟩ h (fun r1 s2 h => ?_)
      refine g_iload_n C 20 1 rfl rfl ?_
      refine g_icmp_lt C 21 82 rfl rfl h (fun h => ?_) (fun h => ?_)
      · exact g_return C 45 rfl h
      · refine g_aload_n C 22 0 rfl rfl ?_
        refine g_dup C 23 rfl rfl ?_
        refine g_geti C 24 rfl flX10_240 (hZ.at (i := 65) rfl) rfl ?_
        refine g_iconst (v := 1) C 25 rfl rfl ?_
        refine g_isub C 26 rfl ?_
        refine g_put C 27 rfl fpX10_240 (hZ.at (i := 65) rfl) rfl rfl rfl h (fun s3 h => ?_)
        refine g_aload_n C 28 0 rfl rfl ?_
        refine g_getr (b := 76) C 29 rfl flX10_41 (hZ.at (i := 65) rfl) rfl ?_
        refine g_aload_n C 30 0 rfl rfl ?_
        refine g_geti C 31 rfl flX10_246 (hZ.at (i := 65) rfl) rfl ?_
        refine g_aload_n C 32 0 rfl rfl ?_
        refine g_getr (b := 77) C 33 rfl flX10_44 (hZ.at (i := 65) rfl) rfl ?_
        refine g_aload_n C 34 0 rfl rfl ?_
        refine g_geti C 35 rfl flX10_240 (hZ.at (i := 65) rfl) rfl ?_
        refine g_iald C 36 rfl (hZ.at (i := 77) rfl) h (fun h => ?_)
        refine g_iast C 37 rfl (hZ.at (i := 76) rfl) h (fun s4 h => ?_)
        refine g_aload_n C 38 0 rfl rfl ?_
        refine g_dup C 39 rfl rfl ?_
        refine g_geti C 40 rfl flX10_246 (hZ.at (i := 65) rfl) rfl ?_
        refine g_iconst (v := 1) C 41 rfl rfl ?_
        refine g_iadd C 42 rfl ?_
        refine g_put C 43 rfl fpX10_246 (hZ.at (i := 65) rfl) rfl rfl rfl h (fun s5 h => ?_)
        refine g_goto C 44 0 rfl rfl ?_
        exact C_F_X10_settle_L0 C hZ _ _ _ h
def T_X10_signHere : List (Nat × Instr × Nat) := [(0, .aload_n 0, 1), (1, .getfield 222, 3), (4, .iconst 3, 1), (5, .if_icmp .eq 5, 3), (8, .iconst 0, 1), (9, .ireturn, 1), (10, .aload_n 0, 1), (11, .getfield 228, 3), (14, .lookupswitch 108 #[(38, 84), (42, 102), (43, 96), (45, 99), (47, 105), (60, 87), (61, 90), (62, 93), (124, 82)], 82), (96, .iconst (-1), 1), (97, .ireturn, 1), (98, .bipush (-2), 2), (100, .ireturn, 1), (101, .bipush (-3), 2), (103, .ireturn, 1), (104, .bipush (-4), 2), (106, .ireturn, 1), (107, .bipush (-5), 2), (109, .ireturn, 1), (110, .bipush (-6), 2), (112, .ireturn, 1), (113, .bipush (-7), 2), (115, .ireturn, 1), (116, .bipush (-8), 2), (118, .ireturn, 1), (119, .bipush (-9), 2), (121, .ireturn, 1), (122, .iconst 0, 1), (123, .ireturn, 1)]
theorem T_X10_signHere_ok : gTb cX10_signHere T_X10_signHere = true := by decide +kernel
def F_X10_signHere (Z : List gH) (σ : gS) : Option (Int32 × gS) := if (σ 65 13) = 3 then mLet ((σ 65 14)) (fun v1 => if v1 = 38 then some ((-2), σ) else if v1 = 42 then some ((-8), σ) else if v1 = 43 then some ((-6), σ) else if v1 = 45 then some ((-7), σ) else if v1 = 47 then some ((-9), σ) else if v1 = 60 then some ((-3), σ) else if v1 = 61 then some ((-4), σ) else if v1 = 62 then some ((-5), σ) else if v1 = 124 then some ((-1), σ) else some (0, σ)) else some (0, σ)
set_option maxRecDepth 20000 in
set_option maxHeartbeats 4000000 in
theorem M_X10_signHere {Z : List gH} (hZ : Lay Z) : gMet yX10_signHere cX10_signHere 1 (some .int) 1 Z (fun ad => [.ref (ad 65)]) (F_X10_signHere Z) := by
  refine gMet_intro T_X10_signHere T_X10_signHere_ok rfl (fun _ => Nat.le_of_ble_eq_true rfl) (fun g ad σ z C h => ?_)
  show g 0 [(0, .ref (ad 65))] [] σ
  rw [F_X10_signHere] at h
  refine g_aload_n C 0 0 rfl rfl ?_
  refine g_geti C 1 rfl flX10_222 (hZ.at (i := 65) rfl) rfl ?_
  refine g_iconst (v := 3) C 2 rfl rfl ?_
  refine g_icmp_eq C 3 10 rfl rfl h (fun h => ?_) (fun h => ?_)
  · refine g_aload_n C 6 0 rfl rfl ?_
    refine g_geti C 7 rfl flX10_228 (hZ.at (i := 65) rfl) rfl ?_
    refine g_let h (fun v1 h => ?_)
    by_cases hx1_0 : v1 = 38
    · rw [if_pos hx1_0] at h
      refine g_lookup C 8 98 rfl (by decide) (by rw [hx1_0]) rfl ?_
      refine g_bipush (v := (-2)) C 11 rfl rfl ?_
      exact g_ireturn C 12 rfl h
    · rw [if_neg hx1_0] at h
      by_cases hx1_1 : v1 = 42
      · rw [if_pos hx1_1] at h
        refine g_lookup C 8 116 rfl (by decide) (by rw [hx1_1]) rfl ?_
        refine g_bipush (v := (-8)) C 23 rfl rfl ?_
        exact g_ireturn C 24 rfl h
      · rw [if_neg hx1_1] at h
        by_cases hx1_2 : v1 = 43
        · rw [if_pos hx1_2] at h
          refine g_lookup C 8 110 rfl (by decide) (by rw [hx1_2]) rfl ?_
          refine g_bipush (v := (-6)) C 19 rfl rfl ?_
          exact g_ireturn C 20 rfl h
        · rw [if_neg hx1_2] at h
          by_cases hx1_3 : v1 = 45
          · rw [if_pos hx1_3] at h
            refine g_lookup C 8 113 rfl (by decide) (by rw [hx1_3]) rfl ?_
            refine g_bipush (v := (-7)) C 21 rfl rfl ?_
            exact g_ireturn C 22 rfl h
          · rw [if_neg hx1_3] at h
            by_cases hx1_4 : v1 = 47
            · rw [if_pos hx1_4] at h
              refine g_lookup C 8 119 rfl (by decide) (by rw [hx1_4]) rfl ?_
              refine g_bipush (v := (-9)) C 25 rfl rfl ?_
              exact g_ireturn C 26 rfl h
            · rw [if_neg hx1_4] at h
              by_cases hx1_5 : v1 = 60
              · rw [if_pos hx1_5] at h
                refine g_lookup C 8 101 rfl (by decide) (by rw [hx1_5]) rfl ?_
                refine g_bipush (v := (-3)) C 13 rfl rfl ?_
                exact g_ireturn C 14 rfl h
              · rw [if_neg hx1_5] at h
                by_cases hx1_6 : v1 = 61
                · rw [if_pos hx1_6] at h
                  refine g_lookup C 8 104 rfl (by decide) (by rw [hx1_6]) rfl ?_
                  refine g_bipush (v := (-4)) C 15 rfl rfl ?_
                  exact g_ireturn C 16 rfl h
                · rw [if_neg hx1_6] at h
                  by_cases hx1_7 : v1 = 62
                  · rw [if_pos hx1_7] at h
                    refine g_lookup C 8 107 rfl (by decide) (by rw [hx1_7]) rfl ?_
                    refine g_bipush (v := (-5)) C 17 rfl rfl ?_
                    exact g_ireturn C 18 rfl h
                  · rw [if_neg hx1_7] at h
                    by_cases hx1_8 : v1 = 124
                    · rw [if_pos hx1_8] at h
                      refine g_lookup C 8 96 rfl (by decide) (by rw [hx1_8]) rfl ?_
                      refine g_iconst (v := (-1)) C 9 rfl rfl ?_
                      exact g_ireturn C 10 rfl h
                    · rw [if_neg hx1_8] at h
                      refine g_lookup C 8 122 rfl (by decide) (by have e0 := i32ne hx1_0 38 rfl; have e1 := i32ne hx1_1 42 rfl; have e2 := i32ne hx1_2 43 rfl; have e3 := i32ne hx1_3 45 rfl; have e4 := i32ne hx1_4 47 rfl; have e5 := i32ne hx1_5 60 rfl; have e6 := i32ne hx1_6 61 rfl; have e7 := i32ne hx1_7 62 rfl; have e8 := i32ne hx1_8 124 rfl; simp [Op.lookupswitch.offset, Ne.symm e0, Ne.symm e1, Ne.symm e2, Ne.symm e3, Ne.symm e4, Ne.symm e5, Ne.symm e6, Ne.symm e7, Ne.symm e8, e0, e1, e2, e3, e4, e5, e6, e7, e8]; rfl) rfl ?_
                      refine g_iconst (v := 0) C 27 rfl rfl ?_
                      exact g_ireturn C 28 rfl h
  · refine g_iconst (v := 0) C 4 rfl rfl ?_
    exact g_ireturn C 5 rfl h
def T_X10_nameOf : List (Nat × Instr × Nat) := [(0, .aload_n 0, 1), (1, .getfield 234, 3), (4, .lookupswitch 82 #[(0, 28), (1, 60)], 28), (32, .iload_n 1, 1), (33, .bipush 102, 2), (35, .if_icmp .ne 7, 3), (38, .iconst 0, 1), (39, .goto 24, 3), (42, .iload_n 1, 1), (43, .bipush 104, 2), (45, .if_icmp .ne 7, 3), (48, .iconst 1, 1), (49, .goto 14, 3), (52, .iload_n 1, 1), (53, .bipush 110, 2), (55, .if_icmp .ne 7, 3), (58, .iconst 2, 1), (59, .goto 4, 3), (62, .iconst (-1), 1), (63, .ireturn, 1), (64, .iload_n 1, 1), (65, .bipush 98, 2), (67, .if_icmp .ne 7, 3), (70, .iconst 0, 1), (71, .goto 14, 3), (74, .iload_n 1, 1), (75, .bipush 97, 2), (77, .if_icmp .ne 7, 3), (80, .iconst 1, 1), (81, .goto 4, 3), (84, .iconst (-1), 1), (85, .ireturn, 1), (86, .iload_n 1, 1), (87, .bipush 102, 2), (89, .if_icmp .ne 7, 3), (92, .iconst 0, 1), (93, .goto 14, 3), (96, .iload_n 1, 1), (97, .bipush 114, 2), (99, .if_icmp .ne 7, 3), (102, .iconst 1, 1), (103, .goto 4, 3), (106, .iconst (-1), 1), (107, .ireturn, 1)]
theorem T_X10_nameOf_ok : gTb cX10_nameOf T_X10_nameOf = true := by decide +kernel
def F_X10_nameOf (Z : List gH) (l1 : Int32) (σ : gS) : Option (Int32 × gS) := mLet ((σ 65 16)) (fun v1 => if v1 = 0 then if l1 = 102 then some (0, σ) else if l1 = 104 then some (1, σ) else if l1 = 110 then some (2, σ) else some ((-1), σ) else if v1 = 1 then if l1 = 98 then some (0, σ) else if l1 = 97 then some (1, σ) else some ((-1), σ) else if l1 = 102 then some (0, σ) else if l1 = 114 then some (1, σ) else some ((-1), σ))
set_option maxRecDepth 20000 in
set_option maxHeartbeats 4000000 in
theorem M_X10_nameOf {Z : List gH} (hZ : Lay Z) (l1 : Int32) : gMet yX10_nameOf cX10_nameOf 2 (some .int) 1 Z (fun ad => [.ref (ad 65), .int l1]) (F_X10_nameOf Z l1) := by
  refine gMet_intro T_X10_nameOf T_X10_nameOf_ok rfl (fun _ => Nat.le_of_ble_eq_true rfl) (fun g ad σ z C h => ?_)
  show g 0 [(0, .ref (ad 65)), (1, .int l1)] [] σ
  rw [F_X10_nameOf] at h
  refine g_aload_n C 0 0 rfl rfl ?_
  refine g_geti C 1 rfl flX10_234 (hZ.at (i := 65) rfl) rfl ?_
  refine g_let h (fun v1 h => ?_)
  by_cases hx1_0 : v1 = 0
  · rw [if_pos hx1_0] at h
    refine g_lookup C 2 32 rfl (by decide) (by rw [hx1_0]) rfl ?_
    refine g_iload_n C 3 1 rfl rfl ?_
    refine g_bipush (v := 102) C 4 rfl rfl ?_
    refine g_icmp_ne C 5 42 rfl rfl h (fun h => ?_) (fun h => ?_)
    · refine g_iload_n C 8 1 rfl rfl ?_
      refine g_bipush (v := 104) C 9 rfl rfl ?_
      refine g_icmp_ne C 10 52 rfl rfl h (fun h => ?_) (fun h => ?_)
      · refine g_iload_n C 13 1 rfl rfl ?_
        refine g_bipush (v := 110) C 14 rfl rfl ?_
        refine g_icmp_ne C 15 62 rfl rfl h (fun h => ?_) (fun h => ?_)
        · refine g_iconst (v := (-1)) C 18 rfl rfl ?_
          exact g_ireturn C 19 rfl h
        · refine g_iconst (v := 2) C 16 rfl rfl ?_
          refine g_goto C 17 63 rfl rfl ?_
          exact g_ireturn C 19 rfl h
      · refine g_iconst (v := 1) C 11 rfl rfl ?_
        refine g_goto C 12 63 rfl rfl ?_
        exact g_ireturn C 19 rfl h
    · refine g_iconst (v := 0) C 6 rfl rfl ?_
      refine g_goto C 7 63 rfl rfl ?_
      exact g_ireturn C 19 rfl h
  · rw [if_neg hx1_0] at h
    by_cases hx1_1 : v1 = 1
    · rw [if_pos hx1_1] at h
      refine g_lookup C 2 64 rfl (by decide) (by rw [hx1_1]) rfl ?_
      refine g_iload_n C 20 1 rfl rfl ?_
      refine g_bipush (v := 98) C 21 rfl rfl ?_
      refine g_icmp_ne C 22 74 rfl rfl h (fun h => ?_) (fun h => ?_)
      · refine g_iload_n C 25 1 rfl rfl ?_
        refine g_bipush (v := 97) C 26 rfl rfl ?_
        refine g_icmp_ne C 27 84 rfl rfl h (fun h => ?_) (fun h => ?_)
        · refine g_iconst (v := (-1)) C 30 rfl rfl ?_
          exact g_ireturn C 31 rfl h
        · refine g_iconst (v := 1) C 28 rfl rfl ?_
          refine g_goto C 29 85 rfl rfl ?_
          exact g_ireturn C 31 rfl h
      · refine g_iconst (v := 0) C 23 rfl rfl ?_
        refine g_goto C 24 85 rfl rfl ?_
        exact g_ireturn C 31 rfl h
    · rw [if_neg hx1_1] at h
      refine g_lookup C 2 86 rfl (by decide) (by have e0 := i32ne hx1_0 0 rfl; have e1 := i32ne hx1_1 1 rfl; simp [Op.lookupswitch.offset, Ne.symm e0, Ne.symm e1, e0, e1]; rfl) rfl ?_
      refine g_iload_n C 32 1 rfl rfl ?_
      refine g_bipush (v := 102) C 33 rfl rfl ?_
      refine g_icmp_ne C 34 96 rfl rfl h (fun h => ?_) (fun h => ?_)
      · refine g_iload_n C 37 1 rfl rfl ?_
        refine g_bipush (v := 114) C 38 rfl rfl ?_
        refine g_icmp_ne C 39 106 rfl rfl h (fun h => ?_) (fun h => ?_)
        · refine g_iconst (v := (-1)) C 42 rfl rfl ?_
          exact g_ireturn C 43 rfl h
        · refine g_iconst (v := 1) C 40 rfl rfl ?_
          refine g_goto C 41 107 rfl rfl ?_
          exact g_ireturn C 43 rfl h
      · refine g_iconst (v := 0) C 35 rfl rfl ?_
        refine g_goto C 36 107 rfl rfl ?_
        exact g_ireturn C 43 rfl h
def T_X10_isLetter : List (Nat × Instr × Nat) := [(0, .iload_n 1, 1), (1, .aload_n 0, 1), (2, .getfield 210, 3), (5, .if_icmp .ge 29, 3), (8, .aload_n 0, 1), (9, .getfield 31, 3), (12, .iload_n 1, 1), (13, .iaload, 1), (14, .bipush 97, 2), (16, .if_icmp .lt 18, 3), (19, .aload_n 0, 1), (20, .getfield 31, 3), (23, .iload_n 1, 1), (24, .iaload, 1), (25, .bipush 122, 2), (27, .if_icmp .gt 7, 3), (30, .iconst 1, 1), (31, .goto 4, 3), (34, .iconst 0, 1), (35, .ireturn, 1)]
theorem T_X10_isLetter_ok : gTb cX10_isLetter T_X10_isLetter = true := by decide +kernel
def F_X10_isLetter (Z : List gH) (l1 : Int32) (σ : gS) : Option (Int32 × gS) := if (σ 65 10) ≤ l1 then mZ 0 σ else mIn 96 l1 (if (σ 73 (nn l1)) < 97 then mZ 0 σ else mIn 96 l1 (if 122 < (σ 73 (nn l1)) then mZ 0 σ else mZ 1 σ))
set_option maxRecDepth 20000 in
set_option maxHeartbeats 4000000 in
theorem M_X10_isLetter {Z : List gH} (hZ : Lay Z) (l1 : Int32) : gMet yX10_isLetter cX10_isLetter 2 (some .boolean) 1 Z (fun ad => [.ref (ad 65), .int l1]) (F_X10_isLetter Z l1) := by
  refine gMet_intro T_X10_isLetter T_X10_isLetter_ok rfl (fun _ => Nat.le_of_ble_eq_true rfl) (fun g ad σ z C h => ?_)
  show g 0 [(0, .ref (ad 65)), (1, .int l1)] [] σ
  rw [F_X10_isLetter] at h
  refine g_iload_n C 0 1 rfl rfl ?_
  refine g_aload_n C 1 0 rfl rfl ?_
  refine g_geti C 2 rfl flX10_210 (hZ.at (i := 65) rfl) rfl ?_
  refine g_icmp_ge C 3 34 rfl rfl h (fun h => ?_) (fun h => ?_)
  · refine g_iconst (v := 0) C 18 rfl rfl ?_
    exact g_zreturn C 19 rfl h
  · refine g_aload_n C 4 0 rfl rfl ?_
    refine g_getr (b := 73) C 5 rfl flX10_31 (hZ.at (i := 65) rfl) rfl ?_
    refine g_iload_n C 6 1 rfl rfl ?_
    refine g_iald C 7 rfl (hZ.at (i := 73) rfl) h (fun h => ?_)
    refine g_bipush (v := 97) C 8 rfl rfl ?_
    refine g_icmp_lt C 9 34 rfl rfl h (fun h => ?_) (fun h => ?_)
    · refine g_iconst (v := 0) C 18 rfl rfl ?_
      exact g_zreturn C 19 rfl h
    · refine g_aload_n C 10 0 rfl rfl ?_
      refine g_getr (b := 73) C 11 rfl flX10_31 (hZ.at (i := 65) rfl) rfl ?_
      refine g_iload_n C 12 1 rfl rfl ?_
      refine g_iald C 13 rfl (hZ.at (i := 73) rfl) h (fun h => ?_)
      refine g_bipush (v := 122) C 14 rfl rfl ?_
      refine g_icmp_gt C 15 34 rfl rfl h (fun h => ?_) (fun h => ?_)
      · refine g_iconst (v := 0) C 18 rfl rfl ?_
        exact g_zreturn C 19 rfl h
      · refine g_iconst (v := 1) C 16 rfl rfl ?_
        refine g_goto C 17 35 rfl rfl ?_
        exact g_zreturn C 19 rfl h
def T_X10_isFigure : List (Nat × Instr × Nat) := [(0, .iload_n 1, 1), (1, .aload_n 0, 1), (2, .getfield 210, 3), (5, .if_icmp .ge 29, 3), (8, .aload_n 0, 1), (9, .getfield 31, 3), (12, .iload_n 1, 1), (13, .iaload, 1), (14, .bipush 48, 2), (16, .if_icmp .lt 18, 3), (19, .aload_n 0, 1), (20, .getfield 31, 3), (23, .iload_n 1, 1), (24, .iaload, 1), (25, .bipush 57, 2), (27, .if_icmp .gt 7, 3), (30, .iconst 1, 1), (31, .goto 4, 3), (34, .iconst 0, 1), (35, .ireturn, 1)]
theorem T_X10_isFigure_ok : gTb cX10_isFigure T_X10_isFigure = true := by decide +kernel
def F_X10_isFigure (Z : List gH) (l1 : Int32) (σ : gS) : Option (Int32 × gS) := if (σ 65 10) ≤ l1 then mZ 0 σ else mIn 96 l1 (if (σ 73 (nn l1)) < 48 then mZ 0 σ else mIn 96 l1 (if 57 < (σ 73 (nn l1)) then mZ 0 σ else mZ 1 σ))
set_option maxRecDepth 20000 in
set_option maxHeartbeats 4000000 in
theorem M_X10_isFigure {Z : List gH} (hZ : Lay Z) (l1 : Int32) : gMet yX10_isFigure cX10_isFigure 2 (some .boolean) 1 Z (fun ad => [.ref (ad 65), .int l1]) (F_X10_isFigure Z l1) := by
  refine gMet_intro T_X10_isFigure T_X10_isFigure_ok rfl (fun _ => Nat.le_of_ble_eq_true rfl) (fun g ad σ z C h => ?_)
  show g 0 [(0, .ref (ad 65)), (1, .int l1)] [] σ
  rw [F_X10_isFigure] at h
  refine g_iload_n C 0 1 rfl rfl ?_
  refine g_aload_n C 1 0 rfl rfl ?_
  refine g_geti C 2 rfl flX10_210 (hZ.at (i := 65) rfl) rfl ?_
  refine g_icmp_ge C 3 34 rfl rfl h (fun h => ?_) (fun h => ?_)
  · refine g_iconst (v := 0) C 18 rfl rfl ?_
    exact g_zreturn C 19 rfl h
  · refine g_aload_n C 4 0 rfl rfl ?_
    refine g_getr (b := 73) C 5 rfl flX10_31 (hZ.at (i := 65) rfl) rfl ?_
    refine g_iload_n C 6 1 rfl rfl ?_
    refine g_iald C 7 rfl (hZ.at (i := 73) rfl) h (fun h => ?_)
    refine g_bipush (v := 48) C 8 rfl rfl ?_
    refine g_icmp_lt C 9 34 rfl rfl h (fun h => ?_) (fun h => ?_)
    · refine g_iconst (v := 0) C 18 rfl rfl ?_
      exact g_zreturn C 19 rfl h
    · refine g_aload_n C 10 0 rfl rfl ?_
      refine g_getr (b := 73) C 11 rfl flX10_31 (hZ.at (i := 65) rfl) rfl ?_
      refine g_iload_n C 12 1 rfl rfl ?_
      refine g_iald C 13 rfl (hZ.at (i := 73) rfl) h (fun h => ?_)
      refine g_bipush (v := 57) C 14 rfl rfl ?_
      refine g_icmp_gt C 15 34 rfl rfl h (fun h => ?_) (fun h => ?_)
      · refine g_iconst (v := 0) C 18 rfl rfl ?_
        exact g_zreturn C 19 rfl h
      · refine g_iconst (v := 1) C 16 rfl rfl ?_
        refine g_goto C 17 35 rfl rfl ?_
        exact g_zreturn C 19 rfl h
def T_X10_go : List (Nat × Instr × Nat) := [(0, .aload_n 0, 1), (1, .getfield 213, 3), (4, .aload_n 0, 1), (5, .getfield 210, 3), (8, .if_icmp .ge 30, 3), (11, .aload_n 0, 1), (12, .getfield 31, 3), (15, .aload_n 0, 1), (16, .getfield 213, 3), (19, .iaload, 1), (20, .bipush 32, 2), (22, .if_icmp .ne 16, 3), (25, .aload_n 0, 1), (26, .dup, 1), (27, .getfield 213, 3), (30, .iconst 1, 1), (31, .iadd, 1), (32, .putfield 213, 3), (35, .goto (-35), 3), (38, .aload_n 0, 1), (39, .aload_n 0, 1), (40, .getfield 213, 3), (43, .putfield 216, 3), (46, .aload_n 0, 1), (47, .getfield 216, 3), (50, .aload_n 0, 1), (51, .getfield 219, 3), (54, .if_icmp .ne 7, 3), (57, .iconst 1, 1), (58, .goto 4, 3), (61, .iconst 0, 1), (62, .istore_n 1, 1), (63, .aload_n 0, 1), (64, .getfield 216, 3), (67, .aload_n 0, 1), (68, .getfield 210, 3), (71, .if_icmp .ne 11, 3), (74, .aload_n 0, 1), (75, .iconst 0, 1), (76, .putfield 222, 3), (79, .goto 224, 3), (82, .aload_n 0, 1), (83, .aload_n 0, 1), (84, .getfield 216, 3), (87, .invokevirtual 225, 3), (90, .ifCond .eq 64, 3), (93, .aload_n 0, 1), (94, .aload_n 0, 1), (95, .getfield 213, 3), (98, .invokevirtual 225, 3), (101, .ifCond .eq 16, 3), (104, .aload_n 0, 1), (105, .dup, 1), (106, .getfield 213, 3), (109, .iconst 1, 1), (110, .iadd, 1), (111, .putfield 213, 3), (114, .goto (-21), 3), (117, .aload_n 0, 1), (118, .iload_n 1, 1), (119, .ifCond .eq 7, 3), (122, .iconst 4, 1), (123, .goto 4, 3), (126, .iconst 1, 1), (127, .putfield 222, 3), (130, .aload_n 0, 1), (131, .aload_n 0, 1), (132, .getfield 31, 3), (135, .aload_n 0, 1), (136, .getfield 216, 3), (139, .iaload, 1), (140, .putfield 228, 3), (143, .aload_n 0, 1), (144, .aload_n 0, 1), (145, .getfield 213, 3), (148, .putfield 219, 3), (151, .goto 152, 3), (154, .aload_n 0, 1), (155, .aload_n 0, 1), (156, .getfield 216, 3), (159, .invokevirtual 231, 3), (162, .ifCond .eq 113, 3), (165, .aload_n 0, 1), (166, .iconst 0, 1), (167, .putfield 228, 3), (170, .aload_n 0, 1), (171, .aload_n 0, 1), (172, .getfield 213, 3), (175, .invokevirtual 231, 3), (178, .ifCond .eq 60, 3), (181, .aload_n 0, 1), (182, .aload_n 0, 1), (183, .getfield 213, 3), (186, .aload_n 0, 1), (187, .getfield 216, 3), (190, .isub, 1), (191, .iconst 4, 1), (192, .if_icmp .ge 26, 3), (195, .bipush 10, 2), (197, .aload_n 0, 1), (198, .getfield 228, 3), (201, .imul, 1), (202, .aload_n 0, 1), (203, .getfield 31, 3), (206, .aload_n 0, 1), (207, .getfield 213, 3), (210, .iaload, 1), (211, .iadd, 1), (212, .bipush 48, 2), (214, .isub, 1), (215, .goto 7, 3), (218, .aload_n 0, 1), (219, .getfield 228, 3), (222, .putfield 228, 3), (225, .aload_n 0, 1), (226, .dup, 1), (227, .getfield 213, 3), (230, .iconst 1, 1), (231, .iadd, 1), (232, .putfield 213, 3), (235, .goto (-65), 3), (238, .aload_n 0, 1), (239, .iload_n 1, 1), (240, .ifCond .ne 16, 3), (243, .aload_n 0, 1), (244, .getfield 213, 3), (247, .aload_n 0, 1), (248, .getfield 216, 3), (251, .isub, 1), (252, .iconst 4, 1), (253, .if_icmp .le 7, 3), (256, .iconst 4, 1), (257, .goto 4, 3), (260, .iconst 2, 1), (261, .putfield 222, 3), (264, .aload_n 0, 1), (265, .aload_n 0, 1), (266, .getfield 213, 3), (269, .putfield 219, 3), (272, .goto 31, 3), (275, .aload_n 0, 1), (276, .iconst 3, 1), (277, .putfield 222, 3), (280, .aload_n 0, 1), (281, .aload_n 0, 1), (282, .getfield 31, 3), (285, .aload_n 0, 1), (286, .getfield 216, 3), (289, .iaload, 1), (290, .putfield 228, 3), (293, .aload_n 0, 1), (294, .dup, 1), (295, .getfield 213, 3), (298, .iconst 1, 1), (299, .iadd, 1), (300, .putfield 213, 3), (303, .return_, 1)]
theorem T_X10_go_ok : gTb cX10_go T_X10_go = true := by decide +kernel
def F_X10_go_L170 (Z : List gH) : Nat → Int32 → gS → Option (Int32 × gS)
  | 0, _, _ => none
  | n + 1, l1, σ => mCall (F_X10_isFigure Z (σ 65 11) σ) (fun r1 s2 => if r1 = 0 then if l1 = 0 then if ((s2 65 11) - (s2 65 12)) ≤ 4 then mLet (gu s2 65 13 2) (fun s5 => mLet (gu s5 65 15 (s5 65 11)) (fun s6 => some (0, s6))) else mLet (gu s2 65 13 4) (fun s7 => mLet (gu s7 65 15 (s7 65 11)) (fun s8 => some (0, s8))) else mLet (gu s2 65 13 4) (fun s3 => mLet (gu s3 65 15 (s3 65 11)) (fun s4 => some (0, s4))) else if 4 ≤ ((s2 65 11) - (s2 65 12)) then mLet (gu s2 65 14 (s2 65 14)) (fun s9 => mLet (gu s9 65 11 ((s9 65 11) + 1)) (fun s10 => F_X10_go_L170 Z n l1 s10)) else mIn 96 (s2 65 11) (mLet (gu s2 65 14 (((10 * (s2 65 14)) + (s2 73 (nn (s2 65 11)))) - 48)) (fun s11 => mLet (gu s11 65 11 ((s11 65 11) + 1)) (fun s12 => F_X10_go_L170 Z n l1 s12))))
def F_X10_go_L93 (Z : List gH) : Nat → Int32 → gS → Option (Int32 × gS)
  | 0, _, _ => none
  | n + 1, l1, σ => mCall (F_X10_isLetter Z (σ 65 11) σ) (fun r1 s2 => if r1 = 0 then if l1 = 0 then mLet (gu s2 65 13 1) (fun s3 => mIn 96 (s3 65 12) (mLet (gu s3 65 14 (s3 73 (nn (s3 65 12)))) (fun s4 => mLet (gu s4 65 15 (s4 65 11)) (fun s5 => some (0, s5))))) else mLet (gu s2 65 13 4) (fun s6 => mIn 96 (s6 65 12) (mLet (gu s6 65 14 (s6 73 (nn (s6 65 12)))) (fun s7 => mLet (gu s7 65 15 (s7 65 11)) (fun s8 => some (0, s8))))) else mLet (gu s2 65 11 ((s2 65 11) + 1)) (fun s9 => F_X10_go_L93 Z n l1 s9))
def F_X10_go_J62 (Z : List gH) (t0 : Int32) (σ : gS) : Option (Int32 × gS) := if (σ 65 12) = (σ 65 10) then mLet (gu σ 65 13 0) (fun s9 => some (0, s9)) else mCall (F_X10_isLetter Z (σ 65 12) σ) (fun r1 s2 => if r1 = 0 then mCall (F_X10_isFigure Z (s2 65 12) s2) (fun r3 s4 => if r3 = 0 then mLet (gu s4 65 13 3) (fun s5 => mIn 96 (s5 65 12) (mLet (gu s5 65 14 (s5 73 (nn (s5 65 12)))) (fun s6 => mLet (gu s6 65 11 ((s6 65 11) + 1)) (fun s7 => some (0, s7))))) else mLet (gu s4 65 14 0) (fun s8 => F_X10_go_L170 Z mFuel t0 s8)) else F_X10_go_L93 Z mFuel t0 s2)
def F_X10_go_J38 (Z : List gH) (σ : gS) : Option (Int32 × gS) := mLet (gu σ 65 12 (σ 65 11)) (fun s1 => if (s1 65 12) = (s1 65 15) then F_X10_go_J62 Z 1 s1 else F_X10_go_J62 Z 0 s1)
def F_X10_go_L0 (Z : List gH) : Nat → gS → Option (Int32 × gS)
  | 0, _ => none
  | n + 1, σ => if (σ 65 10) ≤ (σ 65 11) then F_X10_go_J38 Z σ else mIn 96 (σ 65 11) (if (σ 73 (nn (σ 65 11))) = 32 then mLet (gu σ 65 11 ((σ 65 11) + 1)) (fun s1 => F_X10_go_L0 Z n s1) else F_X10_go_J38 Z σ)
def F_X10_go (Z : List gH) (σ : gS) : Option (Int32 × gS) := if (σ 65 10) ≤ (σ 65 11) then F_X10_go_J38 Z σ else mIn 96 (σ 65 11) (if (σ 73 (nn (σ 65 11))) = 32 then mLet (gu σ 65 11 ((σ 65 11) + 1)) (fun s1 => F_X10_go_L0 Z mFuel s1) else F_X10_go_J38 Z σ)
set_option maxRecDepth 20000 in
set_option maxHeartbeats 4000000 in
theorem C_F_X10_go_L170 {g : Nat → List (Nat × Value) → List Value → gS → Prop} {Z : List gH} {ad : Nat → Nat} {z : Int32 × gS}  (C : gOk g T_X10_go RX10 2 none 2 Z ad z) (hZ : Lay Z) : ∀ (n : Nat) (l1 : Int32) (σ : gS), F_X10_go_L170 Z n l1 σ = some z → g 170 [(0, .ref (ad 65)), (1, .int l1)] [] σ := by
  intro n
  induction n with
  | zero => intro l1 σ h; cases h
  | succ n ih =>
    intro l1 σ h
    rw [F_X10_go_L170] at h
    refine g_aload_n C 85 0 rfl rfl ?_
    refine g_aload_n C 86 0 rfl rfl ?_
    refine g_geti C 87 rfl flX10_213 (hZ.at (i := 65) rfl) rfl ?_
    refine g_callVi C 88 [.int (σ 65 11)] [] rfl (M_X10_isFigure hZ (σ 65 11)) cnX10_231 cwX10_isFigure ciX10_isFigure (hZ.at (i := 65) rfl) rfl rfl rfl rfl (Nat.le_of_ble_eq_true rfl) ⟨Nat.le_of_ble_eq_true rfl, Nat.le_of_ble_eq_true rfl⟩ h (fun r1 s2 h => ?_)
    refine g_if_eq C 89 238 rfl rfl h (fun h => ?_) (fun h => ?_)
    · refine g_aload_n C 121 0 rfl rfl ?_
      refine g_iload_n C 122 1 rfl rfl ?_
      refine g_if_ne C 123 256 rfl rfl h (fun h => ?_) (fun h => ?_)
      · refine g_iconst (v := 4) C 131 rfl rfl ?_
        refine g_goto C 132 261 rfl rfl ?_
        refine g_put C 134 rfl fpX10_222 (hZ.at (i := 65) rfl) rfl rfl rfl h (fun s3 h => ?_)
        refine g_aload_n C 135 0 rfl rfl ?_
        refine g_aload_n C 136 0 rfl rfl ?_
        refine g_geti C 137 rfl flX10_213 (hZ.at (i := 65) rfl) rfl ?_
        refine g_put C 138 rfl fpX10_219 (hZ.at (i := 65) rfl) rfl rfl rfl h (fun s4 h => ?_)
        refine g_goto C 139 303 rfl rfl ?_
        exact g_return C 156 rfl h
      · refine g_aload_n C 124 0 rfl rfl ?_
        refine g_geti C 125 rfl flX10_213 (hZ.at (i := 65) rfl) rfl ?_
        refine g_aload_n C 126 0 rfl rfl ?_
        refine g_geti C 127 rfl flX10_216 (hZ.at (i := 65) rfl) rfl ?_
        refine g_isub C 128 rfl ?_
        refine g_iconst (v := 4) C 129 rfl rfl ?_
        refine g_icmp_le C 130 260 rfl rfl h (fun h => ?_) (fun h => ?_)
        · refine g_iconst (v := 2) C 133 rfl rfl ?_
          refine g_put C 134 rfl fpX10_222 (hZ.at (i := 65) rfl) rfl rfl rfl h (fun s5 h => ?_)
          refine g_aload_n C 135 0 rfl rfl ?_
          refine g_aload_n C 136 0 rfl rfl ?_
          refine g_geti C 137 rfl flX10_213 (hZ.at (i := 65) rfl) rfl ?_
          refine g_put C 138 rfl fpX10_219 (hZ.at (i := 65) rfl) rfl rfl rfl h (fun s6 h => ?_)
          refine g_goto C 139 303 rfl rfl ?_
          exact g_return C 156 rfl h
        · refine g_iconst (v := 4) C 131 rfl rfl ?_
          refine g_goto C 132 261 rfl rfl ?_
          refine g_put C 134 rfl fpX10_222 (hZ.at (i := 65) rfl) rfl rfl rfl h (fun s7 h => ?_)
          refine g_aload_n C 135 0 rfl rfl ?_
          refine g_aload_n C 136 0 rfl rfl ?_
          refine g_geti C 137 rfl flX10_213 (hZ.at (i := 65) rfl) rfl ?_
          refine g_put C 138 rfl fpX10_219 (hZ.at (i := 65) rfl) rfl rfl rfl h (fun s8 h => ?_)
          refine g_goto C 139 303 rfl rfl ?_
          exact g_return C 156 rfl h
    · refine g_aload_n C 90 0 rfl rfl ?_
      refine g_aload_n C 91 0 rfl rfl ?_
      refine g_geti C 92 rfl flX10_213 (hZ.at (i := 65) rfl) rfl ?_
      refine g_aload_n C 93 0 rfl rfl ?_
      refine g_geti C 94 rfl flX10_216 (hZ.at (i := 65) rfl) rfl ?_
      refine g_isub C 95 rfl ?_
      refine g_iconst (v := 4) C 96 rfl rfl ?_
      refine g_icmp_ge C 97 218 rfl rfl h (fun h => ?_) (fun h => ?_)
      · refine g_aload_n C 111 0 rfl rfl ?_
        refine g_geti C 112 rfl flX10_228 (hZ.at (i := 65) rfl) rfl ?_
        refine g_put C 113 rfl fpX10_228 (hZ.at (i := 65) rfl) rfl rfl rfl h (fun s9 h => ?_)
        refine g_aload_n C 114 0 rfl rfl ?_
        refine g_dup C 115 rfl rfl ?_
        refine g_geti C 116 rfl flX10_213 (hZ.at (i := 65) rfl) rfl ?_
        refine g_iconst (v := 1) C 117 rfl rfl ?_
        refine g_iadd C 118 rfl ?_
        refine g_put C 119 rfl fpX10_213 (hZ.at (i := 65) rfl) rfl rfl rfl h (fun s10 h => ?_)
        refine g_goto C 120 170 rfl rfl ?_
        exact ih _ _ h
      · refine g_bipush (v := 10) C 98 rfl rfl ?_
        refine g_aload_n C 99 0 rfl rfl ?_
        refine g_geti C 100 rfl flX10_228 (hZ.at (i := 65) rfl) rfl ?_
        refine g_imul C 101 rfl ?_
        refine g_aload_n C 102 0 rfl rfl ?_
        refine g_getr (b := 73) C 103 rfl flX10_31 (hZ.at (i := 65) rfl) rfl ?_
        refine g_aload_n C 104 0 rfl rfl ?_
        refine g_geti C 105 rfl flX10_213 (hZ.at (i := 65) rfl) rfl ?_
        refine g_iald C 106 rfl (hZ.at (i := 73) rfl) h (fun h => ?_)
        refine g_iadd C 107 rfl ?_
        refine g_bipush (v := 48) C 108 rfl rfl ?_
        refine g_isub C 109 rfl ?_
        refine g_goto C 110 222 rfl rfl ?_
        refine g_put C 113 rfl fpX10_228 (hZ.at (i := 65) rfl) rfl rfl rfl h (fun s11 h => ?_)
        refine g_aload_n C 114 0 rfl rfl ?_
        refine g_dup C 115 rfl rfl ?_
        refine g_geti C 116 rfl flX10_213 (hZ.at (i := 65) rfl) rfl ?_
        refine g_iconst (v := 1) C 117 rfl rfl ?_
        refine g_iadd C 118 rfl ?_
        refine g_put C 119 rfl fpX10_213 (hZ.at (i := 65) rfl) rfl rfl rfl h (fun s12 h => ?_)
        refine g_goto C 120 170 rfl rfl ?_
        exact ih _ _ h
set_option maxRecDepth 20000 in
set_option maxHeartbeats 4000000 in
theorem C_F_X10_go_L93 {g : Nat → List (Nat × Value) → List Value → gS → Prop} {Z : List gH} {ad : Nat → Nat} {z : Int32 × gS}  (C : gOk g T_X10_go RX10 2 none 2 Z ad z) (hZ : Lay Z) : ∀ (n : Nat) (l1 : Int32) (σ : gS), F_X10_go_L93 Z n l1 σ = some z → g 93 [(0, .ref (ad 65)), (1, .int l1)] [] σ := by
  intro n
  induction n with
  | zero => intro l1 σ h; cases h
  | succ n ih =>
    intro l1 σ h
    rw [F_X10_go_L93] at h
    refine g_aload_n C 46 0 rfl rfl ?_
    refine g_aload_n C 47 0 rfl rfl ?_
    refine g_geti C 48 rfl flX10_213 (hZ.at (i := 65) rfl) rfl ?_
    refine g_callVi C 49 [.int (σ 65 11)] [] rfl (M_X10_isLetter hZ (σ 65 11)) cnX10_225 cwX10_isLetter ciX10_isLetter (hZ.at (i := 65) rfl) rfl rfl rfl rfl (Nat.le_of_ble_eq_true rfl) ⟨Nat.le_of_ble_eq_true rfl, Nat.le_of_ble_eq_true rfl⟩ h (fun r1 s2 h => ?_)
    refine g_if_eq C 50 117 rfl rfl h (fun h => ?_) (fun h => ?_)
    · refine g_aload_n C 58 0 rfl rfl ?_
      refine g_iload_n C 59 1 rfl rfl ?_
      refine g_if_eq C 60 126 rfl rfl h (fun h => ?_) (fun h => ?_)
      · refine g_iconst (v := 1) C 63 rfl rfl ?_
        refine g_put C 64 rfl fpX10_222 (hZ.at (i := 65) rfl) rfl rfl rfl h (fun s3 h => ?_)
        refine g_aload_n C 65 0 rfl rfl ?_
        refine g_aload_n C 66 0 rfl rfl ?_
        refine g_getr (b := 73) C 67 rfl flX10_31 (hZ.at (i := 65) rfl) rfl ?_
        refine g_aload_n C 68 0 rfl rfl ?_
        refine g_geti C 69 rfl flX10_216 (hZ.at (i := 65) rfl) rfl ?_
        refine g_iald C 70 rfl (hZ.at (i := 73) rfl) h (fun h => ?_)
        refine g_put C 71 rfl fpX10_228 (hZ.at (i := 65) rfl) rfl rfl rfl h (fun s4 h => ?_)
        refine g_aload_n C 72 0 rfl rfl ?_
        refine g_aload_n C 73 0 rfl rfl ?_
        refine g_geti C 74 rfl flX10_213 (hZ.at (i := 65) rfl) rfl ?_
        refine g_put C 75 rfl fpX10_219 (hZ.at (i := 65) rfl) rfl rfl rfl h (fun s5 h => ?_)
        refine g_goto C 76 303 rfl rfl ?_
        exact g_return C 156 rfl h
      · refine g_iconst (v := 4) C 61 rfl rfl ?_
        refine g_goto C 62 127 rfl rfl ?_
        refine g_put C 64 rfl fpX10_222 (hZ.at (i := 65) rfl) rfl rfl rfl h (fun s6 h => ?_)
        refine g_aload_n C 65 0 rfl rfl ?_
        refine g_aload_n C 66 0 rfl rfl ?_
        refine g_getr (b := 73) C 67 rfl flX10_31 (hZ.at (i := 65) rfl) rfl ?_
        refine g_aload_n C 68 0 rfl rfl ?_
        refine g_geti C 69 rfl flX10_216 (hZ.at (i := 65) rfl) rfl ?_
        refine g_iald C 70 rfl (hZ.at (i := 73) rfl) h (fun h => ?_)
        refine g_put C 71 rfl fpX10_228 (hZ.at (i := 65) rfl) rfl rfl rfl h (fun s7 h => ?_)
        refine g_aload_n C 72 0 rfl rfl ?_
        refine g_aload_n C 73 0 rfl rfl ?_
        refine g_geti C 74 rfl flX10_213 (hZ.at (i := 65) rfl) rfl ?_
        refine g_put C 75 rfl fpX10_219 (hZ.at (i := 65) rfl) rfl rfl rfl h (fun s8 h => ?_)
        refine g_goto C 76 303 rfl rfl ?_
        exact g_return C 156 rfl h
    · refine g_aload_n C 51 0 rfl rfl ?_
      refine g_dup C 52 rfl rfl ?_
      refine g_geti C 53 rfl flX10_213 (hZ.at (i := 65) rfl) rfl ?_
      refine g_iconst (v := 1) C 54 rfl rfl ?_
      refine g_iadd C 55 rfl ?_
      refine g_put C 56 rfl fpX10_213 (hZ.at (i := 65) rfl) rfl rfl rfl h (fun s9 h => ?_)
      refine g_goto C 57 93 rfl rfl ?_
      exact ih _ _ h
set_option maxRecDepth 20000 in
set_option maxHeartbeats 4000000 in
theorem C_F_X10_go_J62 {g : Nat → List (Nat × Value) → List Value → gS → Prop} {Z : List gH} {ad : Nat → Nat} {z : Int32 × gS}  (C : gOk g T_X10_go RX10 2 none 2 Z ad z) (hZ : Lay Z) (t0 : Int32) (σ : gS) (h : F_X10_go_J62 Z t0 σ = some z) : g 62 [(0, .ref (ad 65))] [.int t0] σ := by
  rw [F_X10_go_J62] at h
  refine g_istore_n C 31 [(1, .int t0), (0, .ref (ad 65))] rfl (by decide) rfl ?_
  refine g_aload_n C 32 1 rfl rfl ?_
  refine g_geti C 33 rfl flX10_216 (hZ.at (i := 65) rfl) rfl ?_
  refine g_aload_n C 34 1 rfl rfl ?_
  refine g_geti C 35 rfl flX10_210 (hZ.at (i := 65) rfl) rfl ?_
  refine g_icmp_ne C 36 82 rfl rfl h (fun h => ?_) (fun h => ?_)
  · refine g_aload_n C 41 1 rfl rfl ?_
    refine g_aload_n C 42 1 rfl rfl ?_
    refine g_geti C 43 rfl flX10_216 (hZ.at (i := 65) rfl) rfl ?_
    refine g_callVi C 44 [.int (σ 65 12)] [] rfl (M_X10_isLetter hZ (σ 65 12)) cnX10_225 cwX10_isLetter ciX10_isLetter (hZ.at (i := 65) rfl) rfl rfl rfl rfl (Nat.le_of_ble_eq_true rfl) ⟨Nat.le_of_ble_eq_true rfl, Nat.le_of_ble_eq_true rfl⟩ h (fun r1 s2 h => ?_)
    refine g_if_eq C 45 154 rfl rfl h (fun h => ?_) (fun h => ?_)
    · refine g_aload_n C 77 1 rfl rfl ?_
      refine g_aload_n C 78 1 rfl rfl ?_
      refine g_geti C 79 rfl flX10_216 (hZ.at (i := 65) rfl) rfl ?_
      refine g_callVi C 80 [.int (s2 65 12)] [] rfl (M_X10_isFigure hZ (s2 65 12)) cnX10_231 cwX10_isFigure ciX10_isFigure (hZ.at (i := 65) rfl) rfl rfl rfl rfl (Nat.le_of_ble_eq_true rfl) ⟨Nat.le_of_ble_eq_true rfl, Nat.le_of_ble_eq_true rfl⟩ h (fun r3 s4 h => ?_)
      refine g_if_eq C 81 275 rfl rfl h (fun h => ?_) (fun h => ?_)
      · refine g_aload_n C 140 1 rfl rfl ?_
        refine g_iconst (v := 3) C 141 rfl rfl ?_
        refine g_put C 142 rfl fpX10_222 (hZ.at (i := 65) rfl) rfl rfl rfl h (fun s5 h => ?_)
        refine g_aload_n C 143 1 rfl rfl ?_
        refine g_aload_n C 144 1 rfl rfl ?_
        refine g_getr (b := 73) C 145 rfl flX10_31 (hZ.at (i := 65) rfl) rfl ?_
        refine g_aload_n C 146 1 rfl rfl ?_
        refine g_geti C 147 rfl flX10_216 (hZ.at (i := 65) rfl) rfl ?_
        refine g_iald C 148 rfl (hZ.at (i := 73) rfl) h (fun h => ?_)
        refine g_put C 149 rfl fpX10_228 (hZ.at (i := 65) rfl) rfl rfl rfl h (fun s6 h => ?_)
        refine g_aload_n C 150 1 rfl rfl ?_
        refine g_dup C 151 rfl rfl ?_
        refine g_geti C 152 rfl flX10_213 (hZ.at (i := 65) rfl) rfl ?_
        refine g_iconst (v := 1) C 153 rfl rfl ?_
        refine g_iadd C 154 rfl ?_
        refine g_put C 155 rfl fpX10_213 (hZ.at (i := 65) rfl) rfl rfl rfl h (fun s7 h => ?_)
        exact g_return C 156 rfl h
      · refine g_aload_n C 82 1 rfl rfl ?_
        refine g_iconst (v := 0) C 83 rfl rfl ?_
        refine g_put C 84 rfl fpX10_228 (hZ.at (i := 65) rfl) rfl rfl rfl h (fun s8 h => ?_)
        refine g_sub C [1, 0] [(0, .ref (ad 65)), (1, .int t0)] rfl ?_
        exact C_F_X10_go_L170 C hZ _ _ _ h
    · refine g_sub C [1, 0] [(0, .ref (ad 65)), (1, .int t0)] rfl ?_
      exact C_F_X10_go_L93 C hZ _ _ _ h
  · refine g_aload_n C 37 1 rfl rfl ?_
    refine g_iconst (v := 0) C 38 rfl rfl ?_
    refine g_put C 39 rfl fpX10_222 (hZ.at (i := 65) rfl) rfl rfl rfl h (fun s9 h => ?_)
    refine g_goto C 40 303 rfl rfl ?_
    exact g_return C 156 rfl h
set_option maxRecDepth 20000 in
set_option maxHeartbeats 4000000 in
theorem C_F_X10_go_J38 {g : Nat → List (Nat × Value) → List Value → gS → Prop} {Z : List gH} {ad : Nat → Nat} {z : Int32 × gS}  (C : gOk g T_X10_go RX10 2 none 2 Z ad z) (hZ : Lay Z) (σ : gS) (h : F_X10_go_J38 Z  σ = some z) : g 38 [(0, .ref (ad 65))] [] σ := by
  rw [F_X10_go_J38] at h
  refine g_aload_n C 19 0 rfl rfl ?_
  refine g_aload_n C 20 0 rfl rfl ?_
  refine g_geti C 21 rfl flX10_213 (hZ.at (i := 65) rfl) rfl ?_
  refine g_put C 22 rfl fpX10_216 (hZ.at (i := 65) rfl) rfl rfl rfl h (fun s1 h => ?_)
  refine g_aload_n C 23 0 rfl rfl ?_
  refine g_geti C 24 rfl flX10_216 (hZ.at (i := 65) rfl) rfl ?_
  refine g_aload_n C 25 0 rfl rfl ?_
  refine g_geti C 26 rfl flX10_219 (hZ.at (i := 65) rfl) rfl ?_
  refine g_icmp_ne C 27 61 rfl rfl h (fun h => ?_) (fun h => ?_)
  · refine g_iconst (v := 0) C 30 rfl rfl ?_
    exact C_F_X10_go_J62 C hZ _ _ h
  · refine g_iconst (v := 1) C 28 rfl rfl ?_
    refine g_goto C 29 62 rfl rfl ?_
    exact C_F_X10_go_J62 C hZ _ _ h
set_option maxRecDepth 20000 in
set_option maxHeartbeats 4000000 in
theorem C_F_X10_go_L0 {g : Nat → List (Nat × Value) → List Value → gS → Prop} {Z : List gH} {ad : Nat → Nat} {z : Int32 × gS}  (C : gOk g T_X10_go RX10 2 none 2 Z ad z) (hZ : Lay Z) : ∀ (n : Nat) (σ : gS), F_X10_go_L0 Z n  σ = some z → g 0 [(0, .ref (ad 65))] [] σ := by
  intro n
  induction n with
  | zero => intro  σ h; cases h
  | succ n ih =>
    intro  σ h
    rw [F_X10_go_L0] at h
    refine g_aload_n C 0 0 rfl rfl ?_
    refine g_geti C 1 rfl flX10_213 (hZ.at (i := 65) rfl) rfl ?_
    refine g_aload_n C 2 0 rfl rfl ?_
    refine g_geti C 3 rfl flX10_210 (hZ.at (i := 65) rfl) rfl ?_
    refine g_icmp_ge C 4 38 rfl rfl h (fun h => ?_) (fun h => ?_)
    · exact C_F_X10_go_J38 C hZ _ h
    · refine g_aload_n C 5 0 rfl rfl ?_
      refine g_getr (b := 73) C 6 rfl flX10_31 (hZ.at (i := 65) rfl) rfl ?_
      refine g_aload_n C 7 0 rfl rfl ?_
      refine g_geti C 8 rfl flX10_213 (hZ.at (i := 65) rfl) rfl ?_
      refine g_iald C 9 rfl (hZ.at (i := 73) rfl) h (fun h => ?_)
      refine g_bipush (v := 32) C 10 rfl rfl ?_
      refine g_icmp_ne C 11 38 rfl rfl h (fun h => ?_) (fun h => ?_)
      · exact C_F_X10_go_J38 C hZ _ h
      · refine g_aload_n C 12 0 rfl rfl ?_
        refine g_dup C 13 rfl rfl ?_
        refine g_geti C 14 rfl flX10_213 (hZ.at (i := 65) rfl) rfl ?_
        refine g_iconst (v := 1) C 15 rfl rfl ?_
        refine g_iadd C 16 rfl ?_
        refine g_put C 17 rfl fpX10_213 (hZ.at (i := 65) rfl) rfl rfl rfl h (fun s1 h => ?_)
        refine g_goto C 18 0 rfl rfl ?_
        exact ih _ h
set_option maxRecDepth 20000 in
set_option maxHeartbeats 4000000 in
theorem M_X10_go {Z : List gH} (hZ : Lay Z) : gMet yX10_go cX10_go 2 none 2 Z (fun ad => [.ref (ad 65)]) (F_X10_go Z) := by
  refine gMet_intro T_X10_go T_X10_go_ok rfl (fun _ => Nat.le_of_ble_eq_true rfl) (fun g ad σ z C h => ?_)
  show g 0 [(0, .ref (ad 65))] [] σ
  rw [F_X10_go] at h
  refine g_aload_n C 0 0 rfl rfl ?_
  refine g_geti C 1 rfl flX10_213 (hZ.at (i := 65) rfl) rfl ?_
  refine g_aload_n C 2 0 rfl rfl ?_
  refine g_geti C 3 rfl flX10_210 (hZ.at (i := 65) rfl) rfl ?_
  refine g_icmp_ge C 4 38 rfl rfl h (fun h => ?_) (fun h => ?_)
  · exact C_F_X10_go_J38 C hZ _ h
  · refine g_aload_n C 5 0 rfl rfl ?_
    refine g_getr (b := 73) C 6 rfl flX10_31 (hZ.at (i := 65) rfl) rfl ?_
    refine g_aload_n C 7 0 rfl rfl ?_
    refine g_geti C 8 rfl flX10_213 (hZ.at (i := 65) rfl) rfl ?_
    refine g_iald C 9 rfl (hZ.at (i := 73) rfl) h (fun h => ?_)
    refine g_bipush (v := 32) C 10 rfl rfl ?_
    refine g_icmp_ne C 11 38 rfl rfl h (fun h => ?_) (fun h => ?_)
    · exact C_F_X10_go_J38 C hZ _ h
    · refine g_aload_n C 12 0 rfl rfl ?_
      refine g_dup C 13 rfl rfl ?_
      refine g_geti C 14 rfl flX10_213 (hZ.at (i := 65) rfl) rfl ?_
      refine g_iconst (v := 1) C 15 rfl rfl ?_
      refine g_iadd C 16 rfl ?_
      refine g_put C 17 rfl fpX10_213 (hZ.at (i := 65) rfl) rfl rfl rfl h (fun s1 h => ?_)
      refine g_goto C 18 0 rfl rfl ?_
      exact C_F_X10_go_L0 C hZ _ _ h
def T_X10_takesPart : List (Nat × Instr × Nat) := [(0, .aload_n 0, 1), (1, .getfield 222, 3), (4, .iconst 1, 1), (5, .if_icmp .ne 31, 3), (8, .aload_n 0, 1), (9, .getfield 213, 3), (12, .aload_n 0, 1), (13, .getfield 216, 3), (16, .isub, 1), (17, .iconst 1, 1), (18, .if_icmp .ne 18, 3), (21, .aload_n 0, 1), (22, .aload_n 0, 1), (23, .getfield 228, 3), (26, .invokevirtual 249, 3), (29, .ifCond .lt 7, 3), (32, .iconst 1, 1), (33, .goto 4, 3), (36, .iconst 0, 1), (37, .istore_n 1, 1), (38, .aload_n 0, 1), (39, .getfield 222, 3), (42, .iconst 2, 1), (43, .if_icmp .eq 9, 3), (46, .iload_n 1, 1), (47, .ifCond .ne 5, 3), (50, .iconst 0, 1), (51, .ireturn, 1), (52, .aload_n 0, 1), (53, .getfield 41, 3), (56, .aload_n 0, 1), (57, .getfield 246, 3), (60, .aload_n 0, 1), (61, .getfield 222, 3), (64, .iconst 2, 1), (65, .if_icmp .ne 10, 3), (68, .aload_n 0, 1), (69, .getfield 228, 3), (72, .goto 15, 3), (75, .sipush 10000, 3), (78, .aload_n 0, 1), (79, .aload_n 0, 1), (80, .getfield 228, 3), (83, .invokevirtual 249, 3), (86, .iadd, 1), (87, .iastore, 1), (88, .aload_n 0, 1), (89, .dup, 1), (90, .getfield 246, 3), (93, .iconst 1, 1), (94, .iadd, 1), (95, .putfield 246, 3), (98, .aload_n 0, 1), (99, .dup, 1), (100, .getfield 252, 3), (103, .iconst 1, 1), (104, .iadd, 1), (105, .putfield 252, 3), (108, .aload_n 0, 1), (109, .bipush 6, 2), (111, .invokevirtual 255, 3), (114, .aload_n 0, 1), (115, .invokevirtual 237, 3), (118, .iconst 1, 1), (119, .ireturn, 1)]
theorem T_X10_takesPart_ok : gTb cX10_takesPart T_X10_takesPart = true := by decide +kernel
def F_X10_takesPart_J87 (Z : List gH) (t0 : Int32) (t1 : Int32) (σ : gS) : Option (Int32 × gS) := mIn 96 t1 (mLet (gu σ 76 (nn t1) t0) (fun s1 => mLet (gu s1 65 20 ((s1 65 20) + 1)) (fun s2 => mLet (gu s2 65 21 ((s2 65 21) + 1)) (fun s3 => mCall (F_X10_settle Z 6 s3) (fun r4 s5 => mCall (F_X10_go Z s5) (fun r6 s7 => mZ 1 s7))))))
def F_X10_takesPart_J52 (Z : List gH) (σ : gS) : Option (Int32 × gS) := if (σ 65 13) = 2 then F_X10_takesPart_J87 Z (σ 65 14) (σ 65 20) σ else mCall (F_X10_nameOf Z (σ 65 14) σ) (fun r1 s2 => F_X10_takesPart_J87 Z (10000 + r1) (σ 65 20) s2)
def F_X10_takesPart_J36 (Z : List gH) (σ : gS) : Option (Int32 × gS) := if (σ 65 13) = 2 then F_X10_takesPart_J52 Z σ else mZ 0 σ
def F_X10_takesPart (Z : List gH) (σ : gS) : Option (Int32 × gS) := if (σ 65 13) = 1 then if ((σ 65 11) - (σ 65 12)) = 1 then mCall (F_X10_nameOf Z (σ 65 14) σ) (fun r1 s2 => if r1 < 0 then F_X10_takesPart_J36 Z s2 else if (s2 65 13) = 2 then F_X10_takesPart_J52 Z s2 else F_X10_takesPart_J52 Z s2) else F_X10_takesPart_J36 Z σ else F_X10_takesPart_J36 Z σ
set_option maxRecDepth 20000 in
set_option maxHeartbeats 4000000 in
theorem C_F_X10_takesPart_J87 {g : Nat → List (Nat × Value) → List Value → gS → Prop} {Z : List gH} {ad : Nat → Nat} {z : Int32 × gS}  (C : gOk g T_X10_takesPart RX10 2 (some .boolean) 3 Z ad z) (hZ : Lay Z) (t0 : Int32) (t1 : Int32) (σ : gS) (h : F_X10_takesPart_J87 Z t0 t1 σ = some z) : g 87 [(0, .ref (ad 65))] [.int t0, .int t1, .ref (ad 76)] σ := by
  rw [F_X10_takesPart_J87] at h
  refine g_iast C 45 rfl (hZ.at (i := 76) rfl) h (fun s1 h => ?_)
  refine g_aload_n C 46 0 rfl rfl ?_
  refine g_dup C 47 rfl rfl ?_
  refine g_geti C 48 rfl flX10_246 (hZ.at (i := 65) rfl) rfl ?_
  refine g_iconst (v := 1) C 49 rfl rfl ?_
  refine g_iadd C 50 rfl ?_
  refine g_put C 51 rfl fpX10_246 (hZ.at (i := 65) rfl) rfl rfl rfl h (fun s2 h => ?_)
  refine g_aload_n C 52 0 rfl rfl ?_
  refine g_dup C 53 rfl rfl ?_
  refine g_geti C 54 rfl flX10_252 (hZ.at (i := 65) rfl) rfl ?_
  refine g_iconst (v := 1) C 55 rfl rfl ?_
  refine g_iadd C 56 rfl ?_
  refine g_put C 57 rfl fpX10_252 (hZ.at (i := 65) rfl) rfl rfl rfl h (fun s3 h => ?_)
  refine g_aload_n C 58 0 rfl rfl ?_
  refine g_bipush (v := 6) C 59 rfl rfl ?_
  refine g_callVv C 60 [.int 6] [] rfl (M_X10_settle hZ 6) cnX10_255 cwX10_settle ciX10_settle (hZ.at (i := 65) rfl) rfl rfl rfl rfl (Nat.le_of_ble_eq_true rfl) ⟨Nat.le_of_ble_eq_true rfl, Nat.le_of_ble_eq_true rfl⟩ h (fun r4 s5 h => ?_)
  refine g_aload_n C 61 0 rfl rfl ?_
  refine g_callVv C 62 [] [] rfl (M_X10_go hZ) cnX10_237 cwX10_go ciX10_go (hZ.at (i := 65) rfl) rfl rfl rfl rfl (Nat.le_of_ble_eq_true rfl) ⟨Nat.le_of_ble_eq_true rfl, Nat.le_of_ble_eq_true rfl⟩ h (fun r6 s7 h => ?_)
  refine g_iconst (v := 1) C 63 rfl rfl ?_
  exact g_zreturn C 64 rfl h
set_option maxRecDepth 20000 in
set_option maxHeartbeats 4000000 in
theorem C_F_X10_takesPart_J52 {g : Nat → List (Nat × Value) → List Value → gS → Prop} {Z : List gH} {ad : Nat → Nat} {z : Int32 × gS}  (C : gOk g T_X10_takesPart RX10 2 (some .boolean) 3 Z ad z) (hZ : Lay Z) (σ : gS) (h : F_X10_takesPart_J52 Z  σ = some z) : g 52 [(0, .ref (ad 65))] [] σ := by
  rw [F_X10_takesPart_J52] at h
  refine g_aload_n C 28 0 rfl rfl ?_
  refine g_getr (b := 76) C 29 rfl flX10_41 (hZ.at (i := 65) rfl) rfl ?_
  refine g_aload_n C 30 0 rfl rfl ?_
  refine g_geti C 31 rfl flX10_246 (hZ.at (i := 65) rfl) rfl ?_
  refine g_aload_n C 32 0 rfl rfl ?_
  refine g_geti C 33 rfl flX10_222 (hZ.at (i := 65) rfl) rfl ?_
  refine g_iconst (v := 2) C 34 rfl rfl ?_
  refine g_icmp_ne C 35 75 rfl rfl h (fun h => ?_) (fun h => ?_)
  · refine g_sipush (v := 10000) C 39 rfl rfl ?_
    refine g_aload_n C 40 0 rfl rfl ?_
    refine g_aload_n C 41 0 rfl rfl ?_
    refine g_geti C 42 rfl flX10_228 (hZ.at (i := 65) rfl) rfl ?_
    refine g_callVi C 43 [.int (σ 65 14)] [.int 10000, .int (σ 65 20), .ref (ad 76)] rfl (M_X10_nameOf hZ (σ 65 14)) cnX10_249 cwX10_nameOf ciX10_nameOf (hZ.at (i := 65) rfl) rfl rfl rfl rfl (Nat.le_of_ble_eq_true rfl) ⟨Nat.le_of_ble_eq_true rfl, Nat.le_of_ble_eq_true rfl⟩ h (fun r1 s2 h => ?_)
    refine g_iadd C 44 rfl ?_
    exact C_F_X10_takesPart_J87 C hZ _ _ _ h
  · refine g_aload_n C 36 0 rfl rfl ?_
    refine g_geti C 37 rfl flX10_228 (hZ.at (i := 65) rfl) rfl ?_
    refine g_goto C 38 87 rfl rfl ?_
    exact C_F_X10_takesPart_J87 C hZ _ _ _ h
set_option maxRecDepth 20000 in
set_option maxHeartbeats 4000000 in
theorem C_F_X10_takesPart_J36 {g : Nat → List (Nat × Value) → List Value → gS → Prop} {Z : List gH} {ad : Nat → Nat} {z : Int32 × gS}  (C : gOk g T_X10_takesPart RX10 2 (some .boolean) 3 Z ad z) (hZ : Lay Z) (σ : gS) (h : F_X10_takesPart_J36 Z  σ = some z) : g 36 [(0, .ref (ad 65))] [] σ := by
  rw [F_X10_takesPart_J36] at h
  refine g_iconst (v := 0) C 18 rfl rfl ?_
  refine g_istore_n C 19 [(1, .int 0), (0, .ref (ad 65))] rfl (by decide) rfl ?_
  refine g_aload_n C 20 1 rfl rfl ?_
  refine g_geti C 21 rfl flX10_222 (hZ.at (i := 65) rfl) rfl ?_
  refine g_iconst (v := 2) C 22 rfl rfl ?_
  refine g_icmp_eq C 23 52 rfl rfl h (fun h => ?_) (fun h => ?_)
  · refine g_sub C [1] [(0, .ref (ad 65))] rfl ?_
    exact C_F_X10_takesPart_J52 C hZ _ h
  · refine g_iload_n C 24 0 rfl rfl ?_
    refine g_if_ne_F C 25 52 rfl rfl (by decide) ?_
    refine g_iconst (v := 0) C 26 rfl rfl ?_
    exact g_zreturn C 27 rfl h
set_option maxRecDepth 20000 in
set_option maxHeartbeats 4000000 in
theorem M_X10_takesPart {Z : List gH} (hZ : Lay Z) : gMet yX10_takesPart cX10_takesPart 2 (some .boolean) 3 Z (fun ad => [.ref (ad 65)]) (F_X10_takesPart Z) := by
  refine gMet_intro T_X10_takesPart T_X10_takesPart_ok rfl (fun _ => Nat.le_of_ble_eq_true rfl) (fun g ad σ z C h => ?_)
  show g 0 [(0, .ref (ad 65))] [] σ
  rw [F_X10_takesPart] at h
  refine g_aload_n C 0 0 rfl rfl ?_
  refine g_geti C 1 rfl flX10_222 (hZ.at (i := 65) rfl) rfl ?_
  refine g_iconst (v := 1) C 2 rfl rfl ?_
  refine g_icmp_ne C 3 36 rfl rfl h (fun h => ?_) (fun h => ?_)
  · exact C_F_X10_takesPart_J36 C hZ _ h
  · refine g_aload_n C 4 0 rfl rfl ?_
    refine g_geti C 5 rfl flX10_213 (hZ.at (i := 65) rfl) rfl ?_
    refine g_aload_n C 6 0 rfl rfl ?_
    refine g_geti C 7 rfl flX10_216 (hZ.at (i := 65) rfl) rfl ?_
    refine g_isub C 8 rfl ?_
    refine g_iconst (v := 1) C 9 rfl rfl ?_
    refine g_icmp_ne C 10 36 rfl rfl h (fun h => ?_) (fun h => ?_)
    · exact C_F_X10_takesPart_J36 C hZ _ h
    · refine g_aload_n C 11 0 rfl rfl ?_
      refine g_aload_n C 12 0 rfl rfl ?_
      refine g_geti C 13 rfl flX10_228 (hZ.at (i := 65) rfl) rfl ?_
      refine g_callVi C 14 [.int (σ 65 14)] [] rfl (M_X10_nameOf hZ (σ 65 14)) cnX10_249 cwX10_nameOf ciX10_nameOf (hZ.at (i := 65) rfl) rfl rfl rfl rfl (Nat.le_of_ble_eq_true rfl) ⟨Nat.le_of_ble_eq_true rfl, Nat.le_of_ble_eq_true rfl⟩ h (fun r1 s2 h => ?_)
      refine g_if_lt C 15 36 rfl rfl h (fun h => ?_) (fun h => ?_)
      · exact C_F_X10_takesPart_J36 C hZ _ h
      · refine g_iconst (v := 1) C 16 rfl rfl ?_
        refine g_goto C 17 37 rfl rfl ?_
        refine g_istore_n C 19 [(1, .int 1), (0, .ref (ad 65))] rfl (by decide) rfl ?_
        refine g_aload_n C 20 1 rfl rfl ?_
        refine g_geti C 21 rfl flX10_222 (hZ.at (i := 65) rfl) rfl ?_
        refine g_iconst (v := 2) C 22 rfl rfl ?_
        refine g_icmp_eq C 23 52 rfl rfl h (fun h => ?_) (fun h => ?_)
        · refine g_sub C [1] [(0, .ref (ad 65))] rfl ?_
          exact C_F_X10_takesPart_J52 C hZ _ h
        · refine g_iload_n C 24 0 rfl rfl ?_
          refine g_if_ne_T C 25 52 rfl rfl (by decide) ?_
          refine g_sub C [1] [(0, .ref (ad 65))] rfl ?_
          exact C_F_X10_takesPart_J52 C hZ _ h
def T_X10_takesE : List (Nat × Instr × Nat) := [(0, .iconst 0, 1), (1, .istore_n 1, 1), (2, .iconst 0, 1), (3, .istore_n 2, 1), (4, .iconst 1, 1), (5, .istore_n 3, 1), (6, .aload_n 0, 1), (7, .iconst 0, 1), (8, .putfield 246, 3), (11, .aload_n 0, 1), (12, .iconst 0, 1), (13, .putfield 252, 3), (16, .aload_n 0, 1), (17, .iconst 0, 1), (18, .putfield 240, 3), (21, .aload_n 0, 1), (22, .getfield 47, 3), (25, .iconst 0, 1), (26, .iconst 0, 1), (27, .bastore, 1), (28, .iload_n 3, 1), (29, .ifCond .ne 10, 3), (32, .aload_n 0, 1), (33, .getfield 222, 3), (36, .ifCond .eq 309, 3), (39, .iload_n 3, 1), (40, .ifCond .eq 140, 3), (43, .aload_n 0, 1), (44, .getfield 222, 3), (47, .iconst 3, 1), (48, .if_icmp .ne 49, 3), (51, .aload_n 0, 1), (52, .getfield 228, 3), (55, .bipush 33, 2), (57, .if_icmp .ne 40, 3), (60, .iload_n 2, 1), (61, .bipush 8, 2), (63, .if_icmp .ge 34, 3), (66, .aload_n 0, 1), (67, .getfield 44, 3), (70, .aload_n 0, 1), (71, .getfield 240, 3), (74, .bipush (-10), 2), (76, .iastore, 1), (77, .aload_n 0, 1), (78, .dup, 1), (79, .getfield 240, 3), (82, .iconst 1, 1), (83, .iadd, 1), (84, .putfield 240, 3), (87, .iinc 2 1, 3), (90, .aload_n 0, 1), (91, .invokevirtual 237, 3), (94, .goto 78, 3), (97, .aload_n 0, 1), (98, .getfield 222, 3), (101, .iconst 3, 1), (102, .if_icmp .ne 56, 3), (105, .aload_n 0, 1), (106, .getfield 228, 3), (109, .bipush 40, 2), (111, .if_icmp .ne 47, 3), (114, .iload_n 1, 1), (115, .bipush 8, 2), (117, .if_icmp .ge 41, 3), (120, .aload_n 0, 1), (121, .getfield 44, 3), (124, .aload_n 0, 1), (125, .getfield 240, 3), (128, .bipush (-11), 2), (130, .iastore, 1), (131, .aload_n 0, 1), (132, .dup, 1), (133, .getfield 240, 3), (136, .iconst 1, 1), (137, .iadd, 1), (138, .putfield 240, 3), (141, .iinc 1 1, 3), (144, .aload_n 0, 1), (145, .getfield 47, 3), (148, .iload_n 1, 1), (149, .iconst 0, 1), (150, .bastore, 1), (151, .aload_n 0, 1), (152, .invokevirtual 237, 3), (155, .goto 17, 3), (158, .aload_n 0, 1), (159, .invokevirtual 258, 3), (162, .ifCond .eq 8, 3), (165, .iconst 0, 1), (166, .istore_n 3, 1), (167, .goto 5, 3), (170, .iconst 0, 1), (171, .ireturn, 1), (172, .aload_n 0, 1), (173, .invokevirtual 262, 3), (176, .istore_n 2, 1), (177, .goto (-149), 3), (180, .aload_n 0, 1), (181, .getfield 222, 3), (184, .iconst 3, 1), (185, .if_icmp .ne 52, 3), (188, .aload_n 0, 1), (189, .getfield 228, 3), (192, .bipush 41, 2), (194, .if_icmp .ne 43, 3), (197, .iload_n 1, 1), (198, .ifCond .le 39, 3), (201, .aload_n 0, 1), (202, .iconst 0, 1), (203, .invokevirtual 255, 3), (206, .aload_n 0, 1), (207, .dup, 1), (208, .getfield 240, 3), (211, .iconst 1, 1), (212, .isub, 1), (213, .putfield 240, 3), (216, .iinc 1 (-1), 3), (219, .aload_n 0, 1), (220, .bipush 6, 2), (222, .invokevirtual 255, 3), (225, .aload_n 0, 1), (226, .invokevirtual 262, 3), (229, .istore_n 2, 1), (230, .aload_n 0, 1), (231, .invokevirtual 237, 3), (234, .goto (-206), 3), (237, .aload_n 0, 1), (238, .invokevirtual 265, 3), (241, .istore 4, 2), (243, .iload 4, 2), (245, .ifCond .eq 21, 3), (248, .iload 4, 2), (250, .invokestatic 243, 3), (253, .iconst 3, 1), (254, .if_icmp .ne 14, 3), (257, .aload_n 0, 1), (258, .getfield 47, 3), (261, .iload_n 1, 1), (262, .baload, 1), (263, .ifCond .eq 5, 3), (266, .iconst 0, 1), (267, .ireturn, 1), (268, .aload_n 0, 1), (269, .getfield 47, 3), (272, .iload_n 1, 1), (273, .iload 4, 2), (275, .invokestatic 243, 3), (278, .iconst 3, 1), (279, .if_icmp .eq 21, 3), (282, .iload 4, 2), (284, .invokestatic 243, 3), (287, .iconst 3, 1), (288, .if_icmp .le 16, 3), (291, .aload_n 0, 1), (292, .getfield 47, 3), (295, .iload_n 1, 1), (296, .baload, 1), (297, .ifCond .eq 7, 3), (300, .iconst 1, 1), (301, .goto 4, 3), (304, .iconst 0, 1), (305, .bastore, 1), (306, .aload_n 0, 1), (307, .iload 4, 2), (309, .invokestatic 243, 3), (312, .invokevirtual 255, 3), (315, .aload_n 0, 1), (316, .getfield 44, 3), (319, .aload_n 0, 1), (320, .getfield 240, 3), (323, .iload 4, 2), (325, .iastore, 1), (326, .aload_n 0, 1), (327, .dup, 1), (328, .getfield 240, 3), (331, .iconst 1, 1), (332, .iadd, 1), (333, .putfield 240, 3), (336, .iconst 1, 1), (337, .istore_n 3, 1), (338, .aload_n 0, 1), (339, .invokevirtual 237, 3), (342, .goto (-314), 3), (345, .aload_n 0, 1), (346, .iconst 0, 1), (347, .invokevirtual 255, 3), (350, .iload_n 1, 1), (351, .ifCond .ne 7, 3), (354, .iconst 1, 1), (355, .goto 4, 3), (358, .iconst 0, 1), (359, .ireturn, 1)]
theorem T_X10_takesE_ok : gTb cX10_takesE T_X10_takesE = true := by decide +kernel
def F_X10_takesE_J305 (Z : List gH) (k28 : Int32 → Int32 → Int32 → gS → Option (Int32 × gS)) (l1 : Int32) (l2 : Int32) (l4 : Int32) (t0 : Int32) (t1 : Int32) (σ : gS) : Option (Int32 × gS) := mIn 10 t1 (mLet (gu σ 78 (nn t1) (vp_nar .boolean t0)) (fun s1 => mCall (F_X10_rank Z l4 s1) (fun r2 s3 => mCall (F_X10_settle Z r2 s3) (fun r4 s5 => mIn 96 (s5 65 23) (mLet (gu s5 77 (nn (s5 65 23)) l4) (fun s6 => mLet (gu s6 65 23 ((s6 65 23) + 1)) (fun s7 => mCall (F_X10_go Z s7) (fun r8 s9 => k28 l1 l2 1 s9))))))))
def F_X10_takesE_J268 (Z : List gH) (k28 : Int32 → Int32 → Int32 → gS → Option (Int32 × gS)) (l1 : Int32) (l2 : Int32) (l4 : Int32) (σ : gS) : Option (Int32 × gS) := mCall (F_X10_rank Z l4 σ) (fun r1 s2 => if r1 = 3 then F_X10_takesE_J305 Z k28 l1 l2 l4 1 l1 s2 else mCall (F_X10_rank Z l4 s2) (fun r3 s4 => if r3 ≤ 3 then F_X10_takesE_J305 Z k28 l1 l2 l4 0 l1 s4 else mIn 10 l1 (if (s4 78 (nn l1)) = 0 then F_X10_takesE_J305 Z k28 l1 l2 l4 0 l1 s4 else F_X10_takesE_J305 Z k28 l1 l2 l4 1 l1 s4)))
def F_X10_takesE_J237 (Z : List gH) (k28 : Int32 → Int32 → Int32 → gS → Option (Int32 × gS)) (l1 : Int32) (l2 : Int32) (σ : gS) : Option (Int32 × gS) := mCall (F_X10_signHere Z σ) (fun r1 s2 => if r1 = 0 then mZ 0 s2 else mCall (F_X10_rank Z r1 s2) (fun r3 s4 => if r3 = 3 then mIn 10 l1 (if (s4 78 (nn l1)) = 0 then F_X10_takesE_J268 Z k28 l1 l2 r1 s4 else mZ 0 s4) else F_X10_takesE_J268 Z k28 l1 l2 r1 s4))
def F_X10_takesE_J158 (Z : List gH) (k28 : Int32 → Int32 → Int32 → gS → Option (Int32 × gS)) (l1 : Int32) (σ : gS) : Option (Int32 × gS) := mCall (F_X10_takesPart Z σ) (fun r1 s2 => if r1 = 0 then mZ 0 s2 else mCall (F_X10_notsOpen Z s2) (fun r3 s4 => k28 l1 r3 0 s4))
def F_X10_takesE_J97 (Z : List gH) (k28 : Int32 → Int32 → Int32 → gS → Option (Int32 × gS)) (l1 : Int32) (l3 : Int32) (σ : gS) : Option (Int32 × gS) := if (σ 65 13) = 3 then if (σ 65 14) = 40 then if 8 ≤ l1 then F_X10_takesE_J158 Z k28 l1 σ else mIn 96 (σ 65 23) (mLet (gu σ 77 (nn (σ 65 23)) (-11)) (fun s1 => mLet (gu s1 65 23 ((s1 65 23) + 1)) (fun s2 => mIn 10 (l1 + 1) (mLet (gu s2 78 (nn (l1 + 1)) (vp_nar .boolean 0)) (fun s3 => mCall (F_X10_go Z s3) (fun r4 s5 => mCall (F_X10_notsOpen Z s5) (fun r6 s7 => k28 (l1 + 1) r6 l3 s7))))))) else F_X10_takesE_J158 Z k28 l1 σ else F_X10_takesE_J158 Z k28 l1 σ
def F_X10_takesE_J39 (Z : List gH) (k28 : Int32 → Int32 → Int32 → gS → Option (Int32 × gS)) (l1 : Int32) (l2 : Int32) (l3 : Int32) (σ : gS) : Option (Int32 × gS) := if l3 = 0 then if (σ 65 13) = 3 then if (σ 65 14) = 41 then if l1 ≤ 0 then F_X10_takesE_J237 Z k28 l1 l2 σ else mCall (F_X10_settle Z 0 σ) (fun r1 s2 => mLet (gu s2 65 23 ((s2 65 23) - 1)) (fun s3 => mCall (F_X10_settle Z 6 s3) (fun r4 s5 => mCall (F_X10_notsOpen Z s5) (fun r6 s7 => mCall (F_X10_go Z s7) (fun r8 s9 => k28 (l1 + (-1)) r6 l3 s9))))) else F_X10_takesE_J237 Z k28 l1 l2 σ else F_X10_takesE_J237 Z k28 l1 l2 σ else if (σ 65 13) = 3 then if (σ 65 14) = 33 then if 8 ≤ l2 then F_X10_takesE_J97 Z k28 l1 l3 σ else mIn 96 (σ 65 23) (mLet (gu σ 77 (nn (σ 65 23)) (-10)) (fun s10 => mLet (gu s10 65 23 ((s10 65 23) + 1)) (fun s11 => mCall (F_X10_go Z s11) (fun r12 s13 => mCall (F_X10_notsOpen Z s13) (fun r14 s15 => k28 l1 r14 l3 s15))))) else F_X10_takesE_J97 Z k28 l1 l3 σ else F_X10_takesE_J97 Z k28 l1 l3 σ
def F_X10_takesE_L28 (Z : List gH) : Nat → Int32 → Int32 → Int32 → gS → Option (Int32 × gS)
  | 0, _, _, _, _ => none
  | n + 1, l1, l2, l3, σ => if l3 = 0 then if (σ 65 13) = 0 then mCall (F_X10_settle Z 0 σ) (fun r1 s2 => if l1 = 0 then mZ 1 s2 else mZ 0 s2) else F_X10_takesE_J39 Z (F_X10_takesE_L28 Z n) l1 l2 l3 σ else F_X10_takesE_J39 Z (F_X10_takesE_L28 Z n) l1 l2 l3 σ
def F_X10_takesE (Z : List gH) (σ : gS) : Option (Int32 × gS) := mLet (gu σ 65 20 0) (fun s1 => mLet (gu s1 65 21 0) (fun s2 => mLet (gu s2 65 23 0) (fun s3 => mLet (gu s3 78 0 (vp_nar .boolean 0)) (fun s4 => F_X10_takesE_L28 Z mFuel 0 0 1 s4))))
set_option maxRecDepth 20000 in
set_option maxHeartbeats 4000000 in
theorem C_F_X10_takesE_J305 {g : Nat → List (Nat × Value) → List Value → gS → Prop} {Z : List gH} {ad : Nat → Nat} {z : Int32 × gS}  (C : gOk g T_X10_takesE RX10 5 (some .boolean) 4 Z ad z) (hZ : Lay Z) {k28 : Int32 → Int32 → Int32 → gS → Option (Int32 × gS)} (hk28 : ∀ (l1 : Int32) (l2 : Int32) (l3 : Int32) (σ : gS), k28 l1 l2 l3 σ = some z → g 28 [(0, .ref (ad 65)), (1, .int l1), (2, .int l2), (3, .int l3)] [] σ) (l1 : Int32) (l2 : Int32) (l4 : Int32) (t0 : Int32) (t1 : Int32) (σ : gS) (h : F_X10_takesE_J305 Z k28 l1 l2 l4 t0 t1 σ = some z) : g 305 [(0, .ref (ad 65)), (1, .int l1), (2, .int l2), (4, .int l4)] [.int t0, .int t1, .ref (ad 78)] σ := by
  rw [F_X10_takesE_J305] at h
  refine g_zast C 162 rfl (hZ.at (i := 78) rfl) h (fun s1 h => ?_)
  refine g_aload_n C 163 0 rfl rfl ?_
  refine g_iload C 164 3 rfl rfl ?_
  refine g_callSi C 165 [.int l4] [.ref (ad 65)] rfl (M_X10_rank hZ l4) cnX10_243 cwX10_rank csX10_rank rfl rfl rfl (Nat.le_of_ble_eq_true rfl) ⟨Nat.le_of_ble_eq_true rfl, Nat.le_of_ble_eq_true rfl⟩ h (fun r2 s3 h => ?_)
  refine g_callVv C 166 [.int r2] [] rfl (M_X10_settle hZ r2) cnX10_255 cwX10_settle ciX10_settle (hZ.at (i := 65) rfl) rfl rfl rfl rfl (Nat.le_of_ble_eq_true rfl) ⟨Nat.le_of_ble_eq_true rfl, Nat.le_of_ble_eq_true rfl⟩ h (fun r4 s5 h => ?_)
  refine g_aload_n C 167 0 rfl rfl ?_
  refine g_getr (b := 77) C 168 rfl flX10_44 (hZ.at (i := 65) rfl) rfl ?_
  refine g_aload_n C 169 0 rfl rfl ?_
  refine g_geti C 170 rfl flX10_240 (hZ.at (i := 65) rfl) rfl ?_
  refine g_iload C 171 3 rfl rfl ?_
  refine g_iast C 172 rfl (hZ.at (i := 77) rfl) h (fun s6 h => ?_)
  refine g_aload_n C 173 0 rfl rfl ?_
  refine g_dup C 174 rfl rfl ?_
  refine g_geti C 175 rfl flX10_240 (hZ.at (i := 65) rfl) rfl ?_
  refine g_iconst (v := 1) C 176 rfl rfl ?_
  refine g_iadd C 177 rfl ?_
  refine g_put C 178 rfl fpX10_240 (hZ.at (i := 65) rfl) rfl rfl rfl h (fun s7 h => ?_)
  refine g_iconst (v := 1) C 179 rfl rfl ?_
  refine g_istore_n C 180 [(3, .int 1), (0, .ref (ad 65)), (1, .int l1), (2, .int l2), (4, .int l4)] rfl (by decide) rfl ?_
  refine g_aload_n C 181 1 rfl rfl ?_
  refine g_callVv C 182 [] [] rfl (M_X10_go hZ) cnX10_237 cwX10_go ciX10_go (hZ.at (i := 65) rfl) rfl rfl rfl rfl (Nat.le_of_ble_eq_true rfl) ⟨Nat.le_of_ble_eq_true rfl, Nat.le_of_ble_eq_true rfl⟩ h (fun r8 s9 h => ?_)
  refine g_goto C 183 28 rfl rfl ?_
  refine g_sub C [1, 2, 3, 0] [(0, .ref (ad 65)), (1, .int l1), (2, .int l2), (3, .int 1)] rfl ?_
  exact hk28 _ _ _ _ h
set_option maxRecDepth 20000 in
set_option maxHeartbeats 4000000 in
theorem C_F_X10_takesE_J268 {g : Nat → List (Nat × Value) → List Value → gS → Prop} {Z : List gH} {ad : Nat → Nat} {z : Int32 × gS}  (C : gOk g T_X10_takesE RX10 5 (some .boolean) 4 Z ad z) (hZ : Lay Z) {k28 : Int32 → Int32 → Int32 → gS → Option (Int32 × gS)} (hk28 : ∀ (l1 : Int32) (l2 : Int32) (l3 : Int32) (σ : gS), k28 l1 l2 l3 σ = some z → g 28 [(0, .ref (ad 65)), (1, .int l1), (2, .int l2), (3, .int l3)] [] σ) (l1 : Int32) (l2 : Int32) (l4 : Int32) (σ : gS) (h : F_X10_takesE_J268 Z k28 l1 l2 l4 σ = some z) : g 268 [(0, .ref (ad 65)), (1, .int l1), (2, .int l2), (4, .int l4)] [] σ := by
  rw [F_X10_takesE_J268] at h
  refine g_aload_n C 143 0 rfl rfl ?_
  refine g_getr (b := 78) C 144 rfl flX10_47 (hZ.at (i := 65) rfl) rfl ?_
  refine g_iload_n C 145 1 rfl rfl ?_
  refine g_iload C 146 3 rfl rfl ?_
  refine g_callSi C 147 [.int l4] [.int l1, .ref (ad 78)] rfl (M_X10_rank hZ l4) cnX10_243 cwX10_rank csX10_rank rfl rfl rfl (Nat.le_of_ble_eq_true rfl) ⟨Nat.le_of_ble_eq_true rfl, Nat.le_of_ble_eq_true rfl⟩ h (fun r1 s2 h => ?_)
  refine g_iconst (v := 3) C 148 rfl rfl ?_
  refine g_icmp_eq C 149 300 rfl rfl h (fun h => ?_) (fun h => ?_)
  · refine g_iconst (v := 1) C 159 rfl rfl ?_
    refine g_goto C 160 305 rfl rfl ?_
    exact C_F_X10_takesE_J305 C hZ hk28 _ _ _ _ _ _ h
  · refine g_iload C 150 3 rfl rfl ?_
    refine g_callSi C 151 [.int l4] [.int l1, .ref (ad 78)] rfl (M_X10_rank hZ l4) cnX10_243 cwX10_rank csX10_rank rfl rfl rfl (Nat.le_of_ble_eq_true rfl) ⟨Nat.le_of_ble_eq_true rfl, Nat.le_of_ble_eq_true rfl⟩ h (fun r3 s4 h => ?_)
    refine g_iconst (v := 3) C 152 rfl rfl ?_
    refine g_icmp_le C 153 304 rfl rfl h (fun h => ?_) (fun h => ?_)
    · refine g_iconst (v := 0) C 161 rfl rfl ?_
      exact C_F_X10_takesE_J305 C hZ hk28 _ _ _ _ _ _ h
    · refine g_aload_n C 154 0 rfl rfl ?_
      refine g_getr (b := 78) C 155 rfl flX10_47 (hZ.at (i := 65) rfl) rfl ?_
      refine g_iload_n C 156 1 rfl rfl ?_
      refine g_zald C 157 rfl (hZ.at (i := 78) rfl) h (fun h => ?_)
      refine g_if_eq C 158 304 rfl rfl h (fun h => ?_) (fun h => ?_)
      · refine g_iconst (v := 0) C 161 rfl rfl ?_
        exact C_F_X10_takesE_J305 C hZ hk28 _ _ _ _ _ _ h
      · refine g_iconst (v := 1) C 159 rfl rfl ?_
        refine g_goto C 160 305 rfl rfl ?_
        exact C_F_X10_takesE_J305 C hZ hk28 _ _ _ _ _ _ h
set_option maxRecDepth 20000 in
set_option maxHeartbeats 4000000 in
theorem C_F_X10_takesE_J237 {g : Nat → List (Nat × Value) → List Value → gS → Prop} {Z : List gH} {ad : Nat → Nat} {z : Int32 × gS}  (C : gOk g T_X10_takesE RX10 5 (some .boolean) 4 Z ad z) (hZ : Lay Z) {k28 : Int32 → Int32 → Int32 → gS → Option (Int32 × gS)} (hk28 : ∀ (l1 : Int32) (l2 : Int32) (l3 : Int32) (σ : gS), k28 l1 l2 l3 σ = some z → g 28 [(0, .ref (ad 65)), (1, .int l1), (2, .int l2), (3, .int l3)] [] σ) (l1 : Int32) (l2 : Int32) (σ : gS) (h : F_X10_takesE_J237 Z k28 l1 l2 σ = some z) : g 237 [(0, .ref (ad 65)), (1, .int l1), (2, .int l2)] [] σ := by
  rw [F_X10_takesE_J237] at h
  refine g_aload_n C 127 0 rfl rfl ?_
  refine g_callVi C 128 [] [] rfl (M_X10_signHere hZ) cnX10_265 cwX10_signHere ciX10_signHere (hZ.at (i := 65) rfl) rfl rfl rfl rfl (Nat.le_of_ble_eq_true rfl) ⟨Nat.le_of_ble_eq_true rfl, Nat.le_of_ble_eq_true rfl⟩ h (fun r1 s2 h => ?_)
  refine g_istore C 129 [(4, .int r1), (0, .ref (ad 65)), (1, .int l1), (2, .int l2)] rfl (by decide) rfl ?_
  refine g_iload C 130 0 rfl rfl ?_
  refine g_if_eq C 131 266 rfl rfl h (fun h => ?_) (fun h => ?_)
  · refine g_iconst (v := 0) C 141 rfl rfl ?_
    exact g_zreturn C 142 rfl h
  · refine g_iload C 132 0 rfl rfl ?_
    refine g_callSi C 133 [.int r1] [] rfl (M_X10_rank hZ r1) cnX10_243 cwX10_rank csX10_rank rfl rfl rfl (Nat.le_of_ble_eq_true rfl) ⟨Nat.le_of_ble_eq_true rfl, Nat.le_of_ble_eq_true rfl⟩ h (fun r3 s4 h => ?_)
    refine g_iconst (v := 3) C 134 rfl rfl ?_
    refine g_icmp_ne C 135 268 rfl rfl h (fun h => ?_) (fun h => ?_)
    · refine g_sub C [1, 2, 3, 0] [(0, .ref (ad 65)), (1, .int l1), (2, .int l2), (4, .int r1)] rfl ?_
      exact C_F_X10_takesE_J268 C hZ hk28 _ _ _ _ h
    · refine g_aload_n C 136 1 rfl rfl ?_
      refine g_getr (b := 78) C 137 rfl flX10_47 (hZ.at (i := 65) rfl) rfl ?_
      refine g_iload_n C 138 2 rfl rfl ?_
      refine g_zald C 139 rfl (hZ.at (i := 78) rfl) h (fun h => ?_)
      refine g_if_eq C 140 268 rfl rfl h (fun h => ?_) (fun h => ?_)
      · refine g_sub C [1, 2, 3, 0] [(0, .ref (ad 65)), (1, .int l1), (2, .int l2), (4, .int r1)] rfl ?_
        exact C_F_X10_takesE_J268 C hZ hk28 _ _ _ _ h
      · refine g_iconst (v := 0) C 141 rfl rfl ?_
        exact g_zreturn C 142 rfl h
set_option maxRecDepth 20000 in
set_option maxHeartbeats 4000000 in
theorem C_F_X10_takesE_J158 {g : Nat → List (Nat × Value) → List Value → gS → Prop} {Z : List gH} {ad : Nat → Nat} {z : Int32 × gS}  (C : gOk g T_X10_takesE RX10 5 (some .boolean) 4 Z ad z) (hZ : Lay Z) {k28 : Int32 → Int32 → Int32 → gS → Option (Int32 × gS)} (hk28 : ∀ (l1 : Int32) (l2 : Int32) (l3 : Int32) (σ : gS), k28 l1 l2 l3 σ = some z → g 28 [(0, .ref (ad 65)), (1, .int l1), (2, .int l2), (3, .int l3)] [] σ) (l1 : Int32) (σ : gS) (h : F_X10_takesE_J158 Z k28 l1 σ = some z) : g 158 [(0, .ref (ad 65)), (1, .int l1)] [] σ := by
  rw [F_X10_takesE_J158] at h
  refine g_aload_n C 86 0 rfl rfl ?_
  refine g_callVi C 87 [] [] rfl (M_X10_takesPart hZ) cnX10_258 cwX10_takesPart ciX10_takesPart (hZ.at (i := 65) rfl) rfl rfl rfl rfl (Nat.le_of_ble_eq_true rfl) ⟨Nat.le_of_ble_eq_true rfl, Nat.le_of_ble_eq_true rfl⟩ h (fun r1 s2 h => ?_)
  refine g_if_eq C 88 170 rfl rfl h (fun h => ?_) (fun h => ?_)
  · refine g_iconst (v := 0) C 92 rfl rfl ?_
    exact g_zreturn C 93 rfl h
  · refine g_iconst (v := 0) C 89 rfl rfl ?_
    refine g_istore_n C 90 [(3, .int 0), (0, .ref (ad 65)), (1, .int l1)] rfl (by decide) rfl ?_
    refine g_goto C 91 172 rfl rfl ?_
    refine g_aload_n C 94 1 rfl rfl ?_
    refine g_callVi C 95 [] [] rfl (M_X10_notsOpen hZ) cnX10_262 cwX10_notsOpen ciX10_notsOpen (hZ.at (i := 65) rfl) rfl rfl rfl rfl (Nat.le_of_ble_eq_true rfl) ⟨Nat.le_of_ble_eq_true rfl, Nat.le_of_ble_eq_true rfl⟩ h (fun r3 s4 h => ?_)
    refine g_istore_n C 96 [(2, .int r3), (3, .int 0), (0, .ref (ad 65)), (1, .int l1)] rfl (by decide) rfl ?_
    refine g_goto C 97 28 rfl rfl ?_
    refine g_sub C [2, 3, 0, 1] [(0, .ref (ad 65)), (1, .int l1), (2, .int r3), (3, .int 0)] rfl ?_
    exact hk28 _ _ _ _ h
set_option maxRecDepth 20000 in
set_option maxHeartbeats 4000000 in
theorem C_F_X10_takesE_J97 {g : Nat → List (Nat × Value) → List Value → gS → Prop} {Z : List gH} {ad : Nat → Nat} {z : Int32 × gS}  (C : gOk g T_X10_takesE RX10 5 (some .boolean) 4 Z ad z) (hZ : Lay Z) {k28 : Int32 → Int32 → Int32 → gS → Option (Int32 × gS)} (hk28 : ∀ (l1 : Int32) (l2 : Int32) (l3 : Int32) (σ : gS), k28 l1 l2 l3 σ = some z → g 28 [(0, .ref (ad 65)), (1, .int l1), (2, .int l2), (3, .int l3)] [] σ) (l1 : Int32) (l3 : Int32) (σ : gS) (h : F_X10_takesE_J97 Z k28 l1 l3 σ = some z) : g 97 [(0, .ref (ad 65)), (1, .int l1), (3, .int l3)] [] σ := by
  rw [F_X10_takesE_J97] at h
  refine g_aload_n C 54 0 rfl rfl ?_
  refine g_geti C 55 rfl flX10_222 (hZ.at (i := 65) rfl) rfl ?_
  refine g_iconst (v := 3) C 56 rfl rfl ?_
  refine g_icmp_ne C 57 158 rfl rfl h (fun h => ?_) (fun h => ?_)
  · refine g_sub C [0, 1] [(0, .ref (ad 65)), (1, .int l1)] rfl ?_
    exact C_F_X10_takesE_J158 C hZ hk28 _ _ h
  · refine g_aload_n C 58 0 rfl rfl ?_
    refine g_geti C 59 rfl flX10_228 (hZ.at (i := 65) rfl) rfl ?_
    refine g_bipush (v := 40) C 60 rfl rfl ?_
    refine g_icmp_ne C 61 158 rfl rfl h (fun h => ?_) (fun h => ?_)
    · refine g_sub C [0, 1] [(0, .ref (ad 65)), (1, .int l1)] rfl ?_
      exact C_F_X10_takesE_J158 C hZ hk28 _ _ h
    · refine g_iload_n C 62 1 rfl rfl ?_
      refine g_bipush (v := 8) C 63 rfl rfl ?_
      refine g_icmp_ge C 64 158 rfl rfl h (fun h => ?_) (fun h => ?_)
      · refine g_sub C [0, 1] [(0, .ref (ad 65)), (1, .int l1)] rfl ?_
        exact C_F_X10_takesE_J158 C hZ hk28 _ _ h
      · refine g_aload_n C 65 0 rfl rfl ?_
        refine g_getr (b := 77) C 66 rfl flX10_44 (hZ.at (i := 65) rfl) rfl ?_
        refine g_aload_n C 67 0 rfl rfl ?_
        refine g_geti C 68 rfl flX10_240 (hZ.at (i := 65) rfl) rfl ?_
        refine g_bipush (v := (-11)) C 69 rfl rfl ?_
        refine g_iast C 70 rfl (hZ.at (i := 77) rfl) h (fun s1 h => ?_)
        refine g_aload_n C 71 0 rfl rfl ?_
        refine g_dup C 72 rfl rfl ?_
        refine g_geti C 73 rfl flX10_240 (hZ.at (i := 65) rfl) rfl ?_
        refine g_iconst (v := 1) C 74 rfl rfl ?_
        refine g_iadd C 75 rfl ?_
        refine g_put C 76 rfl fpX10_240 (hZ.at (i := 65) rfl) rfl rfl rfl h (fun s2 h => ?_)
        refine g_iinc C 77 1 (l1 + 1) [(1, .int (l1 + 1)), (0, .ref (ad 65)), (3, .int l3)] rfl rfl (by decide) rfl rfl ?_
        refine g_aload_n C 78 1 rfl rfl ?_
        refine g_getr (b := 78) C 79 rfl flX10_47 (hZ.at (i := 65) rfl) rfl ?_
        refine g_iload_n C 80 0 rfl rfl ?_
        refine g_iconst (v := 0) C 81 rfl rfl ?_
        refine g_zast C 82 rfl (hZ.at (i := 78) rfl) h (fun s3 h => ?_)
        refine g_aload_n C 83 1 rfl rfl ?_
        refine g_callVv C 84 [] [] rfl (M_X10_go hZ) cnX10_237 cwX10_go ciX10_go (hZ.at (i := 65) rfl) rfl rfl rfl rfl (Nat.le_of_ble_eq_true rfl) ⟨Nat.le_of_ble_eq_true rfl, Nat.le_of_ble_eq_true rfl⟩ h (fun r4 s5 h => ?_)
        refine g_goto C 85 172 rfl rfl ?_
        refine g_aload_n C 94 1 rfl rfl ?_
        refine g_callVi C 95 [] [] rfl (M_X10_notsOpen hZ) cnX10_262 cwX10_notsOpen ciX10_notsOpen (hZ.at (i := 65) rfl) rfl rfl rfl rfl (Nat.le_of_ble_eq_true rfl) ⟨Nat.le_of_ble_eq_true rfl, Nat.le_of_ble_eq_true rfl⟩ h (fun r6 s7 h => ?_)
        refine g_istore_n C 96 [(2, .int r6), (1, .int (l1 + 1)), (0, .ref (ad 65)), (3, .int l3)] rfl (by decide) rfl ?_
        refine g_goto C 97 28 rfl rfl ?_
        refine g_sub C [2, 1, 0, 3] [(0, .ref (ad 65)), (1, .int (l1 + 1)), (2, .int r6), (3, .int l3)] rfl ?_
        exact hk28 _ _ _ _ h
set_option maxRecDepth 20000 in
set_option maxHeartbeats 4000000 in
theorem C_F_X10_takesE_J39 {g : Nat → List (Nat × Value) → List Value → gS → Prop} {Z : List gH} {ad : Nat → Nat} {z : Int32 × gS}  (C : gOk g T_X10_takesE RX10 5 (some .boolean) 4 Z ad z) (hZ : Lay Z) {k28 : Int32 → Int32 → Int32 → gS → Option (Int32 × gS)} (hk28 : ∀ (l1 : Int32) (l2 : Int32) (l3 : Int32) (σ : gS), k28 l1 l2 l3 σ = some z → g 28 [(0, .ref (ad 65)), (1, .int l1), (2, .int l2), (3, .int l3)] [] σ) (l1 : Int32) (l2 : Int32) (l3 : Int32) (σ : gS) (h : F_X10_takesE_J39 Z k28 l1 l2 l3 σ = some z) : g 39 [(0, .ref (ad 65)), (1, .int l1), (2, .int l2), (3, .int l3)] [] σ := by
  rw [F_X10_takesE_J39] at h
  refine g_iload_n C 25 3 rfl rfl ?_
  refine g_if_eq C 26 180 rfl rfl h (fun h => ?_) (fun h => ?_)
  · refine g_aload_n C 98 0 rfl rfl ?_
    refine g_geti C 99 rfl flX10_222 (hZ.at (i := 65) rfl) rfl ?_
    refine g_iconst (v := 3) C 100 rfl rfl ?_
    refine g_icmp_ne C 101 237 rfl rfl h (fun h => ?_) (fun h => ?_)
    · refine g_sub C [0, 1, 2] [(0, .ref (ad 65)), (1, .int l1), (2, .int l2)] rfl ?_
      exact C_F_X10_takesE_J237 C hZ hk28 _ _ _ h
    · refine g_aload_n C 102 0 rfl rfl ?_
      refine g_geti C 103 rfl flX10_228 (hZ.at (i := 65) rfl) rfl ?_
      refine g_bipush (v := 41) C 104 rfl rfl ?_
      refine g_icmp_ne C 105 237 rfl rfl h (fun h => ?_) (fun h => ?_)
      · refine g_sub C [0, 1, 2] [(0, .ref (ad 65)), (1, .int l1), (2, .int l2)] rfl ?_
        exact C_F_X10_takesE_J237 C hZ hk28 _ _ _ h
      · refine g_iload_n C 106 1 rfl rfl ?_
        refine g_if_le C 107 237 rfl rfl h (fun h => ?_) (fun h => ?_)
        · refine g_sub C [0, 1, 2] [(0, .ref (ad 65)), (1, .int l1), (2, .int l2)] rfl ?_
          exact C_F_X10_takesE_J237 C hZ hk28 _ _ _ h
        · refine g_aload_n C 108 0 rfl rfl ?_
          refine g_iconst (v := 0) C 109 rfl rfl ?_
          refine g_callVv C 110 [.int 0] [] rfl (M_X10_settle hZ 0) cnX10_255 cwX10_settle ciX10_settle (hZ.at (i := 65) rfl) rfl rfl rfl rfl (Nat.le_of_ble_eq_true rfl) ⟨Nat.le_of_ble_eq_true rfl, Nat.le_of_ble_eq_true rfl⟩ h (fun r1 s2 h => ?_)
          refine g_aload_n C 111 0 rfl rfl ?_
          refine g_dup C 112 rfl rfl ?_
          refine g_geti C 113 rfl flX10_240 (hZ.at (i := 65) rfl) rfl ?_
          refine g_iconst (v := 1) C 114 rfl rfl ?_
          refine g_isub C 115 rfl ?_
          refine g_put C 116 rfl fpX10_240 (hZ.at (i := 65) rfl) rfl rfl rfl h (fun s3 h => ?_)
          refine g_iinc C 117 1 (l1 + (-1)) [(1, .int (l1 + (-1))), (0, .ref (ad 65)), (2, .int l2), (3, .int l3)] rfl rfl (by decide) rfl rfl ?_
          refine g_aload_n C 118 1 rfl rfl ?_
          refine g_bipush (v := 6) C 119 rfl rfl ?_
          refine g_callVv C 120 [.int 6] [] rfl (M_X10_settle hZ 6) cnX10_255 cwX10_settle ciX10_settle (hZ.at (i := 65) rfl) rfl rfl rfl rfl (Nat.le_of_ble_eq_true rfl) ⟨Nat.le_of_ble_eq_true rfl, Nat.le_of_ble_eq_true rfl⟩ h (fun r4 s5 h => ?_)
          refine g_aload_n C 121 1 rfl rfl ?_
          refine g_callVi C 122 [] [] rfl (M_X10_notsOpen hZ) cnX10_262 cwX10_notsOpen ciX10_notsOpen (hZ.at (i := 65) rfl) rfl rfl rfl rfl (Nat.le_of_ble_eq_true rfl) ⟨Nat.le_of_ble_eq_true rfl, Nat.le_of_ble_eq_true rfl⟩ h (fun r6 s7 h => ?_)
          refine g_istore_n C 123 [(2, .int r6), (1, .int (l1 + (-1))), (0, .ref (ad 65)), (3, .int l3)] rfl (by decide) rfl ?_
          refine g_aload_n C 124 2 rfl rfl ?_
          refine g_callVv C 125 [] [] rfl (M_X10_go hZ) cnX10_237 cwX10_go ciX10_go (hZ.at (i := 65) rfl) rfl rfl rfl rfl (Nat.le_of_ble_eq_true rfl) ⟨Nat.le_of_ble_eq_true rfl, Nat.le_of_ble_eq_true rfl⟩ h (fun r8 s9 h => ?_)
          refine g_goto C 126 28 rfl rfl ?_
          refine g_sub C [2, 1, 0, 3] [(0, .ref (ad 65)), (1, .int (l1 + (-1))), (2, .int r6), (3, .int l3)] rfl ?_
          exact hk28 _ _ _ _ h
  · refine g_aload_n C 27 0 rfl rfl ?_
    refine g_geti C 28 rfl flX10_222 (hZ.at (i := 65) rfl) rfl ?_
    refine g_iconst (v := 3) C 29 rfl rfl ?_
    refine g_icmp_ne C 30 97 rfl rfl h (fun h => ?_) (fun h => ?_)
    · refine g_sub C [0, 1, 3] [(0, .ref (ad 65)), (1, .int l1), (3, .int l3)] rfl ?_
      exact C_F_X10_takesE_J97 C hZ hk28 _ _ _ h
    · refine g_aload_n C 31 0 rfl rfl ?_
      refine g_geti C 32 rfl flX10_228 (hZ.at (i := 65) rfl) rfl ?_
      refine g_bipush (v := 33) C 33 rfl rfl ?_
      refine g_icmp_ne C 34 97 rfl rfl h (fun h => ?_) (fun h => ?_)
      · refine g_sub C [0, 1, 3] [(0, .ref (ad 65)), (1, .int l1), (3, .int l3)] rfl ?_
        exact C_F_X10_takesE_J97 C hZ hk28 _ _ _ h
      · refine g_iload_n C 35 2 rfl rfl ?_
        refine g_bipush (v := 8) C 36 rfl rfl ?_
        refine g_icmp_ge C 37 97 rfl rfl h (fun h => ?_) (fun h => ?_)
        · refine g_sub C [0, 1, 3] [(0, .ref (ad 65)), (1, .int l1), (3, .int l3)] rfl ?_
          exact C_F_X10_takesE_J97 C hZ hk28 _ _ _ h
        · refine g_aload_n C 38 0 rfl rfl ?_
          refine g_getr (b := 77) C 39 rfl flX10_44 (hZ.at (i := 65) rfl) rfl ?_
          refine g_aload_n C 40 0 rfl rfl ?_
          refine g_geti C 41 rfl flX10_240 (hZ.at (i := 65) rfl) rfl ?_
          refine g_bipush (v := (-10)) C 42 rfl rfl ?_
          refine g_iast C 43 rfl (hZ.at (i := 77) rfl) h (fun s10 h => ?_)
          refine g_aload_n C 44 0 rfl rfl ?_
          refine g_dup C 45 rfl rfl ?_
          refine g_geti C 46 rfl flX10_240 (hZ.at (i := 65) rfl) rfl ?_
          refine g_iconst (v := 1) C 47 rfl rfl ?_
          refine g_iadd C 48 rfl ?_
          refine g_put C 49 rfl fpX10_240 (hZ.at (i := 65) rfl) rfl rfl rfl h (fun s11 h => ?_)
          refine g_iinc C 50 2 (l2 + 1) [(2, .int (l2 + 1)), (0, .ref (ad 65)), (1, .int l1), (3, .int l3)] rfl rfl (by decide) rfl rfl ?_
          refine g_aload_n C 51 1 rfl rfl ?_
          refine g_callVv C 52 [] [] rfl (M_X10_go hZ) cnX10_237 cwX10_go ciX10_go (hZ.at (i := 65) rfl) rfl rfl rfl rfl (Nat.le_of_ble_eq_true rfl) ⟨Nat.le_of_ble_eq_true rfl, Nat.le_of_ble_eq_true rfl⟩ h (fun r12 s13 h => ?_)
          refine g_goto C 53 172 rfl rfl ?_
          refine g_aload_n C 94 1 rfl rfl ?_
          refine g_callVi C 95 [] [] rfl (M_X10_notsOpen hZ) cnX10_262 cwX10_notsOpen ciX10_notsOpen (hZ.at (i := 65) rfl) rfl rfl rfl rfl (Nat.le_of_ble_eq_true rfl) ⟨Nat.le_of_ble_eq_true rfl, Nat.le_of_ble_eq_true rfl⟩ h (fun r14 s15 h => ?_)
          refine g_istore_n C 96 [(2, .int r14), (0, .ref (ad 65)), (1, .int l1), (3, .int l3)] rfl (by decide) rfl ?_
          refine g_goto C 97 28 rfl rfl ?_
          refine g_sub C [1, 2, 0, 3] [(0, .ref (ad 65)), (1, .int l1), (2, .int r14), (3, .int l3)] rfl ?_
          exact hk28 _ _ _ _ h
set_option maxRecDepth 20000 in
set_option maxHeartbeats 4000000 in
theorem C_F_X10_takesE_L28 {g : Nat → List (Nat × Value) → List Value → gS → Prop} {Z : List gH} {ad : Nat → Nat} {z : Int32 × gS}  (C : gOk g T_X10_takesE RX10 5 (some .boolean) 4 Z ad z) (hZ : Lay Z) : ∀ (n : Nat) (l1 : Int32) (l2 : Int32) (l3 : Int32) (σ : gS), F_X10_takesE_L28 Z n l1 l2 l3 σ = some z → g 28 [(0, .ref (ad 65)), (1, .int l1), (2, .int l2), (3, .int l3)] [] σ := by
  intro n
  induction n with
  | zero => intro l1 l2 l3 σ h; cases h
  | succ n ih =>
    intro l1 l2 l3 σ h
    rw [F_X10_takesE_L28] at h
    refine g_iload_n C 20 3 rfl rfl ?_
    refine g_if_ne C 21 39 rfl rfl h (fun h => ?_) (fun h => ?_)
    · exact C_F_X10_takesE_J39 C hZ ih _ _ _ _ h
    · refine g_aload_n C 22 0 rfl rfl ?_
      refine g_geti C 23 rfl flX10_222 (hZ.at (i := 65) rfl) rfl ?_
      refine g_if_eq C 24 345 rfl rfl h (fun h => ?_) (fun h => ?_)
      · refine g_aload_n C 184 0 rfl rfl ?_
        refine g_iconst (v := 0) C 185 rfl rfl ?_
        refine g_callVv C 186 [.int 0] [] rfl (M_X10_settle hZ 0) cnX10_255 cwX10_settle ciX10_settle (hZ.at (i := 65) rfl) rfl rfl rfl rfl (Nat.le_of_ble_eq_true rfl) ⟨Nat.le_of_ble_eq_true rfl, Nat.le_of_ble_eq_true rfl⟩ h (fun r1 s2 h => ?_)
        refine g_iload_n C 187 1 rfl rfl ?_
        refine g_if_ne C 188 358 rfl rfl h (fun h => ?_) (fun h => ?_)
        · refine g_iconst (v := 0) C 191 rfl rfl ?_
          exact g_zreturn C 192 rfl h
        · refine g_iconst (v := 1) C 189 rfl rfl ?_
          refine g_goto C 190 359 rfl rfl ?_
          exact g_zreturn C 192 rfl h
      · exact C_F_X10_takesE_J39 C hZ ih _ _ _ _ h
set_option maxRecDepth 20000 in
set_option maxHeartbeats 4000000 in
theorem M_X10_takesE {Z : List gH} (hZ : Lay Z) : gMet yX10_takesE cX10_takesE 5 (some .boolean) 4 Z (fun ad => [.ref (ad 65)]) (F_X10_takesE Z) := by
  refine gMet_intro T_X10_takesE T_X10_takesE_ok rfl (fun _ => Nat.le_of_ble_eq_true rfl) (fun g ad σ z C h => ?_)
  show g 0 [(0, .ref (ad 65))] [] σ
  rw [F_X10_takesE] at h
  refine g_iconst (v := 0) C 0 rfl rfl ?_
  refine g_istore_n C 1 [(1, .int 0), (0, .ref (ad 65))] rfl (by decide) rfl ?_
  refine g_iconst (v := 0) C 2 rfl rfl ?_
  refine g_istore_n C 3 [(2, .int 0), (1, .int 0), (0, .ref (ad 65))] rfl (by decide) rfl ?_
  refine g_iconst (v := 1) C 4 rfl rfl ?_
  refine g_istore_n C 5 [(3, .int 1), (2, .int 0), (1, .int 0), (0, .ref (ad 65))] rfl (by decide) rfl ?_
  refine g_aload_n C 6 3 rfl rfl ?_
  refine g_iconst (v := 0) C 7 rfl rfl ?_
  refine g_put C 8 rfl fpX10_246 (hZ.at (i := 65) rfl) rfl rfl rfl h (fun s1 h => ?_)
  refine g_aload_n C 9 3 rfl rfl ?_
  refine g_iconst (v := 0) C 10 rfl rfl ?_
  refine g_put C 11 rfl fpX10_252 (hZ.at (i := 65) rfl) rfl rfl rfl h (fun s2 h => ?_)
  refine g_aload_n C 12 3 rfl rfl ?_
  refine g_iconst (v := 0) C 13 rfl rfl ?_
  refine g_put C 14 rfl fpX10_240 (hZ.at (i := 65) rfl) rfl rfl rfl h (fun s3 h => ?_)
  refine g_aload_n C 15 3 rfl rfl ?_
  refine g_getr (b := 78) C 16 rfl flX10_47 (hZ.at (i := 65) rfl) rfl ?_
  refine g_iconst (v := 0) C 17 rfl rfl ?_
  refine g_iconst (v := 0) C 18 rfl rfl ?_
  refine g_zastK C 19 0 rfl (hZ.at (i := 78) rfl) rfl (vp_k rfl) h (fun s4 h => ?_)
  refine g_sub C [3, 2, 1, 0] [(0, .ref (ad 65)), (1, .int 0), (2, .int 0), (3, .int 1)] rfl ?_
  exact C_F_X10_takesE_L28 C hZ _ _ _ _ _ h
def T_X10_takesKey : List (Nat × Instr × Nat) := [(0, .aload_n 0, 1), (1, .getfield 222, 3), (4, .iconst 1, 1), (5, .if_icmp .eq 5, 3), (8, .iconst 0, 1), (9, .ireturn, 1), (10, .iconst 0, 1), (11, .istore_n 1, 1), (12, .iload_n 1, 1), (13, .iconst 3, 1), (14, .if_icmp .ge 113, 3), (17, .aload_n 0, 1), (18, .getfield 38, 3), (21, .iload_n 1, 1), (22, .iconst 1, 1), (23, .iadd, 1), (24, .iaload, 1), (25, .aload_n 0, 1), (26, .getfield 38, 3), (29, .iload_n 1, 1), (30, .iaload, 1), (31, .isub, 1), (32, .istore_n 2, 1), (33, .iload_n 2, 1), (34, .aload_n 0, 1), (35, .getfield 213, 3), (38, .aload_n 0, 1), (39, .getfield 216, 3), (42, .isub, 1), (43, .if_icmp .ne 7, 3), (46, .iconst 1, 1), (47, .goto 4, 3), (50, .iconst 0, 1), (51, .istore_n 3, 1), (52, .iconst 0, 1), (53, .istore 4, 2), (55, .iload 4, 2), (57, .iload_n 2, 1), (58, .if_icmp .ge 48, 3), (61, .iload_n 3, 1), (62, .ifCond .eq 44, 3), (65, .aload_n 0, 1), (66, .getfield 31, 3), (69, .aload_n 0, 1), (70, .getfield 216, 3), (73, .iload 4, 2), (75, .iadd, 1), (76, .iaload, 1), (77, .aload_n 0, 1), (78, .getfield 34, 3), (81, .aload_n 0, 1), (82, .getfield 38, 3), (85, .iload_n 1, 1), (86, .iaload, 1), (87, .iload 4, 2), (89, .iadd, 1), (90, .caload, 1), (91, .if_icmp .ne 7, 3), (94, .iconst 1, 1), (95, .goto 4, 3), (98, .iconst 0, 1), (99, .istore_n 3, 1), (100, .iinc 4 1, 3), (103, .goto (-48), 3), (106, .iload_n 3, 1), (107, .ifCond .eq 14, 3), (110, .aload_n 0, 1), (111, .iload_n 1, 1), (112, .putfield 234, 3), (115, .aload_n 0, 1), (116, .invokevirtual 237, 3), (119, .iconst 1, 1), (120, .ireturn, 1), (121, .iinc 1 1, 3), (124, .goto (-112), 3), (127, .iconst 0, 1), (128, .ireturn, 1)]
theorem T_X10_takesKey_ok : gTb cX10_takesKey T_X10_takesKey = true := by decide +kernel
def F_X10_takesKey_L55 (Z : List gH) (k12 : Int32 → gS → Option (Int32 × gS)) : Nat → Int32 → Int32 → Int32 → Int32 → gS → Option (Int32 × gS)
  | 0, _, _, _, _, _ => none
  | n + 1, l1, l2, l3, l4, σ => if l2 ≤ l4 then if l3 = 0 then k12 (l1 + 1) σ else mLet (gu σ 65 16 l1) (fun s1 => mCall (F_X10_go Z s1) (fun r2 s3 => mZ 1 s3)) else if l3 = 0 then if l3 = 0 then k12 (l1 + 1) σ else mLet (gu σ 65 16 l1) (fun s4 => mCall (F_X10_go Z s4) (fun r5 s6 => mZ 1 s6)) else mIn 96 ((σ 65 12) + l4) (mIn 4 l1 (mIn 11 ((σ 75 (nn l1)) + l4) (if (σ 73 (nn ((σ 65 12) + l4))) = (σ 74 (nn ((σ 75 (nn l1)) + l4))) then F_X10_takesKey_L55 Z k12 n l1 l2 1 (l4 + 1) σ else F_X10_takesKey_L55 Z k12 n l1 l2 0 (l4 + 1) σ)))
def F_X10_takesKey_L12 (Z : List gH) : Nat → Int32 → gS → Option (Int32 × gS)
  | 0, _, _ => none
  | n + 1, l1, σ => if 3 ≤ l1 then mZ 0 σ else mIn 4 (l1 + 1) (mIn 4 l1 (mLet (((σ 75 (nn (l1 + 1))) - (σ 75 (nn l1)))) (fun v1 => if v1 = ((σ 65 11) - (σ 65 12)) then F_X10_takesKey_L55 Z (F_X10_takesKey_L12 Z n) mFuel l1 v1 1 0 σ else F_X10_takesKey_L55 Z (F_X10_takesKey_L12 Z n) mFuel l1 v1 0 0 σ)))
def F_X10_takesKey (Z : List gH) (σ : gS) : Option (Int32 × gS) := if (σ 65 13) = 1 then F_X10_takesKey_L12 Z mFuel 0 σ else mZ 0 σ
set_option maxRecDepth 20000 in
set_option maxHeartbeats 4000000 in
theorem C_F_X10_takesKey_L55 {g : Nat → List (Nat × Value) → List Value → gS → Prop} {Z : List gH} {ad : Nat → Nat} {z : Int32 × gS}  (C : gOk g T_X10_takesKey RX10 5 (some .boolean) 3 Z ad z) (hZ : Lay Z) {k12 : Int32 → gS → Option (Int32 × gS)} (hk12 : ∀ (l1 : Int32) (σ : gS), k12 l1 σ = some z → g 12 [(0, .ref (ad 65)), (1, .int l1)] [] σ) : ∀ (n : Nat) (l1 : Int32) (l2 : Int32) (l3 : Int32) (l4 : Int32) (σ : gS), F_X10_takesKey_L55 Z k12 n l1 l2 l3 l4 σ = some z → g 55 [(0, .ref (ad 65)), (1, .int l1), (2, .int l2), (3, .int l3), (4, .int l4)] [] σ := by
  intro n
  induction n with
  | zero => intro l1 l2 l3 l4 σ h; cases h
  | succ n ih =>
    intro l1 l2 l3 l4 σ h
    rw [F_X10_takesKey_L55] at h
    refine g_iload C 36 4 rfl rfl ?_
    refine g_iload_n C 37 2 rfl rfl ?_
    refine g_icmp_ge C 38 106 rfl rfl h (fun h => ?_) (fun h => ?_)
    · refine g_iload_n C 64 3 rfl rfl ?_
      refine g_if_eq C 65 121 rfl rfl h (fun h => ?_) (fun h => ?_)
      · refine g_iinc C 73 1 (l1 + 1) [(1, .int (l1 + 1)), (0, .ref (ad 65)), (2, .int l2), (3, .int l3), (4, .int l4)] rfl rfl (by decide) rfl rfl ?_
        refine g_goto C 74 12 rfl rfl ?_
        refine g_sub C [1, 0] [(0, .ref (ad 65)), (1, .int (l1 + 1))] rfl ?_
        exact hk12 _ _ h
      · refine g_aload_n C 66 0 rfl rfl ?_
        refine g_iload_n C 67 1 rfl rfl ?_
        refine g_put C 68 rfl fpX10_234 (hZ.at (i := 65) rfl) rfl rfl rfl h (fun s1 h => ?_)
        refine g_aload_n C 69 0 rfl rfl ?_
        refine g_callVv C 70 [] [] rfl (M_X10_go hZ) cnX10_237 cwX10_go ciX10_go (hZ.at (i := 65) rfl) rfl rfl rfl rfl (Nat.le_of_ble_eq_true rfl) ⟨Nat.le_of_ble_eq_true rfl, Nat.le_of_ble_eq_true rfl⟩ h (fun r2 s3 h => ?_)
        refine g_iconst (v := 1) C 71 rfl rfl ?_
        exact g_zreturn C 72 rfl h
    · refine g_iload_n C 39 3 rfl rfl ?_
      refine g_if_eq C 40 106 rfl rfl h (fun h => ?_) (fun h => ?_)
      · refine g_iload_n C 64 3 rfl rfl ?_
        refine g_if_eq C 65 121 rfl rfl h (fun h => ?_) (fun h => ?_)
        · refine g_iinc C 73 1 (l1 + 1) [(1, .int (l1 + 1)), (0, .ref (ad 65)), (2, .int l2), (3, .int l3), (4, .int l4)] rfl rfl (by decide) rfl rfl ?_
          refine g_goto C 74 12 rfl rfl ?_
          refine g_sub C [1, 0] [(0, .ref (ad 65)), (1, .int (l1 + 1))] rfl ?_
          exact hk12 _ _ h
        · refine g_aload_n C 66 0 rfl rfl ?_
          refine g_iload_n C 67 1 rfl rfl ?_
          refine g_put C 68 rfl fpX10_234 (hZ.at (i := 65) rfl) rfl rfl rfl h (fun s4 h => ?_)
          refine g_aload_n C 69 0 rfl rfl ?_
          refine g_callVv C 70 [] [] rfl (M_X10_go hZ) cnX10_237 cwX10_go ciX10_go (hZ.at (i := 65) rfl) rfl rfl rfl rfl (Nat.le_of_ble_eq_true rfl) ⟨Nat.le_of_ble_eq_true rfl, Nat.le_of_ble_eq_true rfl⟩ h (fun r5 s6 h => ?_)
          refine g_iconst (v := 1) C 71 rfl rfl ?_
          exact g_zreturn C 72 rfl h
      · refine g_aload_n C 41 0 rfl rfl ?_
        refine g_getr (b := 73) C 42 rfl flX10_31 (hZ.at (i := 65) rfl) rfl ?_
        refine g_aload_n C 43 0 rfl rfl ?_
        refine g_geti C 44 rfl flX10_216 (hZ.at (i := 65) rfl) rfl ?_
        refine g_iload C 45 4 rfl rfl ?_
        refine g_iadd C 46 rfl ?_
        refine g_iald C 47 rfl (hZ.at (i := 73) rfl) h (fun h => ?_)
        refine g_aload_n C 48 0 rfl rfl ?_
        refine g_getr (b := 74) C 49 rfl flX10_34 (hZ.at (i := 65) rfl) rfl ?_
        refine g_aload_n C 50 0 rfl rfl ?_
        refine g_getr (b := 75) C 51 rfl flX10_38 (hZ.at (i := 65) rfl) rfl ?_
        refine g_iload_n C 52 1 rfl rfl ?_
        refine g_iald C 53 rfl (hZ.at (i := 75) rfl) h (fun h => ?_)
        refine g_iload C 54 4 rfl rfl ?_
        refine g_iadd C 55 rfl ?_
        refine g_cald C 56 rfl (hZ.at (i := 74) rfl) h (fun h => ?_)
        refine g_icmp_ne C 57 98 rfl rfl h (fun h => ?_) (fun h => ?_)
        · refine g_iconst (v := 0) C 60 rfl rfl ?_
          refine g_istore_n C 61 [(3, .int 0), (0, .ref (ad 65)), (1, .int l1), (2, .int l2), (4, .int l4)] rfl (by decide) rfl ?_
          refine g_iinc C 62 4 (l4 + 1) [(4, .int (l4 + 1)), (3, .int 0), (0, .ref (ad 65)), (1, .int l1), (2, .int l2)] rfl rfl (by decide) rfl rfl ?_
          refine g_goto C 63 55 rfl rfl ?_
          refine g_sub C [2, 3, 4, 1, 0] [(0, .ref (ad 65)), (1, .int l1), (2, .int l2), (3, .int 0), (4, .int (l4 + 1))] rfl ?_
          exact ih _ _ _ _ _ h
        · refine g_iconst (v := 1) C 58 rfl rfl ?_
          refine g_goto C 59 99 rfl rfl ?_
          refine g_istore_n C 61 [(3, .int 1), (0, .ref (ad 65)), (1, .int l1), (2, .int l2), (4, .int l4)] rfl (by decide) rfl ?_
          refine g_iinc C 62 4 (l4 + 1) [(4, .int (l4 + 1)), (3, .int 1), (0, .ref (ad 65)), (1, .int l1), (2, .int l2)] rfl rfl (by decide) rfl rfl ?_
          refine g_goto C 63 55 rfl rfl ?_
          refine g_sub C [2, 3, 4, 1, 0] [(0, .ref (ad 65)), (1, .int l1), (2, .int l2), (3, .int 1), (4, .int (l4 + 1))] rfl ?_
          exact ih _ _ _ _ _ h
set_option maxRecDepth 20000 in
set_option maxHeartbeats 4000000 in
theorem C_F_X10_takesKey_L12 {g : Nat → List (Nat × Value) → List Value → gS → Prop} {Z : List gH} {ad : Nat → Nat} {z : Int32 × gS}  (C : gOk g T_X10_takesKey RX10 5 (some .boolean) 3 Z ad z) (hZ : Lay Z) : ∀ (n : Nat) (l1 : Int32) (σ : gS), F_X10_takesKey_L12 Z n l1 σ = some z → g 12 [(0, .ref (ad 65)), (1, .int l1)] [] σ := by
  intro n
  induction n with
  | zero => intro l1 σ h; cases h
  | succ n ih =>
    intro l1 σ h
    rw [F_X10_takesKey_L12] at h
    refine g_iload_n C 8 1 rfl rfl ?_
    refine g_iconst (v := 3) C 9 rfl rfl ?_
    refine g_icmp_ge C 10 127 rfl rfl h (fun h => ?_) (fun h => ?_)
    · refine g_iconst (v := 0) C 75 rfl rfl ?_
      exact g_zreturn C 76 rfl h
    · refine g_aload_n C 11 0 rfl rfl ?_
      refine g_getr (b := 75) C 12 rfl flX10_38 (hZ.at (i := 65) rfl) rfl ?_
      refine g_iload_n C 13 1 rfl rfl ?_
      refine g_iconst (v := 1) C 14 rfl rfl ?_
      refine g_iadd C 15 rfl ?_
      refine g_iald C 16 rfl (hZ.at (i := 75) rfl) h (fun h => ?_)
      refine g_aload_n C 17 0 rfl rfl ?_
      refine g_getr (b := 75) C 18 rfl flX10_38 (hZ.at (i := 65) rfl) rfl ?_
      refine g_iload_n C 19 1 rfl rfl ?_
      refine g_iald C 20 rfl (hZ.at (i := 75) rfl) h (fun h => ?_)
      refine g_isub C 21 rfl ?_
      refine g_let h (fun v1 h => ?_)
      refine g_istore_n C 22 [(2, .int v1), (0, .ref (ad 65)), (1, .int l1)] rfl (by decide) rfl ?_
      refine g_iload_n C 23 0 rfl rfl ?_
      refine g_aload_n C 24 1 rfl rfl ?_
      refine g_geti C 25 rfl flX10_213 (hZ.at (i := 65) rfl) rfl ?_
      refine g_aload_n C 26 1 rfl rfl ?_
      refine g_geti C 27 rfl flX10_216 (hZ.at (i := 65) rfl) rfl ?_
      refine g_isub C 28 rfl ?_
      refine g_icmp_ne C 29 50 rfl rfl h (fun h => ?_) (fun h => ?_)
      · refine g_iconst (v := 0) C 32 rfl rfl ?_
        refine g_istore_n C 33 [(3, .int 0), (2, .int v1), (0, .ref (ad 65)), (1, .int l1)] rfl (by decide) rfl ?_
        refine g_iconst (v := 0) C 34 rfl rfl ?_
        refine g_istore C 35 [(4, .int 0), (3, .int 0), (2, .int v1), (0, .ref (ad 65)), (1, .int l1)] rfl (by decide) rfl ?_
        refine g_sub C [3, 4, 2, 1, 0] [(0, .ref (ad 65)), (1, .int l1), (2, .int v1), (3, .int 0), (4, .int 0)] rfl ?_
        exact C_F_X10_takesKey_L55 C hZ ih _ _ _ _ _ _ h
      · refine g_iconst (v := 1) C 30 rfl rfl ?_
        refine g_goto C 31 51 rfl rfl ?_
        refine g_istore_n C 33 [(3, .int 1), (2, .int v1), (0, .ref (ad 65)), (1, .int l1)] rfl (by decide) rfl ?_
        refine g_iconst (v := 0) C 34 rfl rfl ?_
        refine g_istore C 35 [(4, .int 0), (3, .int 1), (2, .int v1), (0, .ref (ad 65)), (1, .int l1)] rfl (by decide) rfl ?_
        refine g_sub C [3, 4, 2, 1, 0] [(0, .ref (ad 65)), (1, .int l1), (2, .int v1), (3, .int 1), (4, .int 0)] rfl ?_
        exact C_F_X10_takesKey_L55 C hZ ih _ _ _ _ _ _ h
set_option maxRecDepth 20000 in
set_option maxHeartbeats 4000000 in
theorem M_X10_takesKey {Z : List gH} (hZ : Lay Z) : gMet yX10_takesKey cX10_takesKey 5 (some .boolean) 3 Z (fun ad => [.ref (ad 65)]) (F_X10_takesKey Z) := by
  refine gMet_intro T_X10_takesKey T_X10_takesKey_ok rfl (fun _ => Nat.le_of_ble_eq_true rfl) (fun g ad σ z C h => ?_)
  show g 0 [(0, .ref (ad 65))] [] σ
  rw [F_X10_takesKey] at h
  refine g_aload_n C 0 0 rfl rfl ?_
  refine g_geti C 1 rfl flX10_222 (hZ.at (i := 65) rfl) rfl ?_
  refine g_iconst (v := 1) C 2 rfl rfl ?_
  refine g_icmp_eq C 3 10 rfl rfl h (fun h => ?_) (fun h => ?_)
  · refine g_iconst (v := 0) C 6 rfl rfl ?_
    refine g_istore_n C 7 [(1, .int 0), (0, .ref (ad 65))] rfl (by decide) rfl ?_
    refine g_sub C [1, 0] [(0, .ref (ad 65)), (1, .int 0)] rfl ?_
    exact C_F_X10_takesKey_L12 C hZ _ _ _ h
  · refine g_iconst (v := 0) C 4 rfl rfl ?_
    exact g_zreturn C 5 rfl h
def T_X10_text : List (Nat × Instr × Nat) := [(0, .aload_n 0, 1), (1, .iconst 0, 1), (2, .putfield 213, 3), (5, .aload_n 0, 1), (6, .iconst (-1), 1), (7, .putfield 219, 3), (10, .aload_n 0, 1), (11, .invokevirtual 237, 3), (14, .aload_n 0, 1), (15, .invokevirtual 268, 3), (18, .ifCond .eq 14, 3), (21, .aload_n 0, 1), (22, .invokevirtual 271, 3), (25, .ifCond .eq 7, 3), (28, .iconst 1, 1), (29, .goto 4, 3), (32, .iconst 0, 1), (33, .istore_n 1, 1), (34, .aload_n 0, 1), (35, .iconst 0, 1), (36, .putfield 210, 3), (39, .iload_n 1, 1), (40, .ifCond .ne 11, 3), (43, .bipush (-100), 2), (45, .aload_n 0, 1), (46, .getfield 216, 3), (49, .isub, 1), (50, .ireturn, 1), (51, .aload_n 0, 1), (52, .getfield 9, 3), (55, .bipush 9, 2), (57, .iaload, 1), (58, .bipush 14, 2), (60, .if_icmp .ne 6, 3), (63, .ldc 116, 2), (65, .ireturn, 1), (66, .aload_n 0, 1), (67, .getfield 9, 3), (70, .bipush 9, 2), (72, .iaload, 1), (73, .istore_n 2, 1), (74, .aload_n 0, 1), (75, .getfield 9, 3), (78, .sipush 136, 3), (81, .iconst 2, 1), (82, .iload_n 2, 1), (83, .imul, 1), (84, .iadd, 1), (85, .sipush 1000, 3), (88, .aload_n 0, 1), (89, .getfield 234, 3), (92, .imul, 1), (93, .aload_n 0, 1), (94, .getfield 246, 3), (97, .iadd, 1), (98, .iastore, 1), (99, .aload_n 0, 1), (100, .getfield 9, 3), (103, .sipush 136, 3), (106, .iconst 2, 1), (107, .iload_n 2, 1), (108, .imul, 1), (109, .iadd, 1), (110, .iconst 1, 1), (111, .iadd, 1), (112, .aload_n 0, 1), (113, .getfield 252, 3), (116, .iastore, 1), (117, .iconst 0, 1), (118, .istore_n 3, 1), (119, .iload_n 3, 1), (120, .aload_n 0, 1), (121, .getfield 246, 3), (124, .if_icmp .ge 30, 3), (127, .aload_n 0, 1), (128, .getfield 9, 3), (131, .sipush 164, 3), (134, .bipush 96, 2), (136, .iload_n 2, 1), (137, .imul, 1), (138, .iadd, 1), (139, .iload_n 3, 1), (140, .iadd, 1), (141, .aload_n 0, 1), (142, .getfield 41, 3), (145, .iload_n 3, 1), (146, .iaload, 1), (147, .iastore, 1), (148, .iinc 3 1, 3), (151, .goto (-32), 3), (154, .aload_n 0, 1), (155, .getfield 9, 3), (158, .bipush 9, 2), (160, .dup2, 1), (161, .iaload, 1), (162, .iconst 1, 1), (163, .iadd, 1), (164, .iastore, 1), (165, .iload_n 2, 1), (166, .ireturn, 1)]
theorem T_X10_text_ok : gTb cX10_text T_X10_text = true := by decide +kernel
def F_X10_text_L119 (Z : List gH) : Nat → Int32 → Int32 → gS → Option (Int32 × gS)
  | 0, _, _, _ => none
  | n + 1, l2, l3, σ => if (σ 65 20) ≤ l3 then mLet (gu σ 66 9 ((σ 66 9) + 1)) (fun s1 => some (l2, s1)) else mIn 96 l3 (mIn 1508 ((164 + (96 * l2)) + l3) (mLet (gu σ 66 (nn ((164 + (96 * l2)) + l3)) (σ 76 (nn l3))) (fun s2 => F_X10_text_L119 Z n l2 (l3 + 1) s2)))
def F_X10_text_J33 (Z : List gH) (t0 : Int32) (σ : gS) : Option (Int32 × gS) := mLet (gu σ 65 10 0) (fun s1 => if t0 = 0 then some (((-100) - (s1 65 12)), s1) else if (s1 66 9) = 14 then some ((-1000000003), s1) else mLet ((s1 66 9)) (fun v2 => mIn 1508 (136 + (2 * v2)) (mLet (gu s1 66 (nn (136 + (2 * v2))) ((1000 * (s1 65 16)) + (s1 65 20))) (fun s3 => mIn 1508 ((136 + (2 * v2)) + 1) (mLet (gu s3 66 (nn ((136 + (2 * v2)) + 1)) (s3 65 21)) (fun s4 => F_X10_text_L119 Z mFuel v2 0 s4))))))
def F_X10_text (Z : List gH) (σ : gS) : Option (Int32 × gS) := mLet (gu σ 65 11 0) (fun s1 => mLet (gu s1 65 15 (-1)) (fun s2 => mCall (F_X10_go Z s2) (fun r3 s4 => mCall (F_X10_takesKey Z s4) (fun r5 s6 => if r5 = 0 then F_X10_text_J33 Z 0 s6 else mCall (F_X10_takesE Z s6) (fun r7 s8 => if r7 = 0 then F_X10_text_J33 Z 0 s8 else F_X10_text_J33 Z 1 s8)))))
set_option maxRecDepth 20000 in
set_option maxHeartbeats 4000000 in
theorem C_F_X10_text_L119 {g : Nat → List (Nat × Value) → List Value → gS → Prop} {Z : List gH} {ad : Nat → Nat} {z : Int32 × gS}  (C : gOk g T_X10_text RX10 4 (some .int) 5 Z ad z) (hZ : Lay Z) : ∀ (n : Nat) (l2 : Int32) (l3 : Int32) (σ : gS), F_X10_text_L119 Z n l2 l3 σ = some z → g 119 [(0, .ref (ad 65)), (2, .int l2), (3, .int l3)] [] σ := by
  intro n
  induction n with
  | zero => intro l2 l3 σ h; cases h
  | succ n ih =>
    intro l2 l3 σ h
    rw [F_X10_text_L119] at h
    refine g_iload_n C 70 2 rfl rfl ?_
    refine g_aload_n C 71 0 rfl rfl ?_
    refine g_geti C 72 rfl flX10_246 (hZ.at (i := 65) rfl) rfl ?_
    refine g_icmp_ge C 73 154 rfl rfl h (fun h => ?_) (fun h => ?_)
    · refine g_aload_n C 90 0 rfl rfl ?_
      refine g_getr (b := 66) C 91 rfl flX10_9 (hZ.at (i := 65) rfl) rfl ?_
      refine g_bipush (v := 9) C 92 rfl rfl ?_
      refine g_dup2 C 93 rfl rfl rfl ?_
      refine g_ialdK C 94 9 rfl (hZ.at (i := 66) rfl) rfl (vp_k rfl) ?_
      refine g_iconst (v := 1) C 95 rfl rfl ?_
      refine g_iadd C 96 rfl ?_
      refine g_iastK C 97 9 rfl (hZ.at (i := 66) rfl) rfl (vp_k rfl) h (fun s1 h => ?_)
      refine g_iload_n C 98 1 rfl rfl ?_
      exact g_ireturn C 99 rfl h
    · refine g_aload_n C 74 0 rfl rfl ?_
      refine g_getr (b := 66) C 75 rfl flX10_9 (hZ.at (i := 65) rfl) rfl ?_
      refine g_sipush (v := 164) C 76 rfl rfl ?_
      refine g_bipush (v := 96) C 77 rfl rfl ?_
      refine g_iload_n C 78 1 rfl rfl ?_
      refine g_imul C 79 rfl ?_
      refine g_iadd C 80 rfl ?_
      refine g_iload_n C 81 2 rfl rfl ?_
      refine g_iadd C 82 rfl ?_
      refine g_aload_n C 83 0 rfl rfl ?_
      refine g_getr (b := 76) C 84 rfl flX10_41 (hZ.at (i := 65) rfl) rfl ?_
      refine g_iload_n C 85 2 rfl rfl ?_
      refine g_iald C 86 rfl (hZ.at (i := 76) rfl) h (fun h => ?_)
      refine g_iast C 87 rfl (hZ.at (i := 66) rfl) h (fun s2 h => ?_)
      refine g_iinc C 88 2 (l3 + 1) [(3, .int (l3 + 1)), (0, .ref (ad 65)), (2, .int l2)] rfl rfl (by decide) rfl rfl ?_
      refine g_goto C 89 119 rfl rfl ?_
      refine g_sub C [1, 2, 0] [(0, .ref (ad 65)), (2, .int l2), (3, .int (l3 + 1))] rfl ?_
      exact ih _ _ _ h
set_option maxRecDepth 20000 in
set_option maxHeartbeats 4000000 in
theorem C_F_X10_text_J33 {g : Nat → List (Nat × Value) → List Value → gS → Prop} {Z : List gH} {ad : Nat → Nat} {z : Int32 × gS}  (C : gOk g T_X10_text RX10 4 (some .int) 5 Z ad z) (hZ : Lay Z) (t0 : Int32) (σ : gS) (h : F_X10_text_J33 Z t0 σ = some z) : g 33 [(0, .ref (ad 65))] [.int t0] σ := by
  rw [F_X10_text_J33] at h
  refine g_istore_n C 17 [(1, .int t0), (0, .ref (ad 65))] rfl (by decide) rfl ?_
  refine g_aload_n C 18 1 rfl rfl ?_
  refine g_iconst (v := 0) C 19 rfl rfl ?_
  refine g_put C 20 rfl fpX10_210 (hZ.at (i := 65) rfl) rfl rfl rfl h (fun s1 h => ?_)
  refine g_iload_n C 21 0 rfl rfl ?_
  refine g_if_ne C 22 51 rfl rfl h (fun h => ?_) (fun h => ?_)
  · refine g_aload_n C 28 1 rfl rfl ?_
    refine g_getr (b := 66) C 29 rfl flX10_9 (hZ.at (i := 65) rfl) rfl ?_
    refine g_bipush (v := 9) C 30 rfl rfl ?_
    refine g_ialdK C 31 9 rfl (hZ.at (i := 66) rfl) rfl (vp_k rfl) ?_
    refine g_bipush (v := 14) C 32 rfl rfl ?_
    refine g_icmp_ne C 33 66 rfl rfl h (fun h => ?_) (fun h => ?_)
    · refine g_aload_n C 36 1 rfl rfl ?_
      refine g_getr (b := 66) C 37 rfl flX10_9 (hZ.at (i := 65) rfl) rfl ?_
      refine g_bipush (v := 9) C 38 rfl rfl ?_
      refine g_ialdK C 39 9 rfl (hZ.at (i := 66) rfl) rfl (vp_k rfl) ?_
      refine g_let h (fun v2 h => ?_)
      refine g_istore_n C 40 [(2, .int v2), (1, .int t0), (0, .ref (ad 65))] rfl (by decide) rfl ?_
      refine g_aload_n C 41 2 rfl rfl ?_
      refine g_getr (b := 66) C 42 rfl flX10_9 (hZ.at (i := 65) rfl) rfl ?_
      refine g_sipush (v := 136) C 43 rfl rfl ?_
      refine g_iconst (v := 2) C 44 rfl rfl ?_
      refine g_iload_n C 45 0 rfl rfl ?_
      refine g_imul C 46 rfl ?_
      refine g_iadd C 47 rfl ?_
      refine g_sipush (v := 1000) C 48 rfl rfl ?_
      refine g_aload_n C 49 2 rfl rfl ?_
      refine g_geti C 50 rfl flX10_234 (hZ.at (i := 65) rfl) rfl ?_
      refine g_imul C 51 rfl ?_
      refine g_aload_n C 52 2 rfl rfl ?_
      refine g_geti C 53 rfl flX10_246 (hZ.at (i := 65) rfl) rfl ?_
      refine g_iadd C 54 rfl ?_
      refine g_iast C 55 rfl (hZ.at (i := 66) rfl) h (fun s3 h => ?_)
      refine g_aload_n C 56 2 rfl rfl ?_
      refine g_getr (b := 66) C 57 rfl flX10_9 (hZ.at (i := 65) rfl) rfl ?_
      refine g_sipush (v := 136) C 58 rfl rfl ?_
      refine g_iconst (v := 2) C 59 rfl rfl ?_
      refine g_iload_n C 60 0 rfl rfl ?_
      refine g_imul C 61 rfl ?_
      refine g_iadd C 62 rfl ?_
      refine g_iconst (v := 1) C 63 rfl rfl ?_
      refine g_iadd C 64 rfl ?_
      refine g_aload_n C 65 2 rfl rfl ?_
      refine g_geti C 66 rfl flX10_252 (hZ.at (i := 65) rfl) rfl ?_
      refine g_iast C 67 rfl (hZ.at (i := 66) rfl) h (fun s4 h => ?_)
      refine g_iconst (v := 0) C 68 rfl rfl ?_
      refine g_istore_n C 69 [(3, .int 0), (2, .int v2), (1, .int t0), (0, .ref (ad 65))] rfl (by decide) rfl ?_
      refine g_sub C [3, 1, 0] [(0, .ref (ad 65)), (2, .int v2), (3, .int 0)] rfl ?_
      exact C_F_X10_text_L119 C hZ _ _ _ _ h
    · refine g_ldc C 34 rfl kcX10_116 ?_
      exact g_ireturn C 35 rfl h
  · refine g_bipush (v := (-100)) C 23 rfl rfl ?_
    refine g_aload_n C 24 1 rfl rfl ?_
    refine g_geti C 25 rfl flX10_216 (hZ.at (i := 65) rfl) rfl ?_
    refine g_isub C 26 rfl ?_
    exact g_ireturn C 27 rfl h
set_option maxRecDepth 20000 in
set_option maxHeartbeats 4000000 in
theorem M_X10_text {Z : List gH} (hZ : Lay Z) : gMet yX10_text cX10_text 4 (some .int) 5 Z (fun ad => [.ref (ad 65)]) (F_X10_text Z) := by
  refine gMet_intro T_X10_text T_X10_text_ok rfl (fun _ => Nat.le_of_ble_eq_true rfl) (fun g ad σ z C h => ?_)
  show g 0 [(0, .ref (ad 65))] [] σ
  rw [F_X10_text] at h
  refine g_aload_n C 0 0 rfl rfl ?_
  refine g_iconst (v := 0) C 1 rfl rfl ?_
  refine g_put C 2 rfl fpX10_213 (hZ.at (i := 65) rfl) rfl rfl rfl h (fun s1 h => ?_)
  refine g_aload_n C 3 0 rfl rfl ?_
  refine g_iconst (v := (-1)) C 4 rfl rfl ?_
  refine g_put C 5 rfl fpX10_219 (hZ.at (i := 65) rfl) rfl rfl rfl h (fun s2 h => ?_)
  refine g_aload_n C 6 0 rfl rfl ?_
  refine g_callVv C 7 [] [] rfl (M_X10_go hZ) cnX10_237 cwX10_go ciX10_go (hZ.at (i := 65) rfl) rfl rfl rfl rfl (Nat.le_of_ble_eq_true rfl) ⟨Nat.le_of_ble_eq_true rfl, Nat.le_of_ble_eq_true rfl⟩ h (fun r3 s4 h => ?_)
  refine g_aload_n C 8 0 rfl rfl ?_
  refine g_callVi C 9 [] [] rfl (M_X10_takesKey hZ) cnX10_268 cwX10_takesKey ciX10_takesKey (hZ.at (i := 65) rfl) rfl rfl rfl rfl (Nat.le_of_ble_eq_true rfl) ⟨Nat.le_of_ble_eq_true rfl, Nat.le_of_ble_eq_true rfl⟩ h (fun r5 s6 h => ?_)
  refine g_if_eq C 10 32 rfl rfl h (fun h => ?_) (fun h => ?_)
  · refine g_iconst (v := 0) C 16 rfl rfl ?_
    exact C_F_X10_text_J33 C hZ _ _ h
  · refine g_aload_n C 11 0 rfl rfl ?_
    refine g_callVi C 12 [] [] rfl (M_X10_takesE hZ) cnX10_271 cwX10_takesE ciX10_takesE (hZ.at (i := 65) rfl) rfl rfl rfl rfl (Nat.le_of_ble_eq_true rfl) ⟨Nat.le_of_ble_eq_true rfl, Nat.le_of_ble_eq_true rfl⟩ h (fun r7 s8 h => ?_)
    refine g_if_eq C 13 32 rfl rfl h (fun h => ?_) (fun h => ?_)
    · refine g_iconst (v := 0) C 16 rfl rfl ?_
      exact C_F_X10_text_J33 C hZ _ _ h
    · refine g_iconst (v := 1) C 14 rfl rfl ?_
      refine g_goto C 15 33 rfl rfl ?_
      exact C_F_X10_text_J33 C hZ _ _ h
def T_X10_textTold : List (Nat × Instr × Nat) := [(0, .iload_n 1, 1), (1, .iconst 0, 1), (2, .aload_n 0, 1), (3, .getfield 9, 3), (6, .bipush 9, 2), (8, .iaload, 1), (9, .iconst 1, 1), (10, .isub, 1), (11, .invokestatic 84, 3), (14, .ifCond .eq 12, 3), (17, .iload_n 2, 1), (18, .iconst 0, 1), (19, .iconst 1, 1), (20, .invokestatic 84, 3), (23, .ifCond .ne 6, 3), (26, .ldc 115, 2), (28, .ireturn, 1), (29, .iload_n 2, 1), (30, .ifCond .ne 22, 3), (33, .aload_n 0, 1), (34, .getfield 9, 3), (37, .sipush 136, 3), (40, .iconst 2, 1), (41, .iload_n 1, 1), (42, .imul, 1), (43, .iadd, 1), (44, .iaload, 1), (45, .sipush 1000, 3), (48, .idiv, 1), (49, .goto 17, 3), (52, .aload_n 0, 1), (53, .getfield 9, 3), (56, .sipush 136, 3), (59, .iconst 2, 1), (60, .iload_n 1, 1), (61, .imul, 1), (62, .iadd, 1), (63, .iconst 1, 1), (64, .iadd, 1), (65, .iaload, 1), (66, .ireturn, 1)]
theorem T_X10_textTold_ok : gTb cX10_textTold T_X10_textTold = true := by decide +kernel
def F_X10_textTold (Z : List gH) (l1 : Int32) (l2 : Int32) (σ : gS) : Option (Int32 × gS) := mCall (F_X10_in Z l1 0 ((σ 66 9) - 1) σ) (fun r1 s2 => if r1 = 0 then some ((-1000000001), s2) else mCall (F_X10_in Z l2 0 1 s2) (fun r3 s4 => if r3 = 0 then some ((-1000000001), s4) else if l2 = 0 then mIn 1508 (136 + (2 * l1)) (some (((s4 66 (nn (136 + (2 * l1)))) / 1000), s4)) else mIn 1508 ((136 + (2 * l1)) + 1) (some ((s4 66 (nn ((136 + (2 * l1)) + 1))), s4))))
set_option maxRecDepth 20000 in
set_option maxHeartbeats 4000000 in
theorem M_X10_textTold {Z : List gH} (hZ : Lay Z) (l1 : Int32) (l2 : Int32) : gMet yX10_textTold cX10_textTold 3 (some .int) 2 Z (fun ad => [.ref (ad 65), .int l1, .int l2]) (F_X10_textTold Z l1 l2) := by
  refine gMet_intro T_X10_textTold T_X10_textTold_ok rfl (fun _ => Nat.le_of_ble_eq_true rfl) (fun g ad σ z C h => ?_)
  show g 0 [(0, .ref (ad 65)), (1, .int l1), (2, .int l2)] [] σ
  rw [F_X10_textTold] at h
  refine g_iload_n C 0 1 rfl rfl ?_
  refine g_iconst (v := 0) C 1 rfl rfl ?_
  refine g_aload_n C 2 0 rfl rfl ?_
  refine g_getr (b := 66) C 3 rfl flX10_9 (hZ.at (i := 65) rfl) rfl ?_
  refine g_bipush (v := 9) C 4 rfl rfl ?_
  refine g_ialdK C 5 9 rfl (hZ.at (i := 66) rfl) rfl (vp_k rfl) ?_
  refine g_iconst (v := 1) C 6 rfl rfl ?_
  refine g_isub C 7 rfl ?_
  refine g_callSi C 8 [.int l1, .int 0, .int ((σ 66 9) - 1)] [] rfl (M_X10_in hZ l1 0 ((σ 66 9) - 1)) cnX10_84 cwX10_in csX10_in rfl rfl rfl (Nat.le_of_ble_eq_true rfl) ⟨Nat.le_of_ble_eq_true rfl, Nat.le_of_ble_eq_true rfl⟩ h (fun r1 s2 h => ?_)
  refine g_if_eq C 9 26 rfl rfl h (fun h => ?_) (fun h => ?_)
  · refine g_ldc C 15 rfl kcX10_115 ?_
    exact g_ireturn C 16 rfl h
  · refine g_iload_n C 10 2 rfl rfl ?_
    refine g_iconst (v := 0) C 11 rfl rfl ?_
    refine g_iconst (v := 1) C 12 rfl rfl ?_
    refine g_callSi C 13 [.int l2, .int 0, .int 1] [] rfl (M_X10_in hZ l2 0 1) cnX10_84 cwX10_in csX10_in rfl rfl rfl (Nat.le_of_ble_eq_true rfl) ⟨Nat.le_of_ble_eq_true rfl, Nat.le_of_ble_eq_true rfl⟩ h (fun r3 s4 h => ?_)
    refine g_if_ne C 14 29 rfl rfl h (fun h => ?_) (fun h => ?_)
    · refine g_iload_n C 17 2 rfl rfl ?_
      refine g_if_ne C 18 52 rfl rfl h (fun h => ?_) (fun h => ?_)
      · refine g_aload_n C 30 0 rfl rfl ?_
        refine g_getr (b := 66) C 31 rfl flX10_9 (hZ.at (i := 65) rfl) rfl ?_
        refine g_sipush (v := 136) C 32 rfl rfl ?_
        refine g_iconst (v := 2) C 33 rfl rfl ?_
        refine g_iload_n C 34 1 rfl rfl ?_
        refine g_imul C 35 rfl ?_
        refine g_iadd C 36 rfl ?_
        refine g_iconst (v := 1) C 37 rfl rfl ?_
        refine g_iadd C 38 rfl ?_
        refine g_iald C 39 rfl (hZ.at (i := 66) rfl) h (fun h => ?_)
        exact g_ireturn C 40 rfl h
      · refine g_aload_n C 19 0 rfl rfl ?_
        refine g_getr (b := 66) C 20 rfl flX10_9 (hZ.at (i := 65) rfl) rfl ?_
        refine g_sipush (v := 136) C 21 rfl rfl ?_
        refine g_iconst (v := 2) C 22 rfl rfl ?_
        refine g_iload_n C 23 1 rfl rfl ?_
        refine g_imul C 24 rfl ?_
        refine g_iadd C 25 rfl ?_
        refine g_iald C 26 rfl (hZ.at (i := 66) rfl) h (fun h => ?_)
        refine g_sipush (v := 1000) C 27 rfl rfl ?_
        refine g_idivK C 28 rfl (by decide) ?_
        refine g_goto C 29 66 rfl rfl ?_
        exact g_ireturn C 40 rfl h
    · refine g_ldc C 15 rfl kcX10_115 ?_
      exact g_ireturn C 16 rfl h
def T_X10_why : List (Nat × Instr × Nat) := [(0, .iload_n 1, 1), (1, .iconst 0, 1), (2, .iconst 2, 1), (3, .invokestatic 84, 3), (6, .ifCond .ne 6, 3), (9, .ldc 115, 2), (11, .ireturn, 1), (12, .aload_n 0, 1), (13, .iload_n 1, 1), (14, .invokevirtual 88, 3), (17, .istore_n 2, 1), (18, .iload_n 2, 1), (19, .ifCond .ge 8, 3), (22, .ldc 161, 2), (24, .goto 4, 3), (27, .iload_n 2, 1), (28, .ireturn, 1)]
theorem T_X10_why_ok : gTb cX10_why T_X10_why = true := by decide +kernel
def F_X10_why (Z : List gH) (l1 : Int32) (σ : gS) : Option (Int32 × gS) := mCall (F_X10_in Z l1 0 2 σ) (fun r1 s2 => if r1 = 0 then some ((-1000000001), s2) else mCall (F_X10_counts Z l1 s2) (fun r3 s4 => if 0 ≤ r3 then some (r3, s4) else some ((-1000000005), s4)))
set_option maxRecDepth 20000 in
set_option maxHeartbeats 4000000 in
theorem M_X10_why {Z : List gH} (hZ : Lay Z) (l1 : Int32) : gMet yX10_why cX10_why 3 (some .int) 2 Z (fun ad => [.ref (ad 65), .int l1]) (F_X10_why Z l1) := by
  refine gMet_intro T_X10_why T_X10_why_ok rfl (fun _ => Nat.le_of_ble_eq_true rfl) (fun g ad σ z C h => ?_)
  show g 0 [(0, .ref (ad 65)), (1, .int l1)] [] σ
  rw [F_X10_why] at h
  refine g_iload_n C 0 1 rfl rfl ?_
  refine g_iconst (v := 0) C 1 rfl rfl ?_
  refine g_iconst (v := 2) C 2 rfl rfl ?_
  refine g_callSi C 3 [.int l1, .int 0, .int 2] [] rfl (M_X10_in hZ l1 0 2) cnX10_84 cwX10_in csX10_in rfl rfl rfl (Nat.le_of_ble_eq_true rfl) ⟨Nat.le_of_ble_eq_true rfl, Nat.le_of_ble_eq_true rfl⟩ h (fun r1 s2 h => ?_)
  refine g_if_ne C 4 12 rfl rfl h (fun h => ?_) (fun h => ?_)
  · refine g_aload_n C 7 0 rfl rfl ?_
    refine g_iload_n C 8 1 rfl rfl ?_
    refine g_callVi C 9 [.int l1] [] rfl (M_X10_counts hZ l1) cnX10_88 cwX10_counts ciX10_counts (hZ.at (i := 65) rfl) rfl rfl rfl rfl (Nat.le_of_ble_eq_true rfl) ⟨Nat.le_of_ble_eq_true rfl, Nat.le_of_ble_eq_true rfl⟩ h (fun r3 s4 h => ?_)
    refine g_istore_n C 10 [(2, .int r3), (0, .ref (ad 65)), (1, .int l1)] rfl (by decide) rfl ?_
    refine g_iload_n C 11 0 rfl rfl ?_
    refine g_if_ge C 12 27 rfl rfl h (fun h => ?_) (fun h => ?_)
    · refine g_iload_n C 15 0 rfl rfl ?_
      exact g_ireturn C 16 rfl h
    · refine g_ldc C 13 rfl kcX10_161 ?_
      refine g_goto C 14 28 rfl rfl ?_
      exact g_ireturn C 16 rfl h
  · refine g_ldc C 5 rfl kcX10_115 ?_
    exact g_ireturn C 6 rfl h
def T_X10_sheet : List (Nat × Instr × Nat) := [(0, .iload_n 1, 1), (1, .invokestatic 203, 3), (4, .ifCond .eq 22, 3), (7, .iload_n 2, 1), (8, .iconst (-1), 1), (9, .iconst 1, 1), (10, .invokestatic 84, 3), (13, .ifCond .eq 13, 3), (16, .iload_n 2, 1), (17, .ifCond .lt 12, 3), (20, .iload_n 3, 1), (21, .bipush 24, 2), (23, .if_icmp .le 6, 3), (26, .ldc 115, 2), (28, .ireturn, 1), (29, .iload_n 2, 1), (30, .ifCond .lt 11, 3), (33, .iload_n 3, 1), (34, .ifCond .ge 7, 3), (37, .ldc_w 277, 3), (40, .ireturn, 1), (41, .aload_n 0, 1), (42, .getfield 57, 3), (45, .iload_n 1, 1), (46, .iload_n 2, 1), (47, .iastore, 1), (48, .aload_n 0, 1), (49, .getfield 60, 3), (52, .iload_n 1, 1), (53, .iload_n 2, 1), (54, .ifCond .ge 7, 3), (57, .iconst 0, 1), (58, .goto 4, 3), (61, .iload_n 3, 1), (62, .iastore, 1), (63, .iconst 0, 1), (64, .istore 4, 2), (66, .iload 4, 2), (68, .bipush 24, 2), (70, .if_icmp .ge 22, 3), (73, .aload_n 0, 1), (74, .getfield 63, 3), (77, .bipush 24, 2), (79, .iload_n 1, 1), (80, .imul, 1), (81, .iload 4, 2), (83, .iadd, 1), (84, .iconst 0, 1), (85, .iastore, 1), (86, .iinc 4 1, 3), (89, .goto (-23), 3), (92, .aload_n 0, 1), (93, .getfield 60, 3), (96, .iload_n 1, 1), (97, .iaload, 1), (98, .ireturn, 1)]
theorem T_X10_sheet_ok : gTb cX10_sheet T_X10_sheet = true := by decide +kernel
def F_X10_sheet_L66 (Z : List gH) (l1 : Int32) : Nat → Int32 → gS → Option (Int32 × gS)
  | 0, _, _ => none
  | n + 1, l4, σ => if 24 ≤ l4 then mIn 4 l1 (some ((σ 82 (nn l1)), σ)) else mIn 96 ((24 * l1) + l4) (mLet (gu σ 83 (nn ((24 * l1) + l4)) 0) (fun s1 => F_X10_sheet_L66 Z l1 n (l4 + 1) s1))
def F_X10_sheet_J41 (Z : List gH) (l1 : Int32) (l2 : Int32) (l3 : Int32) (σ : gS) : Option (Int32 × gS) := mIn 4 l1 (mLet (gu σ 81 (nn l1) l2) (fun s1 => if 0 ≤ l2 then mIn 4 l1 (mLet (gu s1 82 (nn l1) l3) (fun s2 => F_X10_sheet_L66 Z l1 mFuel 0 s2)) else mIn 4 l1 (mLet (gu s1 82 (nn l1) 0) (fun s3 => F_X10_sheet_L66 Z l1 mFuel 0 s3))))
def F_X10_sheet (Z : List gH) (l1 : Int32) (l2 : Int32) (l3 : Int32) (σ : gS) : Option (Int32 × gS) := mCall (F_X10_isSheet Z l1 σ) (fun r1 s2 => if r1 = 0 then some ((-1000000001), s2) else mCall (F_X10_in Z l2 (-1) 1 s2) (fun r3 s4 => if r3 = 0 then some ((-1000000001), s4) else if l2 < 0 then if l2 < 0 then F_X10_sheet_J41 Z l1 l2 l3 s4 else if 0 ≤ l3 then F_X10_sheet_J41 Z l1 l2 l3 s4 else some ((-1000000014), s4) else if l3 ≤ 24 then if l2 < 0 then F_X10_sheet_J41 Z l1 l2 l3 s4 else if 0 ≤ l3 then F_X10_sheet_J41 Z l1 l2 l3 s4 else some ((-1000000014), s4) else some ((-1000000001), s4)))
set_option maxRecDepth 20000 in
set_option maxHeartbeats 4000000 in
theorem C_F_X10_sheet_L66 {g : Nat → List (Nat × Value) → List Value → gS → Prop} {Z : List gH} {ad : Nat → Nat} {z : Int32 × gS}  (C : gOk g T_X10_sheet RX10 5 (some .int) 3 Z ad z) (hZ : Lay Z) (l1 : Int32) : ∀ (n : Nat) (l4 : Int32) (σ : gS), F_X10_sheet_L66 Z l1 n l4 σ = some z → g 66 [(0, .ref (ad 65)), (1, .int l1), (4, .int l4)] [] σ := by
  intro n
  induction n with
  | zero => intro l4 σ h; cases h
  | succ n ih =>
    intro l4 σ h
    rw [F_X10_sheet_L66] at h
    refine g_iload C 37 2 rfl rfl ?_
    refine g_bipush (v := 24) C 38 rfl rfl ?_
    refine g_icmp_ge C 39 92 rfl rfl h (fun h => ?_) (fun h => ?_)
    · refine g_aload_n C 51 0 rfl rfl ?_
      refine g_getr (b := 82) C 52 rfl flX10_60 (hZ.at (i := 65) rfl) rfl ?_
      refine g_iload_n C 53 1 rfl rfl ?_
      refine g_iald C 54 rfl (hZ.at (i := 82) rfl) h (fun h => ?_)
      exact g_ireturn C 55 rfl h
    · refine g_aload_n C 40 0 rfl rfl ?_
      refine g_getr (b := 83) C 41 rfl flX10_63 (hZ.at (i := 65) rfl) rfl ?_
      refine g_bipush (v := 24) C 42 rfl rfl ?_
      refine g_iload_n C 43 1 rfl rfl ?_
      refine g_imul C 44 rfl ?_
      refine g_iload C 45 2 rfl rfl ?_
      refine g_iadd C 46 rfl ?_
      refine g_iconst (v := 0) C 47 rfl rfl ?_
      refine g_iast C 48 rfl (hZ.at (i := 83) rfl) h (fun s1 h => ?_)
      refine g_iinc C 49 2 (l4 + 1) [(4, .int (l4 + 1)), (0, .ref (ad 65)), (1, .int l1)] rfl rfl (by decide) rfl rfl ?_
      refine g_goto C 50 66 rfl rfl ?_
      refine g_sub C [1, 2, 0] [(0, .ref (ad 65)), (1, .int l1), (4, .int (l4 + 1))] rfl ?_
      exact ih _ _ h
set_option maxRecDepth 20000 in
set_option maxHeartbeats 4000000 in
theorem C_F_X10_sheet_J41 {g : Nat → List (Nat × Value) → List Value → gS → Prop} {Z : List gH} {ad : Nat → Nat} {z : Int32 × gS}  (C : gOk g T_X10_sheet RX10 5 (some .int) 3 Z ad z) (hZ : Lay Z) (l1 : Int32) (l2 : Int32) (l3 : Int32) (σ : gS) (h : F_X10_sheet_J41 Z l1 l2 l3  σ = some z) : g 41 [(0, .ref (ad 65)), (1, .int l1), (2, .int l2), (3, .int l3)] [] σ := by
  rw [F_X10_sheet_J41] at h
  refine g_aload_n C 21 0 rfl rfl ?_
  refine g_getr (b := 81) C 22 rfl flX10_57 (hZ.at (i := 65) rfl) rfl ?_
  refine g_iload_n C 23 1 rfl rfl ?_
  refine g_iload_n C 24 2 rfl rfl ?_
  refine g_iast C 25 rfl (hZ.at (i := 81) rfl) h (fun s1 h => ?_)
  refine g_aload_n C 26 0 rfl rfl ?_
  refine g_getr (b := 82) C 27 rfl flX10_60 (hZ.at (i := 65) rfl) rfl ?_
  refine g_iload_n C 28 1 rfl rfl ?_
  refine g_iload_n C 29 2 rfl rfl ?_
  refine g_if_ge C 30 61 rfl rfl h (fun h => ?_) (fun h => ?_)
  · refine g_iload_n C 33 3 rfl rfl ?_
    refine g_iast C 34 rfl (hZ.at (i := 82) rfl) h (fun s2 h => ?_)
    refine g_iconst (v := 0) C 35 rfl rfl ?_
    refine g_istore C 36 [(4, .int 0), (0, .ref (ad 65)), (1, .int l1), (2, .int l2), (3, .int l3)] rfl (by decide) rfl ?_
    refine g_sub C [1, 2, 0] [(0, .ref (ad 65)), (1, .int l1), (4, .int 0)] rfl ?_
    exact C_F_X10_sheet_L66 C hZ _ _ _ _ h
  · refine g_iconst (v := 0) C 31 rfl rfl ?_
    refine g_goto C 32 62 rfl rfl ?_
    refine g_iast C 34 rfl (hZ.at (i := 82) rfl) h (fun s3 h => ?_)
    refine g_iconst (v := 0) C 35 rfl rfl ?_
    refine g_istore C 36 [(4, .int 0), (0, .ref (ad 65)), (1, .int l1), (2, .int l2), (3, .int l3)] rfl (by decide) rfl ?_
    refine g_sub C [1, 2, 0] [(0, .ref (ad 65)), (1, .int l1), (4, .int 0)] rfl ?_
    exact C_F_X10_sheet_L66 C hZ _ _ _ _ h
set_option maxRecDepth 20000 in
set_option maxHeartbeats 4000000 in
theorem M_X10_sheet {Z : List gH} (hZ : Lay Z) (l1 : Int32) (l2 : Int32) (l3 : Int32) : gMet yX10_sheet cX10_sheet 5 (some .int) 3 Z (fun ad => [.ref (ad 65), .int l1, .int l2, .int l3]) (F_X10_sheet Z l1 l2 l3) := by
  refine gMet_intro T_X10_sheet T_X10_sheet_ok rfl (fun _ => Nat.le_of_ble_eq_true rfl) (fun g ad σ z C h => ?_)
  show g 0 [(0, .ref (ad 65)), (1, .int l1), (2, .int l2), (3, .int l3)] [] σ
  rw [F_X10_sheet] at h
  refine g_iload_n C 0 1 rfl rfl ?_
  refine g_callSi C 1 [.int l1] [] rfl (M_X10_isSheet hZ l1) cnX10_203 cwX10_isSheet csX10_isSheet rfl rfl rfl (Nat.le_of_ble_eq_true rfl) ⟨Nat.le_of_ble_eq_true rfl, Nat.le_of_ble_eq_true rfl⟩ h (fun r1 s2 h => ?_)
  refine g_if_eq C 2 26 rfl rfl h (fun h => ?_) (fun h => ?_)
  · refine g_ldc C 13 rfl kcX10_115 ?_
    exact g_ireturn C 14 rfl h
  · refine g_iload_n C 3 2 rfl rfl ?_
    refine g_iconst (v := (-1)) C 4 rfl rfl ?_
    refine g_iconst (v := 1) C 5 rfl rfl ?_
    refine g_callSi C 6 [.int l2, .int (-1), .int 1] [] rfl (M_X10_in hZ l2 (-1) 1) cnX10_84 cwX10_in csX10_in rfl rfl rfl (Nat.le_of_ble_eq_true rfl) ⟨Nat.le_of_ble_eq_true rfl, Nat.le_of_ble_eq_true rfl⟩ h (fun r3 s4 h => ?_)
    refine g_if_eq C 7 26 rfl rfl h (fun h => ?_) (fun h => ?_)
    · refine g_ldc C 13 rfl kcX10_115 ?_
      exact g_ireturn C 14 rfl h
    · refine g_iload_n C 8 2 rfl rfl ?_
      refine g_if_lt C 9 29 rfl rfl h (fun h => ?_) (fun h => ?_)
      · refine g_iload_n C 15 2 rfl rfl ?_
        refine g_if_lt C 16 41 rfl rfl h (fun h => ?_) (fun h => ?_)
        · exact C_F_X10_sheet_J41 C hZ _ _ _ _ h
        · refine g_iload_n C 17 3 rfl rfl ?_
          refine g_if_ge C 18 41 rfl rfl h (fun h => ?_) (fun h => ?_)
          · exact C_F_X10_sheet_J41 C hZ _ _ _ _ h
          · refine g_ldcw C 19 rfl kcX10_277 ?_
            exact g_ireturn C 20 rfl h
      · refine g_iload_n C 10 3 rfl rfl ?_
        refine g_bipush (v := 24) C 11 rfl rfl ?_
        refine g_icmp_le C 12 29 rfl rfl h (fun h => ?_) (fun h => ?_)
        · refine g_iload_n C 15 2 rfl rfl ?_
          refine g_if_lt C 16 41 rfl rfl h (fun h => ?_) (fun h => ?_)
          · exact C_F_X10_sheet_J41 C hZ _ _ _ _ h
          · refine g_iload_n C 17 3 rfl rfl ?_
            refine g_if_ge C 18 41 rfl rfl h (fun h => ?_) (fun h => ?_)
            · exact C_F_X10_sheet_J41 C hZ _ _ _ _ h
            · refine g_ldcw C 19 rfl kcX10_277 ?_
              exact g_ireturn C 20 rfl h
        · refine g_ldc C 13 rfl kcX10_115 ?_
          exact g_ireturn C 14 rfl h
def T_X10_mark : List (Nat × Instr × Nat) := [(0, .iload_n 1, 1), (1, .invokestatic 203, 3), (4, .ifCond .ne 6, 3), (7, .ldc 115, 2), (9, .ireturn, 1), (10, .aload_n 0, 1), (11, .getfield 57, 3), (14, .iload_n 1, 1), (15, .iaload, 1), (16, .ifCond .ge 6, 3), (19, .ldc 206, 2), (21, .ireturn, 1), (22, .iload_n 2, 1), (23, .iconst 0, 1), (24, .aload_n 0, 1), (25, .getfield 60, 3), (28, .iload_n 1, 1), (29, .iaload, 1), (30, .iconst 1, 1), (31, .isub, 1), (32, .invokestatic 84, 3), (35, .ifCond .ne 7, 3), (38, .ldc_w 278, 3), (41, .ireturn, 1), (42, .aload_n 0, 1), (43, .getfield 57, 3), (46, .iload_n 1, 1), (47, .iaload, 1), (48, .ifCond .ne 12, 3), (51, .iload_n 3, 1), (52, .ldc 161, 2), (54, .if_icmp .ne 6, 3), (57, .ldc 139, 2), (59, .ireturn, 1), (60, .aload_n 0, 1), (61, .getfield 57, 3), (64, .iload_n 1, 1), (65, .iaload, 1), (66, .iconst 1, 1), (67, .if_icmp .ne 25, 3), (70, .iload_n 3, 1), (71, .ldc 161, 2), (73, .if_icmp .eq 19, 3), (76, .iload_n 3, 1), (77, .ldc_w 279, 3), (80, .ldc_w 280, 3), (83, .invokestatic 84, 3), (86, .ifCond .ne 6, 3), (89, .ldc 115, 2), (91, .ireturn, 1), (92, .aload_n 0, 1), (93, .getfield 63, 3), (96, .bipush 24, 2), (98, .iload_n 1, 1), (99, .imul, 1), (100, .iload_n 2, 1), (101, .iadd, 1), (102, .aload_n 0, 1), (103, .getfield 57, 3), (106, .iload_n 1, 1), (107, .iaload, 1), (108, .ifCond .ne 8, 3), (111, .iload_n 3, 1), (112, .i2s, 1), (113, .goto 4, 3), (116, .iload_n 3, 1), (117, .iastore, 1), (118, .iconst 1, 1), (119, .ireturn, 1)]
theorem T_X10_mark_ok : gTb cX10_mark T_X10_mark = true := by decide +kernel
def F_X10_mark_J92 (Z : List gH) (l1 : Int32) (l2 : Int32) (l3 : Int32) (σ : gS) : Option (Int32 × gS) := mIn 4 l1 (if (σ 81 (nn l1)) = 0 then mIn 96 ((24 * l1) + l2) (mLet (gu σ 83 (nn ((24 * l1) + l2)) (l3.toInt16.toInt32)) (fun s2 => some (1, s2))) else mIn 96 ((24 * l1) + l2) (mLet (gu σ 83 (nn ((24 * l1) + l2)) l3) (fun s1 => some (1, s1))))
def F_X10_mark_J60 (Z : List gH) (l1 : Int32) (l2 : Int32) (l3 : Int32) (σ : gS) : Option (Int32 × gS) := mIn 4 l1 (if (σ 81 (nn l1)) = 1 then if l3 = (-1000000005) then F_X10_mark_J92 Z l1 l2 l3 σ else mCall (F_X10_in Z l3 (-99999) 99999 σ) (fun r1 s2 => if r1 = 0 then some ((-1000000001), s2) else F_X10_mark_J92 Z l1 l2 l3 s2) else F_X10_mark_J92 Z l1 l2 l3 σ)
def F_X10_mark (Z : List gH) (l1 : Int32) (l2 : Int32) (l3 : Int32) (σ : gS) : Option (Int32 × gS) := mCall (F_X10_isSheet Z l1 σ) (fun r1 s2 => if r1 = 0 then some ((-1000000001), s2) else mIn 4 l1 (if 0 ≤ (s2 81 (nn l1)) then mIn 4 l1 (mCall (F_X10_in Z l2 0 ((s2 82 (nn l1)) - 1) s2) (fun r3 s4 => if r3 = 0 then some ((-1000000013), s4) else mIn 4 l1 (if (s4 81 (nn l1)) = 0 then if l3 = (-1000000005) then some ((-1000000012), s4) else F_X10_mark_J60 Z l1 l2 l3 s4 else F_X10_mark_J60 Z l1 l2 l3 s4))) else some ((-1000000011), s2)))
set_option maxRecDepth 20000 in
set_option maxHeartbeats 4000000 in
theorem C_F_X10_mark_J92 {g : Nat → List (Nat × Value) → List Value → gS → Prop} {Z : List gH} {ad : Nat → Nat} {z : Int32 × gS}  (C : gOk g T_X10_mark RX10 4 (some .int) 3 Z ad z) (hZ : Lay Z) (l1 : Int32) (l2 : Int32) (l3 : Int32) (σ : gS) (h : F_X10_mark_J92 Z l1 l2 l3  σ = some z) : g 92 [(0, .ref (ad 65)), (1, .int l1), (2, .int l2), (3, .int l3)] [] σ := by
  rw [F_X10_mark_J92] at h
  refine g_aload_n C 50 0 rfl rfl ?_
  refine g_getr (b := 83) C 51 rfl flX10_63 (hZ.at (i := 65) rfl) rfl ?_
  refine g_bipush (v := 24) C 52 rfl rfl ?_
  refine g_iload_n C 53 1 rfl rfl ?_
  refine g_imul C 54 rfl ?_
  refine g_iload_n C 55 2 rfl rfl ?_
  refine g_iadd C 56 rfl ?_
  refine g_aload_n C 57 0 rfl rfl ?_
  refine g_getr (b := 81) C 58 rfl flX10_57 (hZ.at (i := 65) rfl) rfl ?_
  refine g_iload_n C 59 1 rfl rfl ?_
  refine g_iald C 60 rfl (hZ.at (i := 81) rfl) h (fun h => ?_)
  refine g_if_ne C 61 116 rfl rfl h (fun h => ?_) (fun h => ?_)
  · refine g_iload_n C 65 3 rfl rfl ?_
    refine g_iast C 66 rfl (hZ.at (i := 83) rfl) h (fun s1 h => ?_)
    refine g_iconst (v := 1) C 67 rfl rfl ?_
    exact g_ireturn C 68 rfl h
  · refine g_iload_n C 62 3 rfl rfl ?_
    refine g_i2s C 63 rfl ?_
    refine g_goto C 64 117 rfl rfl ?_
    refine g_iast C 66 rfl (hZ.at (i := 83) rfl) h (fun s2 h => ?_)
    refine g_iconst (v := 1) C 67 rfl rfl ?_
    exact g_ireturn C 68 rfl h
set_option maxRecDepth 20000 in
set_option maxHeartbeats 4000000 in
theorem C_F_X10_mark_J60 {g : Nat → List (Nat × Value) → List Value → gS → Prop} {Z : List gH} {ad : Nat → Nat} {z : Int32 × gS}  (C : gOk g T_X10_mark RX10 4 (some .int) 3 Z ad z) (hZ : Lay Z) (l1 : Int32) (l2 : Int32) (l3 : Int32) (σ : gS) (h : F_X10_mark_J60 Z l1 l2 l3  σ = some z) : g 60 [(0, .ref (ad 65)), (1, .int l1), (2, .int l2), (3, .int l3)] [] σ := by
  rw [F_X10_mark_J60] at h
  refine g_aload_n C 34 0 rfl rfl ?_
  refine g_getr (b := 81) C 35 rfl flX10_57 (hZ.at (i := 65) rfl) rfl ?_
  refine g_iload_n C 36 1 rfl rfl ?_
  refine g_iald C 37 rfl (hZ.at (i := 81) rfl) h (fun h => ?_)
  refine g_iconst (v := 1) C 38 rfl rfl ?_
  refine g_icmp_ne C 39 92 rfl rfl h (fun h => ?_) (fun h => ?_)
  · exact C_F_X10_mark_J92 C hZ _ _ _ _ h
  · refine g_iload_n C 40 3 rfl rfl ?_
    refine g_ldc C 41 rfl kcX10_161 ?_
    refine g_icmp_eq C 42 92 rfl rfl h (fun h => ?_) (fun h => ?_)
    · exact C_F_X10_mark_J92 C hZ _ _ _ _ h
    · refine g_iload_n C 43 3 rfl rfl ?_
      refine g_ldcw C 44 rfl kcX10_279 ?_
      refine g_ldcw C 45 rfl kcX10_280 ?_
      refine g_callSi C 46 [.int l3, .int (-99999), .int 99999] [] rfl (M_X10_in hZ l3 (-99999) 99999) cnX10_84 cwX10_in csX10_in rfl rfl rfl (Nat.le_of_ble_eq_true rfl) ⟨Nat.le_of_ble_eq_true rfl, Nat.le_of_ble_eq_true rfl⟩ h (fun r1 s2 h => ?_)
      refine g_if_ne C 47 92 rfl rfl h (fun h => ?_) (fun h => ?_)
      · exact C_F_X10_mark_J92 C hZ _ _ _ _ h
      · refine g_ldc C 48 rfl kcX10_115 ?_
        exact g_ireturn C 49 rfl h
set_option maxRecDepth 20000 in
set_option maxHeartbeats 4000000 in
theorem M_X10_mark {Z : List gH} (hZ : Lay Z) (l1 : Int32) (l2 : Int32) (l3 : Int32) : gMet yX10_mark cX10_mark 4 (some .int) 3 Z (fun ad => [.ref (ad 65), .int l1, .int l2, .int l3]) (F_X10_mark Z l1 l2 l3) := by
  refine gMet_intro T_X10_mark T_X10_mark_ok rfl (fun _ => Nat.le_of_ble_eq_true rfl) (fun g ad σ z C h => ?_)
  show g 0 [(0, .ref (ad 65)), (1, .int l1), (2, .int l2), (3, .int l3)] [] σ
  rw [F_X10_mark] at h
  refine g_iload_n C 0 1 rfl rfl ?_
  refine g_callSi C 1 [.int l1] [] rfl (M_X10_isSheet hZ l1) cnX10_203 cwX10_isSheet csX10_isSheet rfl rfl rfl (Nat.le_of_ble_eq_true rfl) ⟨Nat.le_of_ble_eq_true rfl, Nat.le_of_ble_eq_true rfl⟩ h (fun r1 s2 h => ?_)
  refine g_if_ne C 2 10 rfl rfl h (fun h => ?_) (fun h => ?_)
  · refine g_aload_n C 5 0 rfl rfl ?_
    refine g_getr (b := 81) C 6 rfl flX10_57 (hZ.at (i := 65) rfl) rfl ?_
    refine g_iload_n C 7 1 rfl rfl ?_
    refine g_iald C 8 rfl (hZ.at (i := 81) rfl) h (fun h => ?_)
    refine g_if_ge C 9 22 rfl rfl h (fun h => ?_) (fun h => ?_)
    · refine g_iload_n C 12 2 rfl rfl ?_
      refine g_iconst (v := 0) C 13 rfl rfl ?_
      refine g_aload_n C 14 0 rfl rfl ?_
      refine g_getr (b := 82) C 15 rfl flX10_60 (hZ.at (i := 65) rfl) rfl ?_
      refine g_iload_n C 16 1 rfl rfl ?_
      refine g_iald C 17 rfl (hZ.at (i := 82) rfl) h (fun h => ?_)
      refine g_iconst (v := 1) C 18 rfl rfl ?_
      refine g_isub C 19 rfl ?_
      refine g_callSi C 20 [.int l2, .int 0, .int ((s2 82 (nn l1)) - 1)] [] rfl (M_X10_in hZ l2 0 ((s2 82 (nn l1)) - 1)) cnX10_84 cwX10_in csX10_in rfl rfl rfl (Nat.le_of_ble_eq_true rfl) ⟨Nat.le_of_ble_eq_true rfl, Nat.le_of_ble_eq_true rfl⟩ h (fun r3 s4 h => ?_)
      refine g_if_ne C 21 42 rfl rfl h (fun h => ?_) (fun h => ?_)
      · refine g_aload_n C 24 0 rfl rfl ?_
        refine g_getr (b := 81) C 25 rfl flX10_57 (hZ.at (i := 65) rfl) rfl ?_
        refine g_iload_n C 26 1 rfl rfl ?_
        refine g_iald C 27 rfl (hZ.at (i := 81) rfl) h (fun h => ?_)
        refine g_if_ne C 28 60 rfl rfl h (fun h => ?_) (fun h => ?_)
        · exact C_F_X10_mark_J60 C hZ _ _ _ _ h
        · refine g_iload_n C 29 3 rfl rfl ?_
          refine g_ldc C 30 rfl kcX10_161 ?_
          refine g_icmp_ne C 31 60 rfl rfl h (fun h => ?_) (fun h => ?_)
          · exact C_F_X10_mark_J60 C hZ _ _ _ _ h
          · refine g_ldc C 32 rfl kcX10_139 ?_
            exact g_ireturn C 33 rfl h
      · refine g_ldcw C 22 rfl kcX10_278 ?_
        exact g_ireturn C 23 rfl h
    · refine g_ldc C 10 rfl kcX10_206 ?_
      exact g_ireturn C 11 rfl h
  · refine g_ldc C 3 rfl kcX10_115 ?_
    exact g_ireturn C 4 rfl h
def T_X10_pour : List (Nat × Instr × Nat) := [(0, .iload_n 1, 1), (1, .invokestatic 203, 3), (4, .ifCond .ne 6, 3), (7, .ldc 115, 2), (9, .ireturn, 1), (10, .aload_n 0, 1), (11, .getfield 57, 3), (14, .iload_n 1, 1), (15, .iaload, 1), (16, .ifCond .ge 6, 3), (19, .ldc 206, 2), (21, .ireturn, 1), (22, .iconst 0, 1), (23, .istore_n 2, 1), (24, .iconst 0, 1), (25, .istore_n 3, 1), (26, .iload_n 3, 1), (27, .aload_n 0, 1), (28, .getfield 60, 3), (31, .iload_n 1, 1), (32, .iaload, 1), (33, .if_icmp .ge 85, 3), (36, .iload_n 3, 1), (37, .aload_n 0, 1), (38, .getfield 9, 3), (41, .iconst 1, 1), (42, .iaload, 1), (43, .if_icmp .ge 75, 3), (46, .aload_n 0, 1), (47, .getfield 63, 3), (50, .bipush 24, 2), (52, .iload_n 1, 1), (53, .imul, 1), (54, .iload_n 3, 1), (55, .iadd, 1), (56, .iaload, 1), (57, .istore 4, 2), (59, .iload 4, 2), (61, .ldc 161, 2), (63, .if_icmp .ne 12, 3), (66, .aload_n 0, 1), (67, .iload_n 3, 1), (68, .iconst 2, 1), (69, .invokevirtual 92, 3), (72, .goto 11, 3), (75, .iload 4, 2), (77, .iconst 0, 1), (78, .bipush 99, 2), (80, .invokestatic 99, 3), (83, .istore 5, 2), (85, .iload_n 2, 1), (86, .aload_n 0, 1), (87, .bipush 82, 2), (89, .iconst 4, 1), (90, .iload_n 3, 1), (91, .imul, 1), (92, .iadd, 1), (93, .iconst 2, 1), (94, .iadd, 1), (95, .iload 5, 2), (97, .invokevirtual 140, 3), (100, .iload 5, 2), (102, .if_icmp .ne 7, 3), (105, .iconst 0, 1), (106, .goto 4, 3), (109, .iconst 1, 1), (110, .iadd, 1), (111, .istore_n 2, 1), (112, .iinc 3 1, 3), (115, .goto (-89), 3), (118, .iload_n 2, 1), (119, .ireturn, 1)]
theorem T_X10_pour_ok : gTb cX10_pour T_X10_pour = true := by decide +kernel
def F_X10_pour_J83 (Z : List gH) (k26 : Int32 → Int32 → gS → Option (Int32 × gS)) (l1 : Int32) (l2 : Int32) (l3 : Int32) (t0 : Int32) (σ : gS) : Option (Int32 × gS) := mCall (F_X10_swaps Z ((82 + (4 * l3)) + 2) t0 σ) (fun r1 s2 => if r1 = t0 then mLet ((l2 + 0)) (fun v4 => k26 v4 (l3 + 1) s2) else mLet ((l2 + 1)) (fun v3 => k26 v3 (l3 + 1) s2))
def F_X10_pour_L26 (Z : List gH) (l1 : Int32) : Nat → Int32 → Int32 → gS → Option (Int32 × gS)
  | 0, _, _, _ => none
  | n + 1, l2, l3, σ => mIn 4 l1 (if (σ 82 (nn l1)) ≤ l3 then some (l2, σ) else if (σ 66 1) ≤ l3 then some (l2, σ) else mIn 96 ((24 * l1) + l3) (mLet ((σ 83 (nn ((24 * l1) + l3)))) (fun v1 => if v1 = (-1000000005) then mCall (F_X10_of Z l3 2 σ) (fun r4 s5 => F_X10_pour_J83 Z (F_X10_pour_L26 Z l1 n) l1 l2 l3 r4 s5) else mCall (F_X10_within Z v1 0 99 σ) (fun r2 s3 => F_X10_pour_J83 Z (F_X10_pour_L26 Z l1 n) l1 l2 l3 r2 s3))))
def F_X10_pour (Z : List gH) (l1 : Int32) (σ : gS) : Option (Int32 × gS) := mCall (F_X10_isSheet Z l1 σ) (fun r1 s2 => if r1 = 0 then some ((-1000000001), s2) else mIn 4 l1 (if 0 ≤ (s2 81 (nn l1)) then F_X10_pour_L26 Z l1 mFuel 0 0 s2 else some ((-1000000011), s2)))
set_option maxRecDepth 20000 in
set_option maxHeartbeats 4000000 in
theorem C_F_X10_pour_J83 {g : Nat → List (Nat × Value) → List Value → gS → Prop} {Z : List gH} {ad : Nat → Nat} {z : Int32 × gS}  (C : gOk g T_X10_pour RX10 6 (some .int) 3 Z ad z) (hZ : Lay Z) {k26 : Int32 → Int32 → gS → Option (Int32 × gS)} (l1 : Int32) (hk26 : ∀ (l2 : Int32) (l3 : Int32) (σ : gS), k26 l2 l3 σ = some z → g 26 [(0, .ref (ad 65)), (1, .int l1), (2, .int l2), (3, .int l3)] [] σ) (l2 : Int32) (l3 : Int32) (t0 : Int32) (σ : gS) (h : F_X10_pour_J83 Z k26 l1 l2 l3 t0 σ = some z) : g 83 [(0, .ref (ad 65)), (1, .int l1), (2, .int l2), (3, .int l3)] [.int t0] σ := by
  rw [F_X10_pour_J83] at h
  refine g_istore C 49 [(5, .int t0), (0, .ref (ad 65)), (1, .int l1), (2, .int l2), (3, .int l3)] rfl (by decide) rfl ?_
  refine g_iload_n C 50 3 rfl rfl ?_
  refine g_aload_n C 51 1 rfl rfl ?_
  refine g_bipush (v := 82) C 52 rfl rfl ?_
  refine g_iconst (v := 4) C 53 rfl rfl ?_
  refine g_iload_n C 54 4 rfl rfl ?_
  refine g_imul C 55 rfl ?_
  refine g_iadd C 56 rfl ?_
  refine g_iconst (v := 2) C 57 rfl rfl ?_
  refine g_iadd C 58 rfl ?_
  refine g_iload C 59 0 rfl rfl ?_
  refine g_callVi C 60 [.int ((82 + (4 * l3)) + 2), .int t0] [.int l2] rfl (M_X10_swaps hZ ((82 + (4 * l3)) + 2) t0) cnX10_140 cwX10_swaps ciX10_swaps (hZ.at (i := 65) rfl) rfl rfl rfl rfl (Nat.le_of_ble_eq_true rfl) ⟨Nat.le_of_ble_eq_true rfl, Nat.le_of_ble_eq_true rfl⟩ h (fun r1 s2 h => ?_)
  refine g_iload C 61 0 rfl rfl ?_
  refine g_icmp_ne C 62 109 rfl rfl h (fun h => ?_) (fun h => ?_)
  · refine g_iconst (v := 1) C 65 rfl rfl ?_
    refine g_iadd C 66 rfl ?_
    refine g_let h (fun v3 h => ?_)
    refine g_istore_n C 67 [(2, .int v3), (5, .int t0), (0, .ref (ad 65)), (1, .int l1), (3, .int l3)] rfl (by decide) rfl ?_
    refine g_iinc C 68 4 (l3 + 1) [(3, .int (l3 + 1)), (2, .int v3), (5, .int t0), (0, .ref (ad 65)), (1, .int l1)] rfl rfl (by decide) rfl rfl ?_
    refine g_goto C 69 26 rfl rfl ?_
    refine g_sub C [3, 4, 1, 0] [(0, .ref (ad 65)), (1, .int l1), (2, .int v3), (3, .int (l3 + 1))] rfl ?_
    exact hk26 _ _ _ h
  · refine g_iconst (v := 0) C 63 rfl rfl ?_
    refine g_goto C 64 110 rfl rfl ?_
    refine g_iadd C 66 rfl ?_
    refine g_let h (fun v4 h => ?_)
    refine g_istore_n C 67 [(2, .int v4), (5, .int t0), (0, .ref (ad 65)), (1, .int l1), (3, .int l3)] rfl (by decide) rfl ?_
    refine g_iinc C 68 4 (l3 + 1) [(3, .int (l3 + 1)), (2, .int v4), (5, .int t0), (0, .ref (ad 65)), (1, .int l1)] rfl rfl (by decide) rfl rfl ?_
    refine g_goto C 69 26 rfl rfl ?_
    refine g_sub C [3, 4, 1, 0] [(0, .ref (ad 65)), (1, .int l1), (2, .int v4), (3, .int (l3 + 1))] rfl ?_
    exact hk26 _ _ _ h
set_option maxRecDepth 20000 in
set_option maxHeartbeats 4000000 in
theorem C_F_X10_pour_L26 {g : Nat → List (Nat × Value) → List Value → gS → Prop} {Z : List gH} {ad : Nat → Nat} {z : Int32 × gS}  (C : gOk g T_X10_pour RX10 6 (some .int) 3 Z ad z) (hZ : Lay Z) (l1 : Int32) : ∀ (n : Nat) (l2 : Int32) (l3 : Int32) (σ : gS), F_X10_pour_L26 Z l1 n l2 l3 σ = some z → g 26 [(0, .ref (ad 65)), (1, .int l1), (2, .int l2), (3, .int l3)] [] σ := by
  intro n
  induction n with
  | zero => intro l2 l3 σ h; cases h
  | succ n ih =>
    intro l2 l3 σ h
    rw [F_X10_pour_L26] at h
    refine g_iload_n C 16 3 rfl rfl ?_
    refine g_aload_n C 17 0 rfl rfl ?_
    refine g_getr (b := 82) C 18 rfl flX10_60 (hZ.at (i := 65) rfl) rfl ?_
    refine g_iload_n C 19 1 rfl rfl ?_
    refine g_iald C 20 rfl (hZ.at (i := 82) rfl) h (fun h => ?_)
    refine g_icmp_ge C 21 118 rfl rfl h (fun h => ?_) (fun h => ?_)
    · refine g_iload_n C 70 2 rfl rfl ?_
      exact g_ireturn C 71 rfl h
    · refine g_iload_n C 22 3 rfl rfl ?_
      refine g_aload_n C 23 0 rfl rfl ?_
      refine g_getr (b := 66) C 24 rfl flX10_9 (hZ.at (i := 65) rfl) rfl ?_
      refine g_iconst (v := 1) C 25 rfl rfl ?_
      refine g_ialdK C 26 1 rfl (hZ.at (i := 66) rfl) rfl (vp_k rfl) ?_
      refine g_icmp_ge C 27 118 rfl rfl h (fun h => ?_) (fun h => ?_)
      · refine g_iload_n C 70 2 rfl rfl ?_
        exact g_ireturn C 71 rfl h
      · refine g_aload_n C 28 0 rfl rfl ?_
        refine g_getr (b := 83) C 29 rfl flX10_63 (hZ.at (i := 65) rfl) rfl ?_
        refine g_bipush (v := 24) C 30 rfl rfl ?_
        refine g_iload_n C 31 1 rfl rfl ?_
        refine g_imul C 32 rfl ?_
        refine g_iload_n C 33 3 rfl rfl ?_
        refine g_iadd C 34 rfl ?_
        refine g_iald C 35 rfl (hZ.at (i := 83) rfl) h (fun h => ?_)
        refine g_let h (fun v1 h => ?_)
        refine g_istore C 36 [(4, .int v1), (0, .ref (ad 65)), (1, .int l1), (2, .int l2), (3, .int l3)] rfl (by decide) rfl ?_
        refine g_iload C 37 0 rfl rfl ?_
        refine g_ldc C 38 rfl kcX10_161 ?_
        refine g_icmp_ne C 39 75 rfl rfl h (fun h => ?_) (fun h => ?_)
        · refine g_iload C 45 0 rfl rfl ?_
          refine g_iconst (v := 0) C 46 rfl rfl ?_
          refine g_bipush (v := 99) C 47 rfl rfl ?_
          refine g_callSi C 48 [.int v1, .int 0, .int 99] [] rfl (M_X10_within hZ v1 0 99) cnX10_99 cwX10_within csX10_within rfl rfl rfl (Nat.le_of_ble_eq_true rfl) ⟨Nat.le_of_ble_eq_true rfl, Nat.le_of_ble_eq_true rfl⟩ h (fun r2 s3 h => ?_)
          refine g_sub C [1, 2, 3, 4] [(0, .ref (ad 65)), (1, .int l1), (2, .int l2), (3, .int l3)] rfl ?_
          exact C_F_X10_pour_J83 C hZ _ ih _ _ _ _ h
        · refine g_aload_n C 40 1 rfl rfl ?_
          refine g_iload_n C 41 4 rfl rfl ?_
          refine g_iconst (v := 2) C 42 rfl rfl ?_
          refine g_callVi C 43 [.int l3, .int 2] [] rfl (M_X10_of hZ l3 2) cnX10_92 cwX10_of ciX10_of (hZ.at (i := 65) rfl) rfl rfl rfl rfl (Nat.le_of_ble_eq_true rfl) ⟨Nat.le_of_ble_eq_true rfl, Nat.le_of_ble_eq_true rfl⟩ h (fun r4 s5 h => ?_)
          refine g_goto C 44 83 rfl rfl ?_
          refine g_sub C [1, 2, 3, 4] [(0, .ref (ad 65)), (1, .int l1), (2, .int l2), (3, .int l3)] rfl ?_
          exact C_F_X10_pour_J83 C hZ _ ih _ _ _ _ h
set_option maxRecDepth 20000 in
set_option maxHeartbeats 4000000 in
theorem M_X10_pour {Z : List gH} (hZ : Lay Z) (l1 : Int32) : gMet yX10_pour cX10_pour 6 (some .int) 3 Z (fun ad => [.ref (ad 65), .int l1]) (F_X10_pour Z l1) := by
  refine gMet_intro T_X10_pour T_X10_pour_ok rfl (fun _ => Nat.le_of_ble_eq_true rfl) (fun g ad σ z C h => ?_)
  show g 0 [(0, .ref (ad 65)), (1, .int l1)] [] σ
  rw [F_X10_pour] at h
  refine g_iload_n C 0 1 rfl rfl ?_
  refine g_callSi C 1 [.int l1] [] rfl (M_X10_isSheet hZ l1) cnX10_203 cwX10_isSheet csX10_isSheet rfl rfl rfl (Nat.le_of_ble_eq_true rfl) ⟨Nat.le_of_ble_eq_true rfl, Nat.le_of_ble_eq_true rfl⟩ h (fun r1 s2 h => ?_)
  refine g_if_ne C 2 10 rfl rfl h (fun h => ?_) (fun h => ?_)
  · refine g_aload_n C 5 0 rfl rfl ?_
    refine g_getr (b := 81) C 6 rfl flX10_57 (hZ.at (i := 65) rfl) rfl ?_
    refine g_iload_n C 7 1 rfl rfl ?_
    refine g_iald C 8 rfl (hZ.at (i := 81) rfl) h (fun h => ?_)
    refine g_if_ge C 9 22 rfl rfl h (fun h => ?_) (fun h => ?_)
    · refine g_iconst (v := 0) C 12 rfl rfl ?_
      refine g_istore_n C 13 [(2, .int 0), (0, .ref (ad 65)), (1, .int l1)] rfl (by decide) rfl ?_
      refine g_iconst (v := 0) C 14 rfl rfl ?_
      refine g_istore_n C 15 [(3, .int 0), (2, .int 0), (0, .ref (ad 65)), (1, .int l1)] rfl (by decide) rfl ?_
      refine g_sub C [2, 3, 1, 0] [(0, .ref (ad 65)), (1, .int l1), (2, .int 0), (3, .int 0)] rfl ?_
      exact C_F_X10_pour_L26 C hZ _ _ _ _ _ h
    · refine g_ldc C 10 rfl kcX10_206 ?_
      exact g_ireturn C 11 rfl h
  · refine g_ldc C 3 rfl kcX10_115 ?_
    exact g_ireturn C 4 rfl h
def T_X10_reads : List (Nat × Instr × Nat) := [(0, .iload_n 1, 1), (1, .invokestatic 203, 3), (4, .ifCond .ne 6, 3), (7, .ldc 115, 2), (9, .ireturn, 1), (10, .aload_n 0, 1), (11, .getfield 57, 3), (14, .iload_n 1, 1), (15, .iaload, 1), (16, .ifCond .ge 6, 3), (19, .ldc 206, 2), (21, .ireturn, 1), (22, .iconst 0, 1), (23, .istore_n 2, 1), (24, .iload_n 2, 1), (25, .aload_n 0, 1), (26, .getfield 60, 3), (29, .iload_n 1, 1), (30, .iaload, 1), (31, .if_icmp .ge 47, 3), (34, .aload_n 0, 1), (35, .getfield 63, 3), (38, .bipush 24, 2), (40, .iload_n 1, 1), (41, .imul, 1), (42, .iload_n 2, 1), (43, .iadd, 1), (44, .iaload, 1), (45, .istore_n 3, 1), (46, .iload_n 3, 1), (47, .ldc 161, 2), (49, .if_icmp .eq 23, 3), (52, .aload_n 0, 1), (53, .iload_n 2, 1), (54, .invokevirtual 121, 3), (57, .ifCond .eq 13, 3), (60, .iload_n 3, 1), (61, .aload_n 0, 1), (62, .iload_n 2, 1), (63, .iconst 1, 1), (64, .invokevirtual 92, 3), (67, .if_icmp .eq 5, 3), (70, .iload_n 2, 1), (71, .ireturn, 1), (72, .iinc 2 1, 3), (75, .goto (-51), 3), (78, .ldc 161, 2), (80, .ireturn, 1)]
theorem T_X10_reads_ok : gTb cX10_reads T_X10_reads = true := by decide +kernel
def F_X10_reads_L24 (Z : List gH) (l1 : Int32) : Nat → Int32 → gS → Option (Int32 × gS)
  | 0, _, _ => none
  | n + 1, l2, σ => mIn 4 l1 (if (σ 82 (nn l1)) ≤ l2 then some ((-1000000005), σ) else mIn 96 ((24 * l1) + l2) (mLet ((σ 83 (nn ((24 * l1) + l2)))) (fun v1 => if v1 = (-1000000005) then F_X10_reads_L24 Z l1 n (l2 + 1) σ else mCall (F_X10_isThing Z l2 σ) (fun r2 s3 => if r2 = 0 then some (l2, s3) else mCall (F_X10_of Z l2 1 s3) (fun r4 s5 => if v1 = r4 then F_X10_reads_L24 Z l1 n (l2 + 1) s5 else some (l2, s5))))))
def F_X10_reads (Z : List gH) (l1 : Int32) (σ : gS) : Option (Int32 × gS) := mCall (F_X10_isSheet Z l1 σ) (fun r1 s2 => if r1 = 0 then some ((-1000000001), s2) else mIn 4 l1 (if 0 ≤ (s2 81 (nn l1)) then F_X10_reads_L24 Z l1 mFuel 0 s2 else some ((-1000000011), s2)))
set_option maxRecDepth 20000 in
set_option maxHeartbeats 4000000 in
theorem C_F_X10_reads_L24 {g : Nat → List (Nat × Value) → List Value → gS → Prop} {Z : List gH} {ad : Nat → Nat} {z : Int32 × gS}  (C : gOk g T_X10_reads RX10 4 (some .int) 3 Z ad z) (hZ : Lay Z) (l1 : Int32) : ∀ (n : Nat) (l2 : Int32) (σ : gS), F_X10_reads_L24 Z l1 n l2 σ = some z → g 24 [(0, .ref (ad 65)), (1, .int l1), (2, .int l2)] [] σ := by
  intro n
  induction n with
  | zero => intro l2 σ h; cases h
  | succ n ih =>
    intro l2 σ h
    rw [F_X10_reads_L24] at h
    refine g_iload_n C 14 2 rfl rfl ?_
    refine g_aload_n C 15 0 rfl rfl ?_
    refine g_getr (b := 82) C 16 rfl flX10_60 (hZ.at (i := 65) rfl) rfl ?_
    refine g_iload_n C 17 1 rfl rfl ?_
    refine g_iald C 18 rfl (hZ.at (i := 82) rfl) h (fun h => ?_)
    refine g_icmp_ge C 19 78 rfl rfl h (fun h => ?_) (fun h => ?_)
    · refine g_ldc C 46 rfl kcX10_161 ?_
      exact g_ireturn C 47 rfl h
    · refine g_aload_n C 20 0 rfl rfl ?_
      refine g_getr (b := 83) C 21 rfl flX10_63 (hZ.at (i := 65) rfl) rfl ?_
      refine g_bipush (v := 24) C 22 rfl rfl ?_
      refine g_iload_n C 23 1 rfl rfl ?_
      refine g_imul C 24 rfl ?_
      refine g_iload_n C 25 2 rfl rfl ?_
      refine g_iadd C 26 rfl ?_
      refine g_iald C 27 rfl (hZ.at (i := 83) rfl) h (fun h => ?_)
      refine g_let h (fun v1 h => ?_)
      refine g_istore_n C 28 [(3, .int v1), (0, .ref (ad 65)), (1, .int l1), (2, .int l2)] rfl (by decide) rfl ?_
      refine g_iload_n C 29 0 rfl rfl ?_
      refine g_ldc C 30 rfl kcX10_161 ?_
      refine g_icmp_eq C 31 72 rfl rfl h (fun h => ?_) (fun h => ?_)
      · refine g_iinc C 44 3 (l2 + 1) [(2, .int (l2 + 1)), (3, .int v1), (0, .ref (ad 65)), (1, .int l1)] rfl rfl (by decide) rfl rfl ?_
        refine g_goto C 45 24 rfl rfl ?_
        refine g_sub C [2, 3, 0] [(0, .ref (ad 65)), (1, .int l1), (2, .int (l2 + 1))] rfl ?_
        exact ih _ _ h
      · refine g_aload_n C 32 1 rfl rfl ?_
        refine g_iload_n C 33 3 rfl rfl ?_
        refine g_callVi C 34 [.int l2] [] rfl (M_X10_isThing hZ l2) cnX10_121 cwX10_isThing ciX10_isThing (hZ.at (i := 65) rfl) rfl rfl rfl rfl (Nat.le_of_ble_eq_true rfl) ⟨Nat.le_of_ble_eq_true rfl, Nat.le_of_ble_eq_true rfl⟩ h (fun r2 s3 h => ?_)
        refine g_if_eq C 35 70 rfl rfl h (fun h => ?_) (fun h => ?_)
        · refine g_iload_n C 42 3 rfl rfl ?_
          exact g_ireturn C 43 rfl h
        · refine g_iload_n C 36 0 rfl rfl ?_
          refine g_aload_n C 37 1 rfl rfl ?_
          refine g_iload_n C 38 3 rfl rfl ?_
          refine g_iconst (v := 1) C 39 rfl rfl ?_
          refine g_callVi C 40 [.int l2, .int 1] [.int v1] rfl (M_X10_of hZ l2 1) cnX10_92 cwX10_of ciX10_of (hZ.at (i := 65) rfl) rfl rfl rfl rfl (Nat.le_of_ble_eq_true rfl) ⟨Nat.le_of_ble_eq_true rfl, Nat.le_of_ble_eq_true rfl⟩ h (fun r4 s5 h => ?_)
          refine g_icmp_eq C 41 72 rfl rfl h (fun h => ?_) (fun h => ?_)
          · refine g_iinc C 44 3 (l2 + 1) [(2, .int (l2 + 1)), (3, .int v1), (0, .ref (ad 65)), (1, .int l1)] rfl rfl (by decide) rfl rfl ?_
            refine g_goto C 45 24 rfl rfl ?_
            refine g_sub C [2, 3, 0] [(0, .ref (ad 65)), (1, .int l1), (2, .int (l2 + 1))] rfl ?_
            exact ih _ _ h
          · refine g_iload_n C 42 3 rfl rfl ?_
            exact g_ireturn C 43 rfl h
set_option maxRecDepth 20000 in
set_option maxHeartbeats 4000000 in
theorem M_X10_reads {Z : List gH} (hZ : Lay Z) (l1 : Int32) : gMet yX10_reads cX10_reads 4 (some .int) 3 Z (fun ad => [.ref (ad 65), .int l1]) (F_X10_reads Z l1) := by
  refine gMet_intro T_X10_reads T_X10_reads_ok rfl (fun _ => Nat.le_of_ble_eq_true rfl) (fun g ad σ z C h => ?_)
  show g 0 [(0, .ref (ad 65)), (1, .int l1)] [] σ
  rw [F_X10_reads] at h
  refine g_iload_n C 0 1 rfl rfl ?_
  refine g_callSi C 1 [.int l1] [] rfl (M_X10_isSheet hZ l1) cnX10_203 cwX10_isSheet csX10_isSheet rfl rfl rfl (Nat.le_of_ble_eq_true rfl) ⟨Nat.le_of_ble_eq_true rfl, Nat.le_of_ble_eq_true rfl⟩ h (fun r1 s2 h => ?_)
  refine g_if_ne C 2 10 rfl rfl h (fun h => ?_) (fun h => ?_)
  · refine g_aload_n C 5 0 rfl rfl ?_
    refine g_getr (b := 81) C 6 rfl flX10_57 (hZ.at (i := 65) rfl) rfl ?_
    refine g_iload_n C 7 1 rfl rfl ?_
    refine g_iald C 8 rfl (hZ.at (i := 81) rfl) h (fun h => ?_)
    refine g_if_ge C 9 22 rfl rfl h (fun h => ?_) (fun h => ?_)
    · refine g_iconst (v := 0) C 12 rfl rfl ?_
      refine g_istore_n C 13 [(2, .int 0), (0, .ref (ad 65)), (1, .int l1)] rfl (by decide) rfl ?_
      refine g_sub C [1, 2, 0] [(0, .ref (ad 65)), (1, .int l1), (2, .int 0)] rfl ?_
      exact C_F_X10_reads_L24 C hZ _ _ _ _ h
    · refine g_ldc C 10 rfl kcX10_206 ?_
      exact g_ireturn C 11 rfl h
  · refine g_ldc C 3 rfl kcX10_115 ?_
    exact g_ireturn C 4 rfl h
def T_X10_copy : List (Nat × Instr × Nat) := [(0, .iload_n 1, 1), (1, .invokestatic 203, 3), (4, .ifCond .eq 10, 3), (7, .iload_n 3, 1), (8, .invokestatic 203, 3), (11, .ifCond .ne 6, 3), (14, .ldc 115, 2), (16, .ireturn, 1), (17, .aload_n 0, 1), (18, .getfield 57, 3), (21, .iload_n 1, 1), (22, .iaload, 1), (23, .ifCond .lt 12, 3), (26, .aload_n 0, 1), (27, .getfield 57, 3), (30, .iload_n 3, 1), (31, .iaload, 1), (32, .ifCond .ge 6, 3), (35, .ldc 206, 2), (37, .ireturn, 1), (38, .aload_n 0, 1), (39, .getfield 57, 3), (42, .iload_n 1, 1), (43, .iaload, 1), (44, .aload_n 0, 1), (45, .getfield 57, 3), (48, .iload_n 3, 1), (49, .iaload, 1), (50, .if_icmp .eq 6, 3), (53, .ldc 139, 2), (55, .ireturn, 1), (56, .iload_n 2, 1), (57, .ifCond .lt 40, 3), (60, .iload 4, 2), (62, .ifCond .lt 35, 3), (65, .iload 5, 2), (67, .ifCond .lt 30, 3), (70, .iload_n 2, 1), (71, .aload_n 0, 1), (72, .getfield 60, 3), (75, .iload_n 1, 1), (76, .iaload, 1), (77, .iload 5, 2), (79, .isub, 1), (80, .if_icmp .gt 17, 3), (83, .iload 4, 2), (85, .aload_n 0, 1), (86, .getfield 60, 3), (89, .iload_n 3, 1), (90, .iaload, 1), (91, .iload 5, 2), (93, .isub, 1), (94, .if_icmp .le 7, 3), (97, .ldc_w 278, 3), (100, .ireturn, 1), (101, .iconst 0, 1), (102, .istore 6, 2), (104, .iload 6, 2), (106, .iload 5, 2), (108, .if_icmp .ge 30, 3), (111, .aload_n 0, 1), (112, .getfield 78, 3), (115, .iload 6, 2), (117, .aload_n 0, 1), (118, .getfield 63, 3), (121, .bipush 24, 2), (123, .iload_n 1, 1), (124, .imul, 1), (125, .iload_n 2, 1), (126, .iadd, 1), (127, .iload 6, 2), (129, .iadd, 1), (130, .iaload, 1), (131, .iastore, 1), (132, .iinc 6 1, 3), (135, .goto (-31), 3), (138, .iconst 0, 1), (139, .istore 6, 2), (141, .iload 6, 2), (143, .iload 5, 2), (145, .if_icmp .ge 31, 3), (148, .aload_n 0, 1), (149, .getfield 63, 3), (152, .bipush 24, 2), (154, .iload_n 3, 1), (155, .imul, 1), (156, .iload 4, 2), (158, .iadd, 1), (159, .iload 6, 2), (161, .iadd, 1), (162, .aload_n 0, 1), (163, .getfield 78, 3), (166, .iload 6, 2), (168, .iaload, 1), (169, .iastore, 1), (170, .iinc 6 1, 3), (173, .goto (-32), 3), (176, .iload 5, 2), (178, .ireturn, 1)]
theorem T_X10_copy_ok : gTb cX10_copy T_X10_copy = true := by decide +kernel
def F_X10_copy_L141 (Z : List gH) (l3 : Int32) (l4 : Int32) (l5 : Int32) : Nat → Int32 → gS → Option (Int32 × gS)
  | 0, _, _ => none
  | n + 1, l6, σ => if l5 ≤ l6 then some (l5, σ) else mIn 24 l6 (mIn 96 (((24 * l3) + l4) + l6) (mLet (gu σ 83 (nn (((24 * l3) + l4) + l6)) (σ 88 (nn l6))) (fun s1 => F_X10_copy_L141 Z l3 l4 l5 n (l6 + 1) s1)))
def F_X10_copy_L104 (Z : List gH) (l1 : Int32) (l2 : Int32) (l3 : Int32) (l4 : Int32) (l5 : Int32) : Nat → Int32 → gS → Option (Int32 × gS)
  | 0, _, _ => none
  | n + 1, l6, σ => if l5 ≤ l6 then F_X10_copy_L141 Z l3 l4 l5 mFuel 0 σ else mIn 96 (((24 * l1) + l2) + l6) (mIn 24 l6 (mLet (gu σ 88 (nn l6) (σ 83 (nn (((24 * l1) + l2) + l6)))) (fun s1 => F_X10_copy_L104 Z l1 l2 l3 l4 l5 n (l6 + 1) s1)))
def F_X10_copy (Z : List gH) (l1 : Int32) (l2 : Int32) (l3 : Int32) (l4 : Int32) (l5 : Int32) (σ : gS) : Option (Int32 × gS) := mCall (F_X10_isSheet Z l1 σ) (fun r1 s2 => if r1 = 0 then some ((-1000000001), s2) else mCall (F_X10_isSheet Z l3 s2) (fun r3 s4 => if r3 = 0 then some ((-1000000001), s4) else mIn 4 l1 (if (s4 81 (nn l1)) < 0 then some ((-1000000011), s4) else mIn 4 l3 (if 0 ≤ (s4 81 (nn l3)) then mIn 4 l1 (mIn 4 l3 (if (s4 81 (nn l1)) = (s4 81 (nn l3)) then if l2 < 0 then some ((-1000000013), s4) else if l4 < 0 then some ((-1000000013), s4) else if l5 < 0 then some ((-1000000013), s4) else mIn 4 l1 (if ((s4 82 (nn l1)) - l5) < l2 then some ((-1000000013), s4) else mIn 4 l3 (if l4 ≤ ((s4 82 (nn l3)) - l5) then F_X10_copy_L104 Z l1 l2 l3 l4 l5 mFuel 0 s4 else some ((-1000000013), s4))) else some ((-1000000012), s4))) else some ((-1000000011), s4)))))
set_option maxRecDepth 20000 in
set_option maxHeartbeats 4000000 in
theorem C_F_X10_copy_L141 {g : Nat → List (Nat × Value) → List Value → gS → Prop} {Z : List gH} {ad : Nat → Nat} {z : Int32 × gS}  (C : gOk g T_X10_copy RX10 7 (some .int) 3 Z ad z) (hZ : Lay Z) (l3 : Int32) (l4 : Int32) (l5 : Int32) : ∀ (n : Nat) (l6 : Int32) (σ : gS), F_X10_copy_L141 Z l3 l4 l5 n l6 σ = some z → g 141 [(0, .ref (ad 65)), (3, .int l3), (4, .int l4), (5, .int l5), (6, .int l6)] [] σ := by
  intro n
  induction n with
  | zero => intro l6 σ h; cases h
  | succ n ih =>
    intro l6 σ h
    rw [F_X10_copy_L141] at h
    refine g_iload C 78 4 rfl rfl ?_
    refine g_iload C 79 3 rfl rfl ?_
    refine g_icmp_ge C 80 176 rfl rfl h (fun h => ?_) (fun h => ?_)
    · refine g_iload C 97 3 rfl rfl ?_
      exact g_ireturn C 98 rfl h
    · refine g_aload_n C 81 0 rfl rfl ?_
      refine g_getr (b := 83) C 82 rfl flX10_63 (hZ.at (i := 65) rfl) rfl ?_
      refine g_bipush (v := 24) C 83 rfl rfl ?_
      refine g_iload_n C 84 1 rfl rfl ?_
      refine g_imul C 85 rfl ?_
      refine g_iload C 86 2 rfl rfl ?_
      refine g_iadd C 87 rfl ?_
      refine g_iload C 88 4 rfl rfl ?_
      refine g_iadd C 89 rfl ?_
      refine g_aload_n C 90 0 rfl rfl ?_
      refine g_getr (b := 88) C 91 rfl flX10_78 (hZ.at (i := 65) rfl) rfl ?_
      refine g_iload C 92 4 rfl rfl ?_
      refine g_iald C 93 rfl (hZ.at (i := 88) rfl) h (fun h => ?_)
      refine g_iast C 94 rfl (hZ.at (i := 83) rfl) h (fun s1 h => ?_)
      refine g_iinc C 95 4 (l6 + 1) [(6, .int (l6 + 1)), (0, .ref (ad 65)), (3, .int l3), (4, .int l4), (5, .int l5)] rfl rfl (by decide) rfl rfl ?_
      refine g_goto C 96 141 rfl rfl ?_
      refine g_sub C [1, 2, 3, 4, 0] [(0, .ref (ad 65)), (3, .int l3), (4, .int l4), (5, .int l5), (6, .int (l6 + 1))] rfl ?_
      exact ih _ _ h
set_option maxRecDepth 20000 in
set_option maxHeartbeats 4000000 in
theorem C_F_X10_copy_L104 {g : Nat → List (Nat × Value) → List Value → gS → Prop} {Z : List gH} {ad : Nat → Nat} {z : Int32 × gS}  (C : gOk g T_X10_copy RX10 7 (some .int) 3 Z ad z) (hZ : Lay Z) (l1 : Int32) (l2 : Int32) (l3 : Int32) (l4 : Int32) (l5 : Int32) : ∀ (n : Nat) (l6 : Int32) (σ : gS), F_X10_copy_L104 Z l1 l2 l3 l4 l5 n l6 σ = some z → g 104 [(0, .ref (ad 65)), (1, .int l1), (2, .int l2), (3, .int l3), (4, .int l4), (5, .int l5), (6, .int l6)] [] σ := by
  intro n
  induction n with
  | zero => intro l6 σ h; cases h
  | succ n ih =>
    intro l6 σ h
    rw [F_X10_copy_L104] at h
    refine g_iload C 57 6 rfl rfl ?_
    refine g_iload C 58 5 rfl rfl ?_
    refine g_icmp_ge C 59 138 rfl rfl h (fun h => ?_) (fun h => ?_)
    · refine g_iconst (v := 0) C 76 rfl rfl ?_
      refine g_istore C 77 [(6, .int 0), (0, .ref (ad 65)), (1, .int l1), (2, .int l2), (3, .int l3), (4, .int l4), (5, .int l5)] rfl (by decide) rfl ?_
      refine g_sub C [1, 4, 5, 6, 0] [(0, .ref (ad 65)), (3, .int l3), (4, .int l4), (5, .int l5), (6, .int 0)] rfl ?_
      exact C_F_X10_copy_L141 C hZ _ _ _ _ _ _ h
    · refine g_aload_n C 60 0 rfl rfl ?_
      refine g_getr (b := 88) C 61 rfl flX10_78 (hZ.at (i := 65) rfl) rfl ?_
      refine g_iload C 62 6 rfl rfl ?_
      refine g_aload_n C 63 0 rfl rfl ?_
      refine g_getr (b := 83) C 64 rfl flX10_63 (hZ.at (i := 65) rfl) rfl ?_
      refine g_bipush (v := 24) C 65 rfl rfl ?_
      refine g_iload_n C 66 1 rfl rfl ?_
      refine g_imul C 67 rfl ?_
      refine g_iload_n C 68 2 rfl rfl ?_
      refine g_iadd C 69 rfl ?_
      refine g_iload C 70 6 rfl rfl ?_
      refine g_iadd C 71 rfl ?_
      refine g_iald C 72 rfl (hZ.at (i := 83) rfl) h (fun h => ?_)
      refine g_iast C 73 rfl (hZ.at (i := 88) rfl) h (fun s1 h => ?_)
      refine g_iinc C 74 6 (l6 + 1) [(6, .int (l6 + 1)), (0, .ref (ad 65)), (1, .int l1), (2, .int l2), (3, .int l3), (4, .int l4), (5, .int l5)] rfl rfl (by decide) rfl rfl ?_
      refine g_goto C 75 104 rfl rfl ?_
      refine g_sub C [1, 2, 3, 4, 5, 6, 0] [(0, .ref (ad 65)), (1, .int l1), (2, .int l2), (3, .int l3), (4, .int l4), (5, .int l5), (6, .int (l6 + 1))] rfl ?_
      exact ih _ _ h
set_option maxRecDepth 20000 in
set_option maxHeartbeats 4000000 in
theorem M_X10_copy {Z : List gH} (hZ : Lay Z) (l1 : Int32) (l2 : Int32) (l3 : Int32) (l4 : Int32) (l5 : Int32) : gMet yX10_copy cX10_copy 7 (some .int) 3 Z (fun ad => [.ref (ad 65), .int l1, .int l2, .int l3, .int l4, .int l5]) (F_X10_copy Z l1 l2 l3 l4 l5) := by
  refine gMet_intro T_X10_copy T_X10_copy_ok rfl (fun _ => Nat.le_of_ble_eq_true rfl) (fun g ad σ z C h => ?_)
  show g 0 [(0, .ref (ad 65)), (1, .int l1), (2, .int l2), (3, .int l3), (4, .int l4), (5, .int l5)] [] σ
  rw [F_X10_copy] at h
  refine g_iload_n C 0 1 rfl rfl ?_
  refine g_callSi C 1 [.int l1] [] rfl (M_X10_isSheet hZ l1) cnX10_203 cwX10_isSheet csX10_isSheet rfl rfl rfl (Nat.le_of_ble_eq_true rfl) ⟨Nat.le_of_ble_eq_true rfl, Nat.le_of_ble_eq_true rfl⟩ h (fun r1 s2 h => ?_)
  refine g_if_eq C 2 14 rfl rfl h (fun h => ?_) (fun h => ?_)
  · refine g_ldc C 6 rfl kcX10_115 ?_
    exact g_ireturn C 7 rfl h
  · refine g_iload_n C 3 3 rfl rfl ?_
    refine g_callSi C 4 [.int l3] [] rfl (M_X10_isSheet hZ l3) cnX10_203 cwX10_isSheet csX10_isSheet rfl rfl rfl (Nat.le_of_ble_eq_true rfl) ⟨Nat.le_of_ble_eq_true rfl, Nat.le_of_ble_eq_true rfl⟩ h (fun r3 s4 h => ?_)
    refine g_if_ne C 5 17 rfl rfl h (fun h => ?_) (fun h => ?_)
    · refine g_aload_n C 8 0 rfl rfl ?_
      refine g_getr (b := 81) C 9 rfl flX10_57 (hZ.at (i := 65) rfl) rfl ?_
      refine g_iload_n C 10 1 rfl rfl ?_
      refine g_iald C 11 rfl (hZ.at (i := 81) rfl) h (fun h => ?_)
      refine g_if_lt C 12 35 rfl rfl h (fun h => ?_) (fun h => ?_)
      · refine g_ldc C 18 rfl kcX10_206 ?_
        exact g_ireturn C 19 rfl h
      · refine g_aload_n C 13 0 rfl rfl ?_
        refine g_getr (b := 81) C 14 rfl flX10_57 (hZ.at (i := 65) rfl) rfl ?_
        refine g_iload_n C 15 3 rfl rfl ?_
        refine g_iald C 16 rfl (hZ.at (i := 81) rfl) h (fun h => ?_)
        refine g_if_ge C 17 38 rfl rfl h (fun h => ?_) (fun h => ?_)
        · refine g_aload_n C 20 0 rfl rfl ?_
          refine g_getr (b := 81) C 21 rfl flX10_57 (hZ.at (i := 65) rfl) rfl ?_
          refine g_iload_n C 22 1 rfl rfl ?_
          refine g_iald C 23 rfl (hZ.at (i := 81) rfl) h (fun h => ?_)
          refine g_aload_n C 24 0 rfl rfl ?_
          refine g_getr (b := 81) C 25 rfl flX10_57 (hZ.at (i := 65) rfl) rfl ?_
          refine g_iload_n C 26 3 rfl rfl ?_
          refine g_iald C 27 rfl (hZ.at (i := 81) rfl) h (fun h => ?_)
          refine g_icmp_eq C 28 56 rfl rfl h (fun h => ?_) (fun h => ?_)
          · refine g_iload_n C 31 2 rfl rfl ?_
            refine g_if_lt C 32 97 rfl rfl h (fun h => ?_) (fun h => ?_)
            · refine g_ldcw C 53 rfl kcX10_278 ?_
              exact g_ireturn C 54 rfl h
            · refine g_iload C 33 4 rfl rfl ?_
              refine g_if_lt C 34 97 rfl rfl h (fun h => ?_) (fun h => ?_)
              · refine g_ldcw C 53 rfl kcX10_278 ?_
                exact g_ireturn C 54 rfl h
              · refine g_iload C 35 5 rfl rfl ?_
                refine g_if_lt C 36 97 rfl rfl h (fun h => ?_) (fun h => ?_)
                · refine g_ldcw C 53 rfl kcX10_278 ?_
                  exact g_ireturn C 54 rfl h
                · refine g_iload_n C 37 2 rfl rfl ?_
                  refine g_aload_n C 38 0 rfl rfl ?_
                  refine g_getr (b := 82) C 39 rfl flX10_60 (hZ.at (i := 65) rfl) rfl ?_
                  refine g_iload_n C 40 1 rfl rfl ?_
                  refine g_iald C 41 rfl (hZ.at (i := 82) rfl) h (fun h => ?_)
                  refine g_iload C 42 5 rfl rfl ?_
                  refine g_isub C 43 rfl ?_
                  refine g_icmp_gt C 44 97 rfl rfl h (fun h => ?_) (fun h => ?_)
                  · refine g_ldcw C 53 rfl kcX10_278 ?_
                    exact g_ireturn C 54 rfl h
                  · refine g_iload C 45 4 rfl rfl ?_
                    refine g_aload_n C 46 0 rfl rfl ?_
                    refine g_getr (b := 82) C 47 rfl flX10_60 (hZ.at (i := 65) rfl) rfl ?_
                    refine g_iload_n C 48 3 rfl rfl ?_
                    refine g_iald C 49 rfl (hZ.at (i := 82) rfl) h (fun h => ?_)
                    refine g_iload C 50 5 rfl rfl ?_
                    refine g_isub C 51 rfl ?_
                    refine g_icmp_le C 52 101 rfl rfl h (fun h => ?_) (fun h => ?_)
                    · refine g_iconst (v := 0) C 55 rfl rfl ?_
                      refine g_istore C 56 [(6, .int 0), (0, .ref (ad 65)), (1, .int l1), (2, .int l2), (3, .int l3), (4, .int l4), (5, .int l5)] rfl (by decide) rfl ?_
                      refine g_sub C [1, 2, 3, 4, 5, 6, 0] [(0, .ref (ad 65)), (1, .int l1), (2, .int l2), (3, .int l3), (4, .int l4), (5, .int l5), (6, .int 0)] rfl ?_
                      exact C_F_X10_copy_L104 C hZ _ _ _ _ _ _ _ _ h
                    · refine g_ldcw C 53 rfl kcX10_278 ?_
                      exact g_ireturn C 54 rfl h
          · refine g_ldc C 29 rfl kcX10_139 ?_
            exact g_ireturn C 30 rfl h
        · refine g_ldc C 18 rfl kcX10_206 ?_
          exact g_ireturn C 19 rfl h
    · refine g_ldc C 6 rfl kcX10_115 ?_
      exact g_ireturn C 7 rfl h
def T_X10_isSlot : List (Nat × Instr × Nat) := [(0, .iload_n 0, 1), (1, .iconst 0, 1), (2, .iconst 4, 1), (3, .invokestatic 84, 3), (6, .ireturn, 1)]
theorem T_X10_isSlot_ok : gTb cX10_isSlot T_X10_isSlot = true := by decide +kernel
def F_X10_isSlot (Z : List gH) (l0 : Int32) (σ : gS) : Option (Int32 × gS) := mCall (F_X10_in Z l0 0 4 σ) (fun r1 s2 => mZ r1 s2)
set_option maxRecDepth 20000 in
set_option maxHeartbeats 4000000 in
theorem M_X10_isSlot {Z : List gH} (hZ : Lay Z) (l0 : Int32) : gMet yX10_isSlot cX10_isSlot 1 (some .boolean) 2 Z (fun ad => [.int l0]) (F_X10_isSlot Z l0) := by
  refine gMet_intro T_X10_isSlot T_X10_isSlot_ok rfl (fun _ => Nat.le_of_ble_eq_true rfl) (fun g ad σ z C h => ?_)
  show g 0 [(0, .int l0)] [] σ
  rw [F_X10_isSlot] at h
  refine g_iload_n C 0 0 rfl rfl ?_
  refine g_iconst (v := 0) C 1 rfl rfl ?_
  refine g_iconst (v := 4) C 2 rfl rfl ?_
  refine g_callSi C 3 [.int l0, .int 0, .int 4] [] rfl (M_X10_in hZ l0 0 4) cnX10_84 cwX10_in csX10_in rfl rfl rfl (Nat.le_of_ble_eq_true rfl) ⟨Nat.le_of_ble_eq_true rfl, Nat.le_of_ble_eq_true rfl⟩ h (fun r1 s2 h => ?_)
  exact g_zreturn C 4 rfl h
def T_X10_lay : List (Nat × Instr × Nat) := [(0, .iload_n 1, 1), (1, .invokestatic 281, 3), (4, .ifCond .eq 37, 3), (7, .iload_n 2, 1), (8, .iconst 0, 1), (9, .iconst 3, 1), (10, .invokestatic 84, 3), (13, .ifCond .eq 28, 3), (16, .iload_n 2, 1), (17, .iconst 1, 1), (18, .if_icmp .ne 11, 3), (21, .aload_n 0, 1), (22, .iload_n 3, 1), (23, .invokevirtual 121, 3), (26, .ifCond .eq 15, 3), (29, .iload_n 2, 1), (30, .iconst 2, 1), (31, .if_icmp .ne 13, 3), (34, .iload_n 3, 1), (35, .invokestatic 203, 3), (38, .ifCond .ne 6, 3), (41, .ldc 115, 2), (43, .ireturn, 1), (44, .iload_n 2, 1), (45, .iconst 2, 1), (46, .if_icmp .ne 15, 3), (49, .aload_n 0, 1), (50, .getfield 57, 3), (53, .iload_n 3, 1), (54, .iaload, 1), (55, .ifCond .ge 6, 3), (58, .ldc 206, 2), (60, .ireturn, 1), (61, .aload_n 0, 1), (62, .getfield 66, 3), (65, .iload_n 1, 1), (66, .iaload, 1), (67, .istore 4, 2), (69, .aload_n 0, 1), (70, .getfield 66, 3), (73, .iload_n 1, 1), (74, .iload_n 2, 1), (75, .iastore, 1), (76, .aload_n 0, 1), (77, .getfield 69, 3), (80, .iload_n 1, 1), (81, .iload_n 2, 1), (82, .iconst 1, 1), (83, .if_icmp .ne 12, 3), (86, .aload_n 0, 1), (87, .iload_n 3, 1), (88, .iconst 0, 1), (89, .invokevirtual 92, 3), (92, .goto 18, 3), (95, .iload_n 2, 1), (96, .iconst 2, 1), (97, .if_icmp .ne 12, 3), (100, .aload_n 0, 1), (101, .getfield 60, 3), (104, .iload_n 3, 1), (105, .iaload, 1), (106, .goto 4, 3), (109, .iload_n 3, 1), (110, .iastore, 1), (111, .aload_n 0, 1), (112, .getfield 72, 3), (115, .iload_n 1, 1), (116, .iload_n 2, 1), (117, .iconst 1, 1), (118, .if_icmp .ne 11, 3), (121, .aload_n 0, 1), (122, .iload_n 3, 1), (123, .invokevirtual 133, 3), (126, .goto 4, 3), (129, .iconst 0, 1), (130, .iastore, 1), (131, .iconst 0, 1), (132, .istore 5, 2), (134, .iload 5, 2), (136, .bipush 24, 2), (138, .if_icmp .ge 38, 3), (141, .iload_n 2, 1), (142, .iconst 2, 1), (143, .if_icmp .ne 33, 3), (146, .aload_n 0, 1), (147, .getfield 75, 3), (150, .bipush 24, 2), (152, .iload_n 1, 1), (153, .imul, 1), (154, .iload 5, 2), (156, .iadd, 1), (157, .aload_n 0, 1), (158, .getfield 63, 3), (161, .bipush 24, 2), (163, .iload_n 3, 1), (164, .imul, 1), (165, .iload 5, 2), (167, .iadd, 1), (168, .iaload, 1), (169, .iastore, 1), (170, .iinc 5 1, 3), (173, .goto (-39), 3), (176, .iload 4, 2), (178, .ireturn, 1)]
theorem T_X10_lay_ok : gTb cX10_lay T_X10_lay = true := by decide +kernel
def F_X10_lay_L134 (Z : List gH) (l1 : Int32) (l2 : Int32) (l3 : Int32) : Nat → Int32 → Int32 → gS → Option (Int32 × gS)
  | 0, _, _, _ => none
  | n + 1, l4, l5, σ => if 24 ≤ l5 then some (l4, σ) else if l2 = 2 then mIn 96 ((24 * l3) + l5) (mIn 120 ((24 * l1) + l5) (mLet (gu σ 87 (nn ((24 * l1) + l5)) (σ 83 (nn ((24 * l3) + l5)))) (fun s1 => F_X10_lay_L134 Z l1 l2 l3 n l4 (l5 + 1) s1))) else some (l4, σ)
def F_X10_lay_J110 (Z : List gH) (l1 : Int32) (l2 : Int32) (l3 : Int32) (l4 : Int32) (t0 : Int32) (t1 : Int32) (σ : gS) : Option (Int32 × gS) := mIn 5 t1 (mLet (gu σ 85 (nn t1) t0) (fun s1 => if l2 = 1 then mCall (F_X10_worthOf Z l3 s1) (fun r3 s4 => mIn 5 l1 (mLet (gu s4 86 (nn l1) r3) (fun s5 => F_X10_lay_L134 Z l1 l2 l3 mFuel l4 0 s5))) else mIn 5 l1 (mLet (gu s1 86 (nn l1) 0) (fun s2 => F_X10_lay_L134 Z l1 l2 l3 mFuel l4 0 s2))))
def F_X10_lay_J61 (Z : List gH) (l1 : Int32) (l2 : Int32) (l3 : Int32) (σ : gS) : Option (Int32 × gS) := mIn 5 l1 (mLet ((σ 84 (nn l1))) (fun v1 => mIn 5 l1 (mLet (gu σ 84 (nn l1) l2) (fun s2 => if l2 = 1 then mCall (F_X10_of Z l3 0 s2) (fun r3 s4 => F_X10_lay_J110 Z l1 l2 l3 v1 r3 l1 s4) else if l2 = 2 then mIn 4 l3 (F_X10_lay_J110 Z l1 l2 l3 v1 (s2 82 (nn l3)) l1 s2) else F_X10_lay_J110 Z l1 l2 l3 v1 l3 l1 s2))))
def F_X10_lay_J29 (Z : List gH) (l1 : Int32) (l2 : Int32) (l3 : Int32) (σ : gS) : Option (Int32 × gS) := if l2 = 2 then mCall (F_X10_isSheet Z l3 σ) (fun r1 s2 => if r1 = 0 then some ((-1000000001), s2) else if l2 = 2 then mIn 4 l3 (if 0 ≤ (s2 81 (nn l3)) then F_X10_lay_J61 Z l1 l2 l3 s2 else some ((-1000000011), s2)) else F_X10_lay_J61 Z l1 l2 l3 s2) else if l2 = 2 then mIn 4 l3 (if 0 ≤ (σ 81 (nn l3)) then F_X10_lay_J61 Z l1 l2 l3 σ else some ((-1000000011), σ)) else F_X10_lay_J61 Z l1 l2 l3 σ
def F_X10_lay (Z : List gH) (l1 : Int32) (l2 : Int32) (l3 : Int32) (σ : gS) : Option (Int32 × gS) := mCall (F_X10_isSlot Z l1 σ) (fun r1 s2 => if r1 = 0 then some ((-1000000001), s2) else mCall (F_X10_in Z l2 0 3 s2) (fun r3 s4 => if r3 = 0 then some ((-1000000001), s4) else if l2 = 1 then mCall (F_X10_isThing Z l3 s4) (fun r5 s6 => if r5 = 0 then some ((-1000000001), s6) else F_X10_lay_J29 Z l1 l2 l3 s6) else F_X10_lay_J29 Z l1 l2 l3 s4))
set_option maxRecDepth 20000 in
set_option maxHeartbeats 4000000 in
theorem C_F_X10_lay_L134 {g : Nat → List (Nat × Value) → List Value → gS → Prop} {Z : List gH} {ad : Nat → Nat} {z : Int32 × gS}  (C : gOk g T_X10_lay RX10 6 (some .int) 3 Z ad z) (hZ : Lay Z) (l1 : Int32) (l2 : Int32) (l3 : Int32) : ∀ (n : Nat) (l4 : Int32) (l5 : Int32) (σ : gS), F_X10_lay_L134 Z l1 l2 l3 n l4 l5 σ = some z → g 134 [(0, .ref (ad 65)), (1, .int l1), (2, .int l2), (3, .int l3), (4, .int l4), (5, .int l5)] [] σ := by
  intro n
  induction n with
  | zero => intro l4 l5 σ h; cases h
  | succ n ih =>
    intro l4 l5 σ h
    rw [F_X10_lay_L134] at h
    refine g_iload C 78 5 rfl rfl ?_
    refine g_bipush (v := 24) C 79 rfl rfl ?_
    refine g_icmp_ge C 80 176 rfl rfl h (fun h => ?_) (fun h => ?_)
    · refine g_iload C 102 4 rfl rfl ?_
      exact g_ireturn C 103 rfl h
    · refine g_iload_n C 81 2 rfl rfl ?_
      refine g_iconst (v := 2) C 82 rfl rfl ?_
      refine g_icmp_ne C 83 176 rfl rfl h (fun h => ?_) (fun h => ?_)
      · refine g_iload C 102 4 rfl rfl ?_
        exact g_ireturn C 103 rfl h
      · refine g_aload_n C 84 0 rfl rfl ?_
        refine g_getr (b := 87) C 85 rfl flX10_75 (hZ.at (i := 65) rfl) rfl ?_
        refine g_bipush (v := 24) C 86 rfl rfl ?_
        refine g_iload_n C 87 1 rfl rfl ?_
        refine g_imul C 88 rfl ?_
        refine g_iload C 89 5 rfl rfl ?_
        refine g_iadd C 90 rfl ?_
        refine g_aload_n C 91 0 rfl rfl ?_
        refine g_getr (b := 83) C 92 rfl flX10_63 (hZ.at (i := 65) rfl) rfl ?_
        refine g_bipush (v := 24) C 93 rfl rfl ?_
        refine g_iload_n C 94 3 rfl rfl ?_
        refine g_imul C 95 rfl ?_
        refine g_iload C 96 5 rfl rfl ?_
        refine g_iadd C 97 rfl ?_
        refine g_iald C 98 rfl (hZ.at (i := 83) rfl) h (fun h => ?_)
        refine g_iast C 99 rfl (hZ.at (i := 87) rfl) h (fun s1 h => ?_)
        refine g_iinc C 100 5 (l5 + 1) [(5, .int (l5 + 1)), (0, .ref (ad 65)), (1, .int l1), (2, .int l2), (3, .int l3), (4, .int l4)] rfl rfl (by decide) rfl rfl ?_
        refine g_goto C 101 134 rfl rfl ?_
        refine g_sub C [1, 2, 3, 4, 5, 0] [(0, .ref (ad 65)), (1, .int l1), (2, .int l2), (3, .int l3), (4, .int l4), (5, .int (l5 + 1))] rfl ?_
        exact ih _ _ _ h
set_option maxRecDepth 20000 in
set_option maxHeartbeats 4000000 in
theorem C_F_X10_lay_J110 {g : Nat → List (Nat × Value) → List Value → gS → Prop} {Z : List gH} {ad : Nat → Nat} {z : Int32 × gS}  (C : gOk g T_X10_lay RX10 6 (some .int) 3 Z ad z) (hZ : Lay Z) (l1 : Int32) (l2 : Int32) (l3 : Int32) (l4 : Int32) (t0 : Int32) (t1 : Int32) (σ : gS) (h : F_X10_lay_J110 Z l1 l2 l3 l4 t0 t1 σ = some z) : g 110 [(0, .ref (ad 65)), (1, .int l1), (2, .int l2), (3, .int l3), (4, .int l4)] [.int t0, .int t1, .ref (ad 85)] σ := by
  rw [F_X10_lay_J110] at h
  refine g_iast C 63 rfl (hZ.at (i := 85) rfl) h (fun s1 h => ?_)
  refine g_aload_n C 64 0 rfl rfl ?_
  refine g_getr (b := 86) C 65 rfl flX10_72 (hZ.at (i := 65) rfl) rfl ?_
  refine g_iload_n C 66 1 rfl rfl ?_
  refine g_iload_n C 67 2 rfl rfl ?_
  refine g_iconst (v := 1) C 68 rfl rfl ?_
  refine g_icmp_ne C 69 129 rfl rfl h (fun h => ?_) (fun h => ?_)
  · refine g_iconst (v := 0) C 74 rfl rfl ?_
    refine g_iast C 75 rfl (hZ.at (i := 86) rfl) h (fun s2 h => ?_)
    refine g_iconst (v := 0) C 76 rfl rfl ?_
    refine g_istore C 77 [(5, .int 0), (0, .ref (ad 65)), (1, .int l1), (2, .int l2), (3, .int l3), (4, .int l4)] rfl (by decide) rfl ?_
    refine g_sub C [1, 2, 3, 4, 5, 0] [(0, .ref (ad 65)), (1, .int l1), (2, .int l2), (3, .int l3), (4, .int l4), (5, .int 0)] rfl ?_
    exact C_F_X10_lay_L134 C hZ _ _ _ _ _ _ _ h
  · refine g_aload_n C 70 0 rfl rfl ?_
    refine g_iload_n C 71 3 rfl rfl ?_
    refine g_callVi C 72 [.int l3] [.int l1, .ref (ad 86)] rfl (M_X10_worthOf hZ l3) cnX10_133 cwX10_worthOf ciX10_worthOf (hZ.at (i := 65) rfl) rfl rfl rfl rfl (Nat.le_of_ble_eq_true rfl) ⟨Nat.le_of_ble_eq_true rfl, Nat.le_of_ble_eq_true rfl⟩ h (fun r3 s4 h => ?_)
    refine g_goto C 73 130 rfl rfl ?_
    refine g_iast C 75 rfl (hZ.at (i := 86) rfl) h (fun s5 h => ?_)
    refine g_iconst (v := 0) C 76 rfl rfl ?_
    refine g_istore C 77 [(5, .int 0), (0, .ref (ad 65)), (1, .int l1), (2, .int l2), (3, .int l3), (4, .int l4)] rfl (by decide) rfl ?_
    refine g_sub C [1, 2, 3, 4, 5, 0] [(0, .ref (ad 65)), (1, .int l1), (2, .int l2), (3, .int l3), (4, .int l4), (5, .int 0)] rfl ?_
    exact C_F_X10_lay_L134 C hZ _ _ _ _ _ _ _ h
set_option maxRecDepth 20000 in
set_option maxHeartbeats 4000000 in
theorem C_F_X10_lay_J61 {g : Nat → List (Nat × Value) → List Value → gS → Prop} {Z : List gH} {ad : Nat → Nat} {z : Int32 × gS}  (C : gOk g T_X10_lay RX10 6 (some .int) 3 Z ad z) (hZ : Lay Z) (l1 : Int32) (l2 : Int32) (l3 : Int32) (σ : gS) (h : F_X10_lay_J61 Z l1 l2 l3  σ = some z) : g 61 [(0, .ref (ad 65)), (1, .int l1), (2, .int l2), (3, .int l3)] [] σ := by
  rw [F_X10_lay_J61] at h
  refine g_aload_n C 33 0 rfl rfl ?_
  refine g_getr (b := 84) C 34 rfl flX10_66 (hZ.at (i := 65) rfl) rfl ?_
  refine g_iload_n C 35 1 rfl rfl ?_
  refine g_iald C 36 rfl (hZ.at (i := 84) rfl) h (fun h => ?_)
  refine g_let h (fun v1 h => ?_)
  refine g_istore C 37 [(4, .int v1), (0, .ref (ad 65)), (1, .int l1), (2, .int l2), (3, .int l3)] rfl (by decide) rfl ?_
  refine g_aload_n C 38 1 rfl rfl ?_
  refine g_getr (b := 84) C 39 rfl flX10_66 (hZ.at (i := 65) rfl) rfl ?_
  refine g_iload_n C 40 2 rfl rfl ?_
  refine g_iload_n C 41 3 rfl rfl ?_
  refine g_iast C 42 rfl (hZ.at (i := 84) rfl) h (fun s2 h => ?_)
  refine g_aload_n C 43 1 rfl rfl ?_
  refine g_getr (b := 85) C 44 rfl flX10_69 (hZ.at (i := 65) rfl) rfl ?_
  refine g_iload_n C 45 2 rfl rfl ?_
  refine g_iload_n C 46 3 rfl rfl ?_
  refine g_iconst (v := 1) C 47 rfl rfl ?_
  refine g_icmp_ne C 48 95 rfl rfl h (fun h => ?_) (fun h => ?_)
  · refine g_iload_n C 54 3 rfl rfl ?_
    refine g_iconst (v := 2) C 55 rfl rfl ?_
    refine g_icmp_ne C 56 109 rfl rfl h (fun h => ?_) (fun h => ?_)
    · refine g_iload_n C 62 4 rfl rfl ?_
      refine g_sub C [1, 2, 3, 4, 0] [(0, .ref (ad 65)), (1, .int l1), (2, .int l2), (3, .int l3), (4, .int v1)] rfl ?_
      exact C_F_X10_lay_J110 C hZ _ _ _ _ _ _ _ h
    · refine g_aload_n C 57 1 rfl rfl ?_
      refine g_getr (b := 82) C 58 rfl flX10_60 (hZ.at (i := 65) rfl) rfl ?_
      refine g_iload_n C 59 4 rfl rfl ?_
      refine g_iald C 60 rfl (hZ.at (i := 82) rfl) h (fun h => ?_)
      refine g_goto C 61 110 rfl rfl ?_
      refine g_sub C [1, 2, 3, 4, 0] [(0, .ref (ad 65)), (1, .int l1), (2, .int l2), (3, .int l3), (4, .int v1)] rfl ?_
      exact C_F_X10_lay_J110 C hZ _ _ _ _ _ _ _ h
  · refine g_aload_n C 49 1 rfl rfl ?_
    refine g_iload_n C 50 4 rfl rfl ?_
    refine g_iconst (v := 0) C 51 rfl rfl ?_
    refine g_callVi C 52 [.int l3, .int 0] [.int l1, .ref (ad 85)] rfl (M_X10_of hZ l3 0) cnX10_92 cwX10_of ciX10_of (hZ.at (i := 65) rfl) rfl rfl rfl rfl (Nat.le_of_ble_eq_true rfl) ⟨Nat.le_of_ble_eq_true rfl, Nat.le_of_ble_eq_true rfl⟩ h (fun r3 s4 h => ?_)
    refine g_goto C 53 110 rfl rfl ?_
    refine g_sub C [1, 2, 3, 4, 0] [(0, .ref (ad 65)), (1, .int l1), (2, .int l2), (3, .int l3), (4, .int v1)] rfl ?_
    exact C_F_X10_lay_J110 C hZ _ _ _ _ _ _ _ h
set_option maxRecDepth 20000 in
set_option maxHeartbeats 4000000 in
theorem C_F_X10_lay_J29 {g : Nat → List (Nat × Value) → List Value → gS → Prop} {Z : List gH} {ad : Nat → Nat} {z : Int32 × gS}  (C : gOk g T_X10_lay RX10 6 (some .int) 3 Z ad z) (hZ : Lay Z) (l1 : Int32) (l2 : Int32) (l3 : Int32) (σ : gS) (h : F_X10_lay_J29 Z l1 l2 l3  σ = some z) : g 29 [(0, .ref (ad 65)), (1, .int l1), (2, .int l2), (3, .int l3)] [] σ := by
  rw [F_X10_lay_J29] at h
  refine g_iload_n C 15 2 rfl rfl ?_
  refine g_iconst (v := 2) C 16 rfl rfl ?_
  refine g_icmp_ne C 17 44 rfl rfl h (fun h => ?_) (fun h => ?_)
  · refine g_iload_n C 23 2 rfl rfl ?_
    refine g_iconst (v := 2) C 24 rfl rfl ?_
    refine g_icmp_ne C 25 61 rfl rfl h (fun h => ?_) (fun h => ?_)
    · exact C_F_X10_lay_J61 C hZ _ _ _ _ h
    · refine g_aload_n C 26 0 rfl rfl ?_
      refine g_getr (b := 81) C 27 rfl flX10_57 (hZ.at (i := 65) rfl) rfl ?_
      refine g_iload_n C 28 3 rfl rfl ?_
      refine g_iald C 29 rfl (hZ.at (i := 81) rfl) h (fun h => ?_)
      refine g_if_ge C 30 61 rfl rfl h (fun h => ?_) (fun h => ?_)
      · exact C_F_X10_lay_J61 C hZ _ _ _ _ h
      · refine g_ldc C 31 rfl kcX10_206 ?_
        exact g_ireturn C 32 rfl h
  · refine g_iload_n C 18 3 rfl rfl ?_
    refine g_callSi C 19 [.int l3] [] rfl (M_X10_isSheet hZ l3) cnX10_203 cwX10_isSheet csX10_isSheet rfl rfl rfl (Nat.le_of_ble_eq_true rfl) ⟨Nat.le_of_ble_eq_true rfl, Nat.le_of_ble_eq_true rfl⟩ h (fun r1 s2 h => ?_)
    refine g_if_ne C 20 44 rfl rfl h (fun h => ?_) (fun h => ?_)
    · refine g_iload_n C 23 2 rfl rfl ?_
      refine g_iconst (v := 2) C 24 rfl rfl ?_
      refine g_icmp_ne C 25 61 rfl rfl h (fun h => ?_) (fun h => ?_)
      · exact C_F_X10_lay_J61 C hZ _ _ _ _ h
      · refine g_aload_n C 26 0 rfl rfl ?_
        refine g_getr (b := 81) C 27 rfl flX10_57 (hZ.at (i := 65) rfl) rfl ?_
        refine g_iload_n C 28 3 rfl rfl ?_
        refine g_iald C 29 rfl (hZ.at (i := 81) rfl) h (fun h => ?_)
        refine g_if_ge C 30 61 rfl rfl h (fun h => ?_) (fun h => ?_)
        · exact C_F_X10_lay_J61 C hZ _ _ _ _ h
        · refine g_ldc C 31 rfl kcX10_206 ?_
          exact g_ireturn C 32 rfl h
    · refine g_ldc C 21 rfl kcX10_115 ?_
      exact g_ireturn C 22 rfl h
set_option maxRecDepth 20000 in
set_option maxHeartbeats 4000000 in
theorem M_X10_lay {Z : List gH} (hZ : Lay Z) (l1 : Int32) (l2 : Int32) (l3 : Int32) : gMet yX10_lay cX10_lay 6 (some .int) 3 Z (fun ad => [.ref (ad 65), .int l1, .int l2, .int l3]) (F_X10_lay Z l1 l2 l3) := by
  refine gMet_intro T_X10_lay T_X10_lay_ok rfl (fun _ => Nat.le_of_ble_eq_true rfl) (fun g ad σ z C h => ?_)
  show g 0 [(0, .ref (ad 65)), (1, .int l1), (2, .int l2), (3, .int l3)] [] σ
  rw [F_X10_lay] at h
  refine g_iload_n C 0 1 rfl rfl ?_
  refine g_callSi C 1 [.int l1] [] rfl (M_X10_isSlot hZ l1) cnX10_281 cwX10_isSlot csX10_isSlot rfl rfl rfl (Nat.le_of_ble_eq_true rfl) ⟨Nat.le_of_ble_eq_true rfl, Nat.le_of_ble_eq_true rfl⟩ h (fun r1 s2 h => ?_)
  refine g_if_eq C 2 41 rfl rfl h (fun h => ?_) (fun h => ?_)
  · refine g_ldc C 21 rfl kcX10_115 ?_
    exact g_ireturn C 22 rfl h
  · refine g_iload_n C 3 2 rfl rfl ?_
    refine g_iconst (v := 0) C 4 rfl rfl ?_
    refine g_iconst (v := 3) C 5 rfl rfl ?_
    refine g_callSi C 6 [.int l2, .int 0, .int 3] [] rfl (M_X10_in hZ l2 0 3) cnX10_84 cwX10_in csX10_in rfl rfl rfl (Nat.le_of_ble_eq_true rfl) ⟨Nat.le_of_ble_eq_true rfl, Nat.le_of_ble_eq_true rfl⟩ h (fun r3 s4 h => ?_)
    refine g_if_eq C 7 41 rfl rfl h (fun h => ?_) (fun h => ?_)
    · refine g_ldc C 21 rfl kcX10_115 ?_
      exact g_ireturn C 22 rfl h
    · refine g_iload_n C 8 2 rfl rfl ?_
      refine g_iconst (v := 1) C 9 rfl rfl ?_
      refine g_icmp_ne C 10 29 rfl rfl h (fun h => ?_) (fun h => ?_)
      · exact C_F_X10_lay_J29 C hZ _ _ _ _ h
      · refine g_aload_n C 11 0 rfl rfl ?_
        refine g_iload_n C 12 3 rfl rfl ?_
        refine g_callVi C 13 [.int l3] [] rfl (M_X10_isThing hZ l3) cnX10_121 cwX10_isThing ciX10_isThing (hZ.at (i := 65) rfl) rfl rfl rfl rfl (Nat.le_of_ble_eq_true rfl) ⟨Nat.le_of_ble_eq_true rfl, Nat.le_of_ble_eq_true rfl⟩ h (fun r5 s6 h => ?_)
        refine g_if_eq C 14 41 rfl rfl h (fun h => ?_) (fun h => ?_)
        · refine g_ldc C 21 rfl kcX10_115 ?_
          exact g_ireturn C 22 rfl h
        · exact C_F_X10_lay_J29 C hZ _ _ _ _ h
def T_X10_ask : List (Nat × Instr × Nat) := [(0, .iload_n 1, 1), (1, .invokestatic 281, 3), (4, .ifCond .eq 12, 3), (7, .iload_n 2, 1), (8, .iconst 0, 1), (9, .iconst 5, 1), (10, .invokestatic 84, 3), (13, .ifCond .ne 6, 3), (16, .ldc 115, 2), (18, .ireturn, 1), (19, .aload_n 0, 1), (20, .getfield 66, 3), (23, .iload_n 1, 1), (24, .iaload, 1), (25, .ifCond .ne 6, 3), (28, .ldc 206, 2), (30, .ireturn, 1), (31, .aload_n 0, 1), (32, .getfield 66, 3), (35, .iload_n 1, 1), (36, .iaload, 1), (37, .iconst 1, 1), (38, .if_icmp .ne 25, 3), (41, .aload_n 0, 1), (42, .getfield 69, 3), (45, .iload_n 1, 1), (46, .iaload, 1), (47, .iload_n 2, 1), (48, .invokestatic 136, 3), (51, .ifCond .eq 12, 3), (54, .aload_n 0, 1), (55, .getfield 72, 3), (58, .iload_n 1, 1), (59, .iaload, 1), (60, .goto 5, 3), (63, .ldc 139, 2), (65, .ireturn, 1)]
theorem T_X10_ask_ok : gTb cX10_ask T_X10_ask = true := by decide +kernel
def F_X10_ask (Z : List gH) (l1 : Int32) (l2 : Int32) (σ : gS) : Option (Int32 × gS) := mCall (F_X10_isSlot Z l1 σ) (fun r1 s2 => if r1 = 0 then some ((-1000000001), s2) else mCall (F_X10_in Z l2 0 5 s2) (fun r3 s4 => if r3 = 0 then some ((-1000000001), s4) else mIn 5 l1 (if (s4 84 (nn l1)) = 0 then some ((-1000000011), s4) else mIn 5 l1 (if (s4 84 (nn l1)) = 1 then mIn 5 l1 (mCall (F_X10_isUnder Z (s4 85 (nn l1)) l2 s4) (fun r5 s6 => if r5 = 0 then some ((-1000000012), s6) else mIn 5 l1 (some ((s6 86 (nn l1)), s6)))) else some ((-1000000012), s4)))))
set_option maxRecDepth 20000 in
set_option maxHeartbeats 4000000 in
theorem M_X10_ask {Z : List gH} (hZ : Lay Z) (l1 : Int32) (l2 : Int32) : gMet yX10_ask cX10_ask 3 (some .int) 3 Z (fun ad => [.ref (ad 65), .int l1, .int l2]) (F_X10_ask Z l1 l2) := by
  refine gMet_intro T_X10_ask T_X10_ask_ok rfl (fun _ => Nat.le_of_ble_eq_true rfl) (fun g ad σ z C h => ?_)
  show g 0 [(0, .ref (ad 65)), (1, .int l1), (2, .int l2)] [] σ
  rw [F_X10_ask] at h
  refine g_iload_n C 0 1 rfl rfl ?_
  refine g_callSi C 1 [.int l1] [] rfl (M_X10_isSlot hZ l1) cnX10_281 cwX10_isSlot csX10_isSlot rfl rfl rfl (Nat.le_of_ble_eq_true rfl) ⟨Nat.le_of_ble_eq_true rfl, Nat.le_of_ble_eq_true rfl⟩ h (fun r1 s2 h => ?_)
  refine g_if_eq C 2 16 rfl rfl h (fun h => ?_) (fun h => ?_)
  · refine g_ldc C 8 rfl kcX10_115 ?_
    exact g_ireturn C 9 rfl h
  · refine g_iload_n C 3 2 rfl rfl ?_
    refine g_iconst (v := 0) C 4 rfl rfl ?_
    refine g_iconst (v := 5) C 5 rfl rfl ?_
    refine g_callSi C 6 [.int l2, .int 0, .int 5] [] rfl (M_X10_in hZ l2 0 5) cnX10_84 cwX10_in csX10_in rfl rfl rfl (Nat.le_of_ble_eq_true rfl) ⟨Nat.le_of_ble_eq_true rfl, Nat.le_of_ble_eq_true rfl⟩ h (fun r3 s4 h => ?_)
    refine g_if_ne C 7 19 rfl rfl h (fun h => ?_) (fun h => ?_)
    · refine g_aload_n C 10 0 rfl rfl ?_
      refine g_getr (b := 84) C 11 rfl flX10_66 (hZ.at (i := 65) rfl) rfl ?_
      refine g_iload_n C 12 1 rfl rfl ?_
      refine g_iald C 13 rfl (hZ.at (i := 84) rfl) h (fun h => ?_)
      refine g_if_ne C 14 31 rfl rfl h (fun h => ?_) (fun h => ?_)
      · refine g_aload_n C 17 0 rfl rfl ?_
        refine g_getr (b := 84) C 18 rfl flX10_66 (hZ.at (i := 65) rfl) rfl ?_
        refine g_iload_n C 19 1 rfl rfl ?_
        refine g_iald C 20 rfl (hZ.at (i := 84) rfl) h (fun h => ?_)
        refine g_iconst (v := 1) C 21 rfl rfl ?_
        refine g_icmp_ne C 22 63 rfl rfl h (fun h => ?_) (fun h => ?_)
        · refine g_ldc C 35 rfl kcX10_139 ?_
          exact g_ireturn C 36 rfl h
        · refine g_aload_n C 23 0 rfl rfl ?_
          refine g_getr (b := 85) C 24 rfl flX10_69 (hZ.at (i := 65) rfl) rfl ?_
          refine g_iload_n C 25 1 rfl rfl ?_
          refine g_iald C 26 rfl (hZ.at (i := 85) rfl) h (fun h => ?_)
          refine g_iload_n C 27 2 rfl rfl ?_
          refine g_callSi C 28 [.int (s4 85 (nn l1)), .int l2] [] rfl (M_X10_isUnder hZ (s4 85 (nn l1)) l2) cnX10_136 cwX10_isUnder csX10_isUnder rfl rfl rfl (Nat.le_of_ble_eq_true rfl) ⟨Nat.le_of_ble_eq_true rfl, Nat.le_of_ble_eq_true rfl⟩ h (fun r5 s6 h => ?_)
          refine g_if_eq C 29 63 rfl rfl h (fun h => ?_) (fun h => ?_)
          · refine g_ldc C 35 rfl kcX10_139 ?_
            exact g_ireturn C 36 rfl h
          · refine g_aload_n C 30 0 rfl rfl ?_
            refine g_getr (b := 86) C 31 rfl flX10_72 (hZ.at (i := 65) rfl) rfl ?_
            refine g_iload_n C 32 1 rfl rfl ?_
            refine g_iald C 33 rfl (hZ.at (i := 86) rfl) h (fun h => ?_)
            refine g_goto C 34 65 rfl rfl ?_
            exact g_ireturn C 36 rfl h
      · refine g_ldc C 15 rfl kcX10_206 ?_
        exact g_ireturn C 16 rfl h
    · refine g_ldc C 8 rfl kcX10_115 ?_
      exact g_ireturn C 9 rfl h
def T_X10_item : List (Nat × Instr × Nat) := [(0, .iload_n 1, 1), (1, .invokestatic 281, 3), (4, .ifCond .ne 6, 3), (7, .ldc 115, 2), (9, .ireturn, 1), (10, .aload_n 0, 1), (11, .getfield 66, 3), (14, .iload_n 1, 1), (15, .iaload, 1), (16, .ifCond .ne 6, 3), (19, .ldc 206, 2), (21, .ireturn, 1), (22, .aload_n 0, 1), (23, .getfield 66, 3), (26, .iload_n 1, 1), (27, .iaload, 1), (28, .iconst 2, 1), (29, .if_icmp .eq 6, 3), (32, .ldc 139, 2), (34, .ireturn, 1), (35, .iload_n 2, 1), (36, .iconst 0, 1), (37, .aload_n 0, 1), (38, .getfield 69, 3), (41, .iload_n 1, 1), (42, .iaload, 1), (43, .iconst 1, 1), (44, .isub, 1), (45, .invokestatic 84, 3), (48, .ifCond .ne 7, 3), (51, .ldc_w 278, 3), (54, .ireturn, 1), (55, .aload_n 0, 1), (56, .getfield 75, 3), (59, .bipush 24, 2), (61, .iload_n 1, 1), (62, .imul, 1), (63, .iload_n 2, 1), (64, .iadd, 1), (65, .iaload, 1), (66, .istore_n 3, 1), (67, .iload_n 3, 1), (68, .ldc 161, 2), (70, .if_icmp .ne 8, 3), (73, .ldc 139, 2), (75, .goto 4, 3), (78, .iload_n 3, 1), (79, .ireturn, 1)]
theorem T_X10_item_ok : gTb cX10_item T_X10_item = true := by decide +kernel
def F_X10_item (Z : List gH) (l1 : Int32) (l2 : Int32) (σ : gS) : Option (Int32 × gS) := mCall (F_X10_isSlot Z l1 σ) (fun r1 s2 => if r1 = 0 then some ((-1000000001), s2) else mIn 5 l1 (if (s2 84 (nn l1)) = 0 then some ((-1000000011), s2) else mIn 5 l1 (if (s2 84 (nn l1)) = 2 then mIn 5 l1 (mCall (F_X10_in Z l2 0 ((s2 85 (nn l1)) - 1) s2) (fun r3 s4 => if r3 = 0 then some ((-1000000013), s4) else mIn 120 ((24 * l1) + l2) (mLet ((s4 87 (nn ((24 * l1) + l2)))) (fun v5 => if v5 = (-1000000005) then some ((-1000000012), s4) else some (v5, s4))))) else some ((-1000000012), s2))))
set_option maxRecDepth 20000 in
set_option maxHeartbeats 4000000 in
theorem M_X10_item {Z : List gH} (hZ : Lay Z) (l1 : Int32) (l2 : Int32) : gMet yX10_item cX10_item 4 (some .int) 3 Z (fun ad => [.ref (ad 65), .int l1, .int l2]) (F_X10_item Z l1 l2) := by
  refine gMet_intro T_X10_item T_X10_item_ok rfl (fun _ => Nat.le_of_ble_eq_true rfl) (fun g ad σ z C h => ?_)
  show g 0 [(0, .ref (ad 65)), (1, .int l1), (2, .int l2)] [] σ
  rw [F_X10_item] at h
  refine g_iload_n C 0 1 rfl rfl ?_
  refine g_callSi C 1 [.int l1] [] rfl (M_X10_isSlot hZ l1) cnX10_281 cwX10_isSlot csX10_isSlot rfl rfl rfl (Nat.le_of_ble_eq_true rfl) ⟨Nat.le_of_ble_eq_true rfl, Nat.le_of_ble_eq_true rfl⟩ h (fun r1 s2 h => ?_)
  refine g_if_ne C 2 10 rfl rfl h (fun h => ?_) (fun h => ?_)
  · refine g_aload_n C 5 0 rfl rfl ?_
    refine g_getr (b := 84) C 6 rfl flX10_66 (hZ.at (i := 65) rfl) rfl ?_
    refine g_iload_n C 7 1 rfl rfl ?_
    refine g_iald C 8 rfl (hZ.at (i := 84) rfl) h (fun h => ?_)
    refine g_if_ne C 9 22 rfl rfl h (fun h => ?_) (fun h => ?_)
    · refine g_aload_n C 12 0 rfl rfl ?_
      refine g_getr (b := 84) C 13 rfl flX10_66 (hZ.at (i := 65) rfl) rfl ?_
      refine g_iload_n C 14 1 rfl rfl ?_
      refine g_iald C 15 rfl (hZ.at (i := 84) rfl) h (fun h => ?_)
      refine g_iconst (v := 2) C 16 rfl rfl ?_
      refine g_icmp_eq C 17 35 rfl rfl h (fun h => ?_) (fun h => ?_)
      · refine g_iload_n C 20 2 rfl rfl ?_
        refine g_iconst (v := 0) C 21 rfl rfl ?_
        refine g_aload_n C 22 0 rfl rfl ?_
        refine g_getr (b := 85) C 23 rfl flX10_69 (hZ.at (i := 65) rfl) rfl ?_
        refine g_iload_n C 24 1 rfl rfl ?_
        refine g_iald C 25 rfl (hZ.at (i := 85) rfl) h (fun h => ?_)
        refine g_iconst (v := 1) C 26 rfl rfl ?_
        refine g_isub C 27 rfl ?_
        refine g_callSi C 28 [.int l2, .int 0, .int ((s2 85 (nn l1)) - 1)] [] rfl (M_X10_in hZ l2 0 ((s2 85 (nn l1)) - 1)) cnX10_84 cwX10_in csX10_in rfl rfl rfl (Nat.le_of_ble_eq_true rfl) ⟨Nat.le_of_ble_eq_true rfl, Nat.le_of_ble_eq_true rfl⟩ h (fun r3 s4 h => ?_)
        refine g_if_ne C 29 55 rfl rfl h (fun h => ?_) (fun h => ?_)
        · refine g_aload_n C 32 0 rfl rfl ?_
          refine g_getr (b := 87) C 33 rfl flX10_75 (hZ.at (i := 65) rfl) rfl ?_
          refine g_bipush (v := 24) C 34 rfl rfl ?_
          refine g_iload_n C 35 1 rfl rfl ?_
          refine g_imul C 36 rfl ?_
          refine g_iload_n C 37 2 rfl rfl ?_
          refine g_iadd C 38 rfl ?_
          refine g_iald C 39 rfl (hZ.at (i := 87) rfl) h (fun h => ?_)
          refine g_let h (fun v5 h => ?_)
          refine g_istore_n C 40 [(3, .int v5), (0, .ref (ad 65)), (1, .int l1), (2, .int l2)] rfl (by decide) rfl ?_
          refine g_iload_n C 41 0 rfl rfl ?_
          refine g_ldc C 42 rfl kcX10_161 ?_
          refine g_icmp_ne C 43 78 rfl rfl h (fun h => ?_) (fun h => ?_)
          · refine g_iload_n C 46 0 rfl rfl ?_
            exact g_ireturn C 47 rfl h
          · refine g_ldc C 44 rfl kcX10_139 ?_
            refine g_goto C 45 79 rfl rfl ?_
            exact g_ireturn C 47 rfl h
        · refine g_ldcw C 30 rfl kcX10_278 ?_
          exact g_ireturn C 31 rfl h
      · refine g_ldc C 18 rfl kcX10_139 ?_
        exact g_ireturn C 19 rfl h
    · refine g_ldc C 10 rfl kcX10_206 ?_
      exact g_ireturn C 11 rfl h
  · refine g_ldc C 3 rfl kcX10_115 ?_
    exact g_ireturn C 4 rfl h
def T_X10_rest : List (Nat × Instr × Nat) := [(0, .iload_n 1, 1), (1, .invokestatic 281, 3), (4, .ifCond .ne 6, 3), (7, .ldc 115, 2), (9, .ireturn, 1), (10, .aload_n 0, 1), (11, .getfield 66, 3), (14, .iload_n 1, 1), (15, .iaload, 1), (16, .ifCond .ne 6, 3), (19, .ldc 206, 2), (21, .ireturn, 1), (22, .aload_n 0, 1), (23, .getfield 66, 3), (26, .iload_n 1, 1), (27, .iaload, 1), (28, .iconst 3, 1), (29, .if_icmp .eq 6, 3), (32, .ldc 139, 2), (34, .ireturn, 1), (35, .iload_n 2, 1), (36, .ifCond .ne 9, 3), (39, .ldc_w 284, 3), (42, .goto 20, 3), (45, .iload_n 2, 1), (46, .iconst (-1), 1), (47, .if_icmp .ne 7, 3), (50, .iconst 0, 1), (51, .goto 11, 3), (54, .aload_n 0, 1), (55, .getfield 69, 3), (58, .iload_n 1, 1), (59, .iaload, 1), (60, .iload_n 2, 1), (61, .irem, 1), (62, .ireturn, 1)]
theorem T_X10_rest_ok : gTb cX10_rest T_X10_rest = true := by decide +kernel
def F_X10_rest (Z : List gH) (l1 : Int32) (l2 : Int32) (σ : gS) : Option (Int32 × gS) := mCall (F_X10_isSlot Z l1 σ) (fun r1 s2 => if r1 = 0 then some ((-1000000001), s2) else mIn 5 l1 (if (s2 84 (nn l1)) = 0 then some ((-1000000011), s2) else mIn 5 l1 (if (s2 84 (nn l1)) = 3 then if l2 = 0 then some ((-1000000002), s2) else if l2 = (-1) then some (0, s2) else mIn 5 l1 (mNz l2 (some ((mRem (s2 85 (nn l1)) l2), s2))) else some ((-1000000012), s2))))
set_option maxRecDepth 20000 in
set_option maxHeartbeats 4000000 in
theorem M_X10_rest {Z : List gH} (hZ : Lay Z) (l1 : Int32) (l2 : Int32) : gMet yX10_rest cX10_rest 3 (some .int) 3 Z (fun ad => [.ref (ad 65), .int l1, .int l2]) (F_X10_rest Z l1 l2) := by
  refine gMet_intro T_X10_rest T_X10_rest_ok rfl (fun _ => Nat.le_of_ble_eq_true rfl) (fun g ad σ z C h => ?_)
  show g 0 [(0, .ref (ad 65)), (1, .int l1), (2, .int l2)] [] σ
  rw [F_X10_rest] at h
  refine g_iload_n C 0 1 rfl rfl ?_
  refine g_callSi C 1 [.int l1] [] rfl (M_X10_isSlot hZ l1) cnX10_281 cwX10_isSlot csX10_isSlot rfl rfl rfl (Nat.le_of_ble_eq_true rfl) ⟨Nat.le_of_ble_eq_true rfl, Nat.le_of_ble_eq_true rfl⟩ h (fun r1 s2 h => ?_)
  refine g_if_ne C 2 10 rfl rfl h (fun h => ?_) (fun h => ?_)
  · refine g_aload_n C 5 0 rfl rfl ?_
    refine g_getr (b := 84) C 6 rfl flX10_66 (hZ.at (i := 65) rfl) rfl ?_
    refine g_iload_n C 7 1 rfl rfl ?_
    refine g_iald C 8 rfl (hZ.at (i := 84) rfl) h (fun h => ?_)
    refine g_if_ne C 9 22 rfl rfl h (fun h => ?_) (fun h => ?_)
    · refine g_aload_n C 12 0 rfl rfl ?_
      refine g_getr (b := 84) C 13 rfl flX10_66 (hZ.at (i := 65) rfl) rfl ?_
      refine g_iload_n C 14 1 rfl rfl ?_
      refine g_iald C 15 rfl (hZ.at (i := 84) rfl) h (fun h => ?_)
      refine g_iconst (v := 3) C 16 rfl rfl ?_
      refine g_icmp_eq C 17 35 rfl rfl h (fun h => ?_) (fun h => ?_)
      · refine g_iload_n C 20 2 rfl rfl ?_
        refine g_if_ne C 21 45 rfl rfl h (fun h => ?_) (fun h => ?_)
        · refine g_iload_n C 24 2 rfl rfl ?_
          refine g_iconst (v := (-1)) C 25 rfl rfl ?_
          refine g_icmp_ne C 26 54 rfl rfl h (fun h => ?_) (fun h => ?_)
          · refine g_aload_n C 29 0 rfl rfl ?_
            refine g_getr (b := 85) C 30 rfl flX10_69 (hZ.at (i := 65) rfl) rfl ?_
            refine g_iload_n C 31 1 rfl rfl ?_
            refine g_iald C 32 rfl (hZ.at (i := 85) rfl) h (fun h => ?_)
            refine g_iload_n C 33 2 rfl rfl ?_
            refine g_irem C 34 rfl h (fun h => ?_)
            exact g_ireturn C 35 rfl h
          · refine g_iconst (v := 0) C 27 rfl rfl ?_
            refine g_goto C 28 62 rfl rfl ?_
            exact g_ireturn C 35 rfl h
        · refine g_ldcw C 22 rfl kcX10_284 ?_
          refine g_goto C 23 62 rfl rfl ?_
          exact g_ireturn C 35 rfl h
      · refine g_ldc C 18 rfl kcX10_139 ?_
        exact g_ireturn C 19 rfl h
    · refine g_ldc C 10 rfl kcX10_206 ?_
      exact g_ireturn C 11 rfl h
  · refine g_ldc C 3 rfl kcX10_115 ?_
    exact g_ireturn C 4 rfl h
def T_X10_tell : List (Nat × Instr × Nat) := [(0, .aload_n 0, 1), (1, .getfield 285, 3), (4, .bipush 60, 2), (6, .if_icmp .ne 6, 3), (9, .ldc 116, 2), (11, .ireturn, 1), (12, .aload_n 0, 1), (13, .getfield 81, 3), (16, .aload_n 0, 1), (17, .getfield 285, 3), (20, .iload_n 1, 1), (21, .iastore, 1), (22, .aload_n 0, 1), (23, .dup, 1), (24, .getfield 285, 3), (27, .iconst 1, 1), (28, .iadd, 1), (29, .putfield 285, 3), (32, .aload_n 0, 1), (33, .getfield 285, 3), (36, .ireturn, 1)]
theorem T_X10_tell_ok : gTb cX10_tell T_X10_tell = true := by decide +kernel
def F_X10_tell (Z : List gH) (l1 : Int32) (σ : gS) : Option (Int32 × gS) := if (σ 65 36) = 60 then some ((-1000000003), σ) else mIn 60 (σ 65 36) (mLet (gu σ 89 (nn (σ 65 36)) l1) (fun s1 => mLet (gu s1 65 36 ((s1 65 36) + 1)) (fun s2 => some ((s2 65 36), s2))))
set_option maxRecDepth 20000 in
set_option maxHeartbeats 4000000 in
theorem M_X10_tell {Z : List gH} (hZ : Lay Z) (l1 : Int32) : gMet yX10_tell cX10_tell 2 (some .int) 1 Z (fun ad => [.ref (ad 65), .int l1]) (F_X10_tell Z l1) := by
  refine gMet_intro T_X10_tell T_X10_tell_ok rfl (fun _ => Nat.le_of_ble_eq_true rfl) (fun g ad σ z C h => ?_)
  show g 0 [(0, .ref (ad 65)), (1, .int l1)] [] σ
  rw [F_X10_tell] at h
  refine g_aload_n C 0 0 rfl rfl ?_
  refine g_geti C 1 rfl flX10_285 (hZ.at (i := 65) rfl) rfl ?_
  refine g_bipush (v := 60) C 2 rfl rfl ?_
  refine g_icmp_ne C 3 12 rfl rfl h (fun h => ?_) (fun h => ?_)
  · refine g_aload_n C 6 0 rfl rfl ?_
    refine g_getr (b := 89) C 7 rfl flX10_81 (hZ.at (i := 65) rfl) rfl ?_
    refine g_aload_n C 8 0 rfl rfl ?_
    refine g_geti C 9 rfl flX10_285 (hZ.at (i := 65) rfl) rfl ?_
    refine g_iload_n C 10 1 rfl rfl ?_
    refine g_iast C 11 rfl (hZ.at (i := 89) rfl) h (fun s1 h => ?_)
    refine g_aload_n C 12 0 rfl rfl ?_
    refine g_dup C 13 rfl rfl ?_
    refine g_geti C 14 rfl flX10_285 (hZ.at (i := 65) rfl) rfl ?_
    refine g_iconst (v := 1) C 15 rfl rfl ?_
    refine g_iadd C 16 rfl ?_
    refine g_put C 17 rfl fpX10_285 (hZ.at (i := 65) rfl) rfl rfl rfl h (fun s2 h => ?_)
    refine g_aload_n C 18 0 rfl rfl ?_
    refine g_geti C 19 rfl flX10_285 (hZ.at (i := 65) rfl) rfl ?_
    exact g_ireturn C 20 rfl h
  · refine g_ldc C 4 rfl kcX10_116 ?_
    exact g_ireturn C 5 rfl h
def T_X10_check : List (Nat × Instr × Nat) := [(0, .aload_n 0, 1), (1, .getfield 285, 3), (4, .istore_n 2, 1), (5, .aload_n 0, 1), (6, .iconst 0, 1), (7, .putfield 285, 3), (10, .iload_n 1, 1), (11, .iconst 1, 1), (12, .bipush 30, 2), (14, .invokestatic 84, 3), (17, .ifCond .ne 6, 3), (20, .ldc 115, 2), (22, .ireturn, 1), (23, .aload_n 0, 1), (24, .getfield 288, 3), (27, .ifCond .ne 7, 3), (30, .ldc_w 284, 3), (33, .ireturn, 1), (34, .aload_n 0, 1), (35, .getfield 9, 3), (38, .aload_n 0, 1), (39, .getfield 16, 3), (42, .invokestatic 187, 3), (45, .aload_n 0, 1), (46, .getfield 13, 3), (49, .aload_n 0, 1), (50, .getfield 9, 3), (53, .invokestatic 187, 3), (56, .iconst 2, 1), (57, .sipush 9999, 3), (60, .aload_n 0, 1), (61, .getfield 9, 3), (64, .iconst 2, 1), (65, .iaload, 1), (66, .isub, 1), (67, .iconst 0, 1), (68, .iload_n 1, 1), (69, .invokestatic 99, 3), (72, .imul, 1), (73, .istore_n 3, 1), (74, .iconst 0, 1), (75, .istore 4, 2), (77, .iconst 0, 1), (78, .istore 5, 2), (80, .iconst 2, 1), (81, .iload 5, 2), (83, .imul, 1), (84, .iload_n 3, 1), (85, .if_icmp .ge 96, 3), (88, .iload 4, 2), (90, .iconst 2, 1), (91, .iload 5, 2), (93, .imul, 1), (94, .if_icmp .ne 87, 3), (97, .aload_n 0, 1), (98, .invokevirtual 175, 3), (101, .iload 4, 2), (103, .iload 4, 2), (105, .iload_n 2, 1), (106, .if_icmp .ge 24, 3), (109, .aload_n 0, 1), (110, .getfield 81, 3), (113, .iload 4, 2), (115, .iaload, 1), (116, .aload_n 0, 1), (117, .getfield 9, 3), (120, .bipush 6, 2), (122, .iaload, 1), (123, .if_icmp .ne 7, 3), (126, .iconst 1, 1), (127, .goto 4, 3), (130, .iconst 0, 1), (131, .iadd, 1), (132, .istore 4, 2), (134, .iload 4, 2), (136, .iload 4, 2), (138, .iconst 2, 1), (139, .iload 5, 2), (141, .imul, 1), (142, .iconst 1, 1), (143, .iadd, 1), (144, .if_icmp .ne 27, 3), (147, .iload 4, 2), (149, .iload_n 2, 1), (150, .if_icmp .ge 21, 3), (153, .aload_n 0, 1), (154, .getfield 81, 3), (157, .iload 4, 2), (159, .iaload, 1), (160, .aload_n 0, 1), (161, .invokevirtual 184, 3), (164, .if_icmp .ne 7, 3), (167, .iconst 1, 1), (168, .goto 4, 3), (171, .iconst 0, 1), (172, .iadd, 1), (173, .istore 4, 2), (175, .iinc 5 1, 3), (178, .goto (-98), 3), (181, .aload_n 0, 1), (182, .getfield 16, 3), (185, .aload_n 0, 1), (186, .getfield 9, 3), (189, .invokestatic 187, 3), (192, .iload 4, 2), (194, .iload_n 2, 1), (195, .if_icmp .ne 13, 3), (198, .iload 4, 2), (200, .iload_n 3, 1), (201, .if_icmp .ne 7, 3), (204, .iconst 0, 1), (205, .goto 7, 3), (208, .iconst 1, 1), (209, .iload 4, 2), (211, .iadd, 1), (212, .ireturn, 1)]
theorem T_X10_check_ok : gTb cX10_check T_X10_check = true := by decide +kernel
def F_X10_check_J181 (Z : List gH) (l2 : Int32) (l3 : Int32) (l4 : Int32) (σ : gS) : Option (Int32 × gS) := mCall (F_X10_copyAll Z 68 66 σ) (fun r1 s2 => if l4 = l2 then if l4 = l3 then some (0, s2) else some ((1 + l4), s2) else some ((1 + l4), s2))
def F_X10_check_J131 (Z : List gH) (k80 : Int32 → Int32 → Int32 → Int32 → gS → Option (Int32 × gS)) (l2 : Int32) (l3 : Int32) (l5 : Int32) (t0 : Int32) (t1 : Int32) (σ : gS) : Option (Int32 × gS) := mLet ((t1 + t0)) (fun v1 => if v1 = ((2 * l5) + 1) then if l2 ≤ v1 then mLet ((v1 + 0)) (fun v3 => k80 l2 l3 v3 (l5 + 1) σ) else mIn 60 v1 (mCall (F_X10_allHeat Z σ) (fun r4 s5 => if (σ 89 (nn v1)) = r4 then mLet ((v1 + 1)) (fun v7 => k80 l2 l3 v7 (l5 + 1) s5) else mLet ((v1 + 0)) (fun v6 => k80 l2 l3 v6 (l5 + 1) s5))) else mLet ((v1 + 0)) (fun v2 => k80 l2 l3 v2 (l5 + 1) σ))
def F_X10_check_L80 (Z : List gH) : Nat → Int32 → Int32 → Int32 → Int32 → gS → Option (Int32 × gS)
  | 0, _, _, _, _, _ => none
  | n + 1, l2, l3, l4, l5, σ => if l3 ≤ (2 * l5) then F_X10_check_J181 Z l2 l3 l4 σ else if l4 = (2 * l5) then mCall (F_X10_minute Z σ) (fun r1 s2 => if l2 ≤ l4 then F_X10_check_J131 Z (F_X10_check_L80 Z n) l2 l3 l5 0 l4 s2 else mIn 60 l4 (if (s2 89 (nn l4)) = (s2 66 6) then F_X10_check_J131 Z (F_X10_check_L80 Z n) l2 l3 l5 1 l4 s2 else F_X10_check_J131 Z (F_X10_check_L80 Z n) l2 l3 l5 0 l4 s2)) else F_X10_check_J181 Z l2 l3 l4 σ
def F_X10_check (Z : List gH) (l1 : Int32) (σ : gS) : Option (Int32 × gS) := mLet ((σ 65 36)) (fun v1 => mLet (gu σ 65 36 0) (fun s2 => mCall (F_X10_in Z l1 1 30 s2) (fun r3 s4 => if r3 = 0 then some ((-1000000001), s4) else if (s4 65 3) = 0 then some ((-1000000002), s4) else mCall (F_X10_copyAll Z 66 68 s4) (fun r5 s6 => mCall (F_X10_copyAll Z 67 66 s6) (fun r7 s8 => mCall (F_X10_within Z (9999 - (s8 66 2)) 0 l1 s8) (fun r9 s10 => mLet ((2 * r9)) (fun v11 => F_X10_check_L80 Z mFuel v1 v11 0 0 s10)))))))
set_option maxRecDepth 20000 in
set_option maxHeartbeats 4000000 in
theorem C_F_X10_check_J181 {g : Nat → List (Nat × Value) → List Value → gS → Prop} {Z : List gH} {ad : Nat → Nat} {z : Int32 × gS}  (C : gOk g T_X10_check RX10 6 (some .int) 6 Z ad z) (hZ : Lay Z) (l2 : Int32) (l3 : Int32) (l4 : Int32) (σ : gS) (h : F_X10_check_J181 Z l2 l3 l4 σ = some z) : g 181 [(0, .ref (ad 65)), (2, .int l2), (3, .int l3), (4, .int l4)] [] σ := by
  rw [F_X10_check_J181] at h
  refine g_aload_n C 99 0 rfl rfl ?_
  refine g_getr (b := 68) C 100 rfl flX10_16 (hZ.at (i := 65) rfl) rfl ?_
  refine g_aload_n C 101 0 rfl rfl ?_
  refine g_getr (b := 66) C 102 rfl flX10_9 (hZ.at (i := 65) rfl) rfl ?_
  refine g_callSv C 103 [.ref (ad 68), .ref (ad 66)] [] rfl (M_X10_copyAll hZ 68 (ia_of (hZ.at (i := 68) rfl)) 66 (ia_of (hZ.at (i := 66) rfl))) cnX10_187 cwX10_copyAll csX10_copyAll rfl rfl rfl (Nat.le_of_ble_eq_true rfl) ⟨Nat.le_of_ble_eq_true rfl, Nat.le_of_ble_eq_true rfl⟩ h (fun r1 s2 h => ?_)
  refine g_iload C 104 3 rfl rfl ?_
  refine g_iload_n C 105 1 rfl rfl ?_
  refine g_icmp_ne C 106 208 rfl rfl h (fun h => ?_) (fun h => ?_)
  · refine g_iconst (v := 1) C 112 rfl rfl ?_
    refine g_iload C 113 3 rfl rfl ?_
    refine g_iadd C 114 rfl ?_
    exact g_ireturn C 115 rfl h
  · refine g_iload C 107 3 rfl rfl ?_
    refine g_iload_n C 108 2 rfl rfl ?_
    refine g_icmp_ne C 109 208 rfl rfl h (fun h => ?_) (fun h => ?_)
    · refine g_iconst (v := 1) C 112 rfl rfl ?_
      refine g_iload C 113 3 rfl rfl ?_
      refine g_iadd C 114 rfl ?_
      exact g_ireturn C 115 rfl h
    · refine g_iconst (v := 0) C 110 rfl rfl ?_
      refine g_goto C 111 212 rfl rfl ?_
      exact g_ireturn C 115 rfl h
set_option maxRecDepth 20000 in
set_option maxHeartbeats 4000000 in
theorem C_F_X10_check_J131 {g : Nat → List (Nat × Value) → List Value → gS → Prop} {Z : List gH} {ad : Nat → Nat} {z : Int32 × gS}  (C : gOk g T_X10_check RX10 6 (some .int) 6 Z ad z) (hZ : Lay Z) {k80 : Int32 → Int32 → Int32 → Int32 → gS → Option (Int32 × gS)} (hk80 : ∀ (l2 : Int32) (l3 : Int32) (l4 : Int32) (l5 : Int32) (σ : gS), k80 l2 l3 l4 l5 σ = some z → g 80 [(0, .ref (ad 65)), (2, .int l2), (3, .int l3), (4, .int l4), (5, .int l5)] [] σ) (l2 : Int32) (l3 : Int32) (l5 : Int32) (t0 : Int32) (t1 : Int32) (σ : gS) (h : F_X10_check_J131 Z k80 l2 l3 l5 t0 t1 σ = some z) : g 131 [(0, .ref (ad 65)), (2, .int l2), (3, .int l3), (5, .int l5)] [.int t0, .int t1] σ := by
  rw [F_X10_check_J131] at h
  refine g_iadd C 72 rfl ?_
  refine g_let h (fun v1 h => ?_)
  refine g_istore C 73 [(4, .int v1), (0, .ref (ad 65)), (2, .int l2), (3, .int l3), (5, .int l5)] rfl (by decide) rfl ?_
  refine g_iload C 74 0 rfl rfl ?_
  refine g_iload C 75 0 rfl rfl ?_
  refine g_iconst (v := 2) C 76 rfl rfl ?_
  refine g_iload C 77 4 rfl rfl ?_
  refine g_imul C 78 rfl ?_
  refine g_iconst (v := 1) C 79 rfl rfl ?_
  refine g_iadd C 80 rfl ?_
  refine g_icmp_ne C 81 171 rfl rfl h (fun h => ?_) (fun h => ?_)
  · refine g_iconst (v := 0) C 94 rfl rfl ?_
    refine g_iadd C 95 rfl ?_
    refine g_let h (fun v2 h => ?_)
    refine g_istore C 96 [(4, .int v2), (0, .ref (ad 65)), (2, .int l2), (3, .int l3), (5, .int l5)] rfl (by decide) rfl ?_
    refine g_iinc C 97 4 (l5 + 1) [(5, .int (l5 + 1)), (4, .int v2), (0, .ref (ad 65)), (2, .int l2), (3, .int l3)] rfl rfl (by decide) rfl rfl ?_
    refine g_goto C 98 80 rfl rfl ?_
    refine g_sub C [2, 3, 4, 1, 0] [(0, .ref (ad 65)), (2, .int l2), (3, .int l3), (4, .int v2), (5, .int (l5 + 1))] rfl ?_
    exact hk80 _ _ _ _ _ h
  · refine g_iload C 82 0 rfl rfl ?_
    refine g_iload_n C 83 2 rfl rfl ?_
    refine g_icmp_ge C 84 171 rfl rfl h (fun h => ?_) (fun h => ?_)
    · refine g_iconst (v := 0) C 94 rfl rfl ?_
      refine g_iadd C 95 rfl ?_
      refine g_let h (fun v3 h => ?_)
      refine g_istore C 96 [(4, .int v3), (0, .ref (ad 65)), (2, .int l2), (3, .int l3), (5, .int l5)] rfl (by decide) rfl ?_
      refine g_iinc C 97 4 (l5 + 1) [(5, .int (l5 + 1)), (4, .int v3), (0, .ref (ad 65)), (2, .int l2), (3, .int l3)] rfl rfl (by decide) rfl rfl ?_
      refine g_goto C 98 80 rfl rfl ?_
      refine g_sub C [2, 3, 4, 1, 0] [(0, .ref (ad 65)), (2, .int l2), (3, .int l3), (4, .int v3), (5, .int (l5 + 1))] rfl ?_
      exact hk80 _ _ _ _ _ h
    · refine g_aload_n C 85 1 rfl rfl ?_
      refine g_getr (b := 89) C 86 rfl flX10_81 (hZ.at (i := 65) rfl) rfl ?_
      refine g_iload C 87 0 rfl rfl ?_
      refine g_iald C 88 rfl (hZ.at (i := 89) rfl) h (fun h => ?_)
      refine g_aload_n C 89 1 rfl rfl ?_
      refine g_callVi C 90 [] [.int (σ 89 (nn v1)), .int v1] rfl (M_X10_allHeat hZ) cnX10_184 cwX10_allHeat ciX10_allHeat (hZ.at (i := 65) rfl) rfl rfl rfl rfl (Nat.le_of_ble_eq_true rfl) ⟨Nat.le_of_ble_eq_true rfl, Nat.le_of_ble_eq_true rfl⟩ h (fun r4 s5 h => ?_)
      refine g_icmp_ne C 91 171 rfl rfl h (fun h => ?_) (fun h => ?_)
      · refine g_iconst (v := 0) C 94 rfl rfl ?_
        refine g_iadd C 95 rfl ?_
        refine g_let h (fun v6 h => ?_)
        refine g_istore C 96 [(4, .int v6), (0, .ref (ad 65)), (2, .int l2), (3, .int l3), (5, .int l5)] rfl (by decide) rfl ?_
        refine g_iinc C 97 4 (l5 + 1) [(5, .int (l5 + 1)), (4, .int v6), (0, .ref (ad 65)), (2, .int l2), (3, .int l3)] rfl rfl (by decide) rfl rfl ?_
        refine g_goto C 98 80 rfl rfl ?_
        refine g_sub C [2, 3, 4, 1, 0] [(0, .ref (ad 65)), (2, .int l2), (3, .int l3), (4, .int v6), (5, .int (l5 + 1))] rfl ?_
        exact hk80 _ _ _ _ _ h
      · refine g_iconst (v := 1) C 92 rfl rfl ?_
        refine g_goto C 93 172 rfl rfl ?_
        refine g_iadd C 95 rfl ?_
        refine g_let h (fun v7 h => ?_)
        refine g_istore C 96 [(4, .int v7), (0, .ref (ad 65)), (2, .int l2), (3, .int l3), (5, .int l5)] rfl (by decide) rfl ?_
        refine g_iinc C 97 4 (l5 + 1) [(5, .int (l5 + 1)), (4, .int v7), (0, .ref (ad 65)), (2, .int l2), (3, .int l3)] rfl rfl (by decide) rfl rfl ?_
        refine g_goto C 98 80 rfl rfl ?_
        refine g_sub C [2, 3, 4, 1, 0] [(0, .ref (ad 65)), (2, .int l2), (3, .int l3), (4, .int v7), (5, .int (l5 + 1))] rfl ?_
        exact hk80 _ _ _ _ _ h
set_option maxRecDepth 20000 in
set_option maxHeartbeats 4000000 in
theorem C_F_X10_check_L80 {g : Nat → List (Nat × Value) → List Value → gS → Prop} {Z : List gH} {ad : Nat → Nat} {z : Int32 × gS}  (C : gOk g T_X10_check RX10 6 (some .int) 6 Z ad z) (hZ : Lay Z) : ∀ (n : Nat) (l2 : Int32) (l3 : Int32) (l4 : Int32) (l5 : Int32) (σ : gS), F_X10_check_L80 Z n l2 l3 l4 l5 σ = some z → g 80 [(0, .ref (ad 65)), (2, .int l2), (3, .int l3), (4, .int l4), (5, .int l5)] [] σ := by
  intro n
  induction n with
  | zero => intro l2 l3 l4 l5 σ h; cases h
  | succ n ih =>
    intro l2 l3 l4 l5 σ h
    rw [F_X10_check_L80] at h
    refine g_iconst (v := 2) C 44 rfl rfl ?_
    refine g_iload C 45 4 rfl rfl ?_
    refine g_imul C 46 rfl ?_
    refine g_iload_n C 47 2 rfl rfl ?_
    refine g_icmp_ge C 48 181 rfl rfl h (fun h => ?_) (fun h => ?_)
    · refine g_sub C [0, 1, 2, 3] [(0, .ref (ad 65)), (2, .int l2), (3, .int l3), (4, .int l4)] rfl ?_
      exact C_F_X10_check_J181 C hZ _ _ _ _ h
    · refine g_iload C 49 3 rfl rfl ?_
      refine g_iconst (v := 2) C 50 rfl rfl ?_
      refine g_iload C 51 4 rfl rfl ?_
      refine g_imul C 52 rfl ?_
      refine g_icmp_ne C 53 181 rfl rfl h (fun h => ?_) (fun h => ?_)
      · refine g_sub C [0, 1, 2, 3] [(0, .ref (ad 65)), (2, .int l2), (3, .int l3), (4, .int l4)] rfl ?_
        exact C_F_X10_check_J181 C hZ _ _ _ _ h
      · refine g_aload_n C 54 0 rfl rfl ?_
        refine g_callVv C 55 [] [] rfl (M_X10_minute hZ) cnX10_175 cwX10_minute ciX10_minute (hZ.at (i := 65) rfl) rfl rfl rfl rfl (Nat.le_of_ble_eq_true rfl) ⟨Nat.le_of_ble_eq_true rfl, Nat.le_of_ble_eq_true rfl⟩ h (fun r1 s2 h => ?_)
        refine g_iload C 56 3 rfl rfl ?_
        refine g_iload C 57 3 rfl rfl ?_
        refine g_iload_n C 58 1 rfl rfl ?_
        refine g_icmp_ge C 59 130 rfl rfl h (fun h => ?_) (fun h => ?_)
        · refine g_iconst (v := 0) C 71 rfl rfl ?_
          refine g_sub C [0, 1, 2, 4] [(0, .ref (ad 65)), (2, .int l2), (3, .int l3), (5, .int l5)] rfl ?_
          exact C_F_X10_check_J131 C hZ ih _ _ _ _ _ _ h
        · refine g_aload_n C 60 0 rfl rfl ?_
          refine g_getr (b := 89) C 61 rfl flX10_81 (hZ.at (i := 65) rfl) rfl ?_
          refine g_iload C 62 3 rfl rfl ?_
          refine g_iald C 63 rfl (hZ.at (i := 89) rfl) h (fun h => ?_)
          refine g_aload_n C 64 0 rfl rfl ?_
          refine g_getr (b := 66) C 65 rfl flX10_9 (hZ.at (i := 65) rfl) rfl ?_
          refine g_bipush (v := 6) C 66 rfl rfl ?_
          refine g_ialdK C 67 6 rfl (hZ.at (i := 66) rfl) rfl (vp_k rfl) ?_
          refine g_icmp_ne C 68 130 rfl rfl h (fun h => ?_) (fun h => ?_)
          · refine g_iconst (v := 0) C 71 rfl rfl ?_
            refine g_sub C [0, 1, 2, 4] [(0, .ref (ad 65)), (2, .int l2), (3, .int l3), (5, .int l5)] rfl ?_
            exact C_F_X10_check_J131 C hZ ih _ _ _ _ _ _ h
          · refine g_iconst (v := 1) C 69 rfl rfl ?_
            refine g_goto C 70 131 rfl rfl ?_
            refine g_sub C [0, 1, 2, 4] [(0, .ref (ad 65)), (2, .int l2), (3, .int l3), (5, .int l5)] rfl ?_
            exact C_F_X10_check_J131 C hZ ih _ _ _ _ _ _ h
set_option maxRecDepth 20000 in
set_option maxHeartbeats 4000000 in
theorem M_X10_check {Z : List gH} (hZ : Lay Z) (l1 : Int32) : gMet yX10_check cX10_check 6 (some .int) 6 Z (fun ad => [.ref (ad 65), .int l1]) (F_X10_check Z l1) := by
  refine gMet_intro T_X10_check T_X10_check_ok rfl (fun _ => Nat.le_of_ble_eq_true rfl) (fun g ad σ z C h => ?_)
  show g 0 [(0, .ref (ad 65)), (1, .int l1)] [] σ
  rw [F_X10_check] at h
  refine g_aload_n C 0 0 rfl rfl ?_
  refine g_geti C 1 rfl flX10_285 (hZ.at (i := 65) rfl) rfl ?_
  refine g_let h (fun v1 h => ?_)
  refine g_istore_n C 2 [(2, .int v1), (0, .ref (ad 65)), (1, .int l1)] rfl (by decide) rfl ?_
  refine g_aload_n C 3 1 rfl rfl ?_
  refine g_iconst (v := 0) C 4 rfl rfl ?_
  refine g_put C 5 rfl fpX10_285 (hZ.at (i := 65) rfl) rfl rfl rfl h (fun s2 h => ?_)
  refine g_iload_n C 6 2 rfl rfl ?_
  refine g_iconst (v := 1) C 7 rfl rfl ?_
  refine g_bipush (v := 30) C 8 rfl rfl ?_
  refine g_callSi C 9 [.int l1, .int 1, .int 30] [] rfl (M_X10_in hZ l1 1 30) cnX10_84 cwX10_in csX10_in rfl rfl rfl (Nat.le_of_ble_eq_true rfl) ⟨Nat.le_of_ble_eq_true rfl, Nat.le_of_ble_eq_true rfl⟩ h (fun r3 s4 h => ?_)
  refine g_if_ne C 10 23 rfl rfl h (fun h => ?_) (fun h => ?_)
  · refine g_aload_n C 13 1 rfl rfl ?_
    refine g_geti C 14 rfl flX10_288 (hZ.at (i := 65) rfl) rfl ?_
    refine g_if_ne C 15 34 rfl rfl h (fun h => ?_) (fun h => ?_)
    · refine g_aload_n C 18 1 rfl rfl ?_
      refine g_getr (b := 66) C 19 rfl flX10_9 (hZ.at (i := 65) rfl) rfl ?_
      refine g_aload_n C 20 1 rfl rfl ?_
      refine g_getr (b := 68) C 21 rfl flX10_16 (hZ.at (i := 65) rfl) rfl ?_
      refine g_callSv C 22 [.ref (ad 66), .ref (ad 68)] [] rfl (M_X10_copyAll hZ 66 (ia_of (hZ.at (i := 66) rfl)) 68 (ia_of (hZ.at (i := 68) rfl))) cnX10_187 cwX10_copyAll csX10_copyAll rfl rfl rfl (Nat.le_of_ble_eq_true rfl) ⟨Nat.le_of_ble_eq_true rfl, Nat.le_of_ble_eq_true rfl⟩ h (fun r5 s6 h => ?_)
      refine g_aload_n C 23 1 rfl rfl ?_
      refine g_getr (b := 67) C 24 rfl flX10_13 (hZ.at (i := 65) rfl) rfl ?_
      refine g_aload_n C 25 1 rfl rfl ?_
      refine g_getr (b := 66) C 26 rfl flX10_9 (hZ.at (i := 65) rfl) rfl ?_
      refine g_callSv C 27 [.ref (ad 67), .ref (ad 66)] [] rfl (M_X10_copyAll hZ 67 (ia_of (hZ.at (i := 67) rfl)) 66 (ia_of (hZ.at (i := 66) rfl))) cnX10_187 cwX10_copyAll csX10_copyAll rfl rfl rfl (Nat.le_of_ble_eq_true rfl) ⟨Nat.le_of_ble_eq_true rfl, Nat.le_of_ble_eq_true rfl⟩ h (fun r7 s8 h => ?_)
      refine g_iconst (v := 2) C 28 rfl rfl ?_
      refine g_sipush (v := 9999) C 29 rfl rfl ?_
      refine g_aload_n C 30 1 rfl rfl ?_
      refine g_getr (b := 66) C 31 rfl flX10_9 (hZ.at (i := 65) rfl) rfl ?_
      refine g_iconst (v := 2) C 32 rfl rfl ?_
      refine g_ialdK C 33 2 rfl (hZ.at (i := 66) rfl) rfl (vp_k rfl) ?_
      refine g_isub C 34 rfl ?_
      refine g_iconst (v := 0) C 35 rfl rfl ?_
      refine g_iload_n C 36 2 rfl rfl ?_
      refine g_callSi C 37 [.int (9999 - (s8 66 2)), .int 0, .int l1] [.int 2] rfl (M_X10_within hZ (9999 - (s8 66 2)) 0 l1) cnX10_99 cwX10_within csX10_within rfl rfl rfl (Nat.le_of_ble_eq_true rfl) ⟨Nat.le_of_ble_eq_true rfl, Nat.le_of_ble_eq_true rfl⟩ h (fun r9 s10 h => ?_)
      refine g_imul C 38 rfl ?_
      refine g_let h (fun v11 h => ?_)
      refine g_istore_n C 39 [(3, .int v11), (2, .int v1), (0, .ref (ad 65)), (1, .int l1)] rfl (by decide) rfl ?_
      refine g_iconst (v := 0) C 40 rfl rfl ?_
      refine g_istore C 41 [(4, .int 0), (3, .int v11), (2, .int v1), (0, .ref (ad 65)), (1, .int l1)] rfl (by decide) rfl ?_
      refine g_iconst (v := 0) C 42 rfl rfl ?_
      refine g_istore C 43 [(5, .int 0), (4, .int 0), (3, .int v11), (2, .int v1), (0, .ref (ad 65)), (1, .int l1)] rfl (by decide) rfl ?_
      refine g_sub C [4, 3, 2, 1, 0] [(0, .ref (ad 65)), (2, .int v1), (3, .int v11), (4, .int 0), (5, .int 0)] rfl ?_
      exact C_F_X10_check_L80 C hZ _ _ _ _ _ _ h
    · refine g_ldcw C 16 rfl kcX10_284 ?_
      exact g_ireturn C 17 rfl h
  · refine g_ldc C 11 rfl kcX10_115 ?_
    exact g_ireturn C 12 rfl h
def T_X10_keep : List (Nat × Instr × Nat) := [(0, .aload_n 0, 1), (1, .getfield 9, 3), (4, .aload_n 0, 1), (5, .getfield 13, 3), (8, .invokestatic 187, 3), (11, .aload_n 0, 1), (12, .iconst 1, 1), (13, .putfield 288, 3), (16, .aload_n 0, 1), (17, .getfield 9, 3), (20, .iconst 1, 1), (21, .iaload, 1), (22, .ireturn, 1)]
theorem T_X10_keep_ok : gTb cX10_keep T_X10_keep = true := by decide +kernel
def F_X10_keep (Z : List gH) (σ : gS) : Option (Int32 × gS) := mCall (F_X10_copyAll Z 66 67 σ) (fun r1 s2 => mLet (gu s2 65 3 1) (fun s3 => some ((s3 66 1), s3)))
set_option maxRecDepth 20000 in
set_option maxHeartbeats 4000000 in
theorem M_X10_keep {Z : List gH} (hZ : Lay Z) : gMet yX10_keep cX10_keep 1 (some .int) 2 Z (fun ad => [.ref (ad 65)]) (F_X10_keep Z) := by
  refine gMet_intro T_X10_keep T_X10_keep_ok rfl (fun _ => Nat.le_of_ble_eq_true rfl) (fun g ad σ z C h => ?_)
  show g 0 [(0, .ref (ad 65))] [] σ
  rw [F_X10_keep] at h
  refine g_aload_n C 0 0 rfl rfl ?_
  refine g_getr (b := 66) C 1 rfl flX10_9 (hZ.at (i := 65) rfl) rfl ?_
  refine g_aload_n C 2 0 rfl rfl ?_
  refine g_getr (b := 67) C 3 rfl flX10_13 (hZ.at (i := 65) rfl) rfl ?_
  refine g_callSv C 4 [.ref (ad 66), .ref (ad 67)] [] rfl (M_X10_copyAll hZ 66 (ia_of (hZ.at (i := 66) rfl)) 67 (ia_of (hZ.at (i := 67) rfl))) cnX10_187 cwX10_copyAll csX10_copyAll rfl rfl rfl (Nat.le_of_ble_eq_true rfl) ⟨Nat.le_of_ble_eq_true rfl, Nat.le_of_ble_eq_true rfl⟩ h (fun r1 s2 h => ?_)
  refine g_aload_n C 5 0 rfl rfl ?_
  refine g_iconst (v := 1) C 6 rfl rfl ?_
  refine g_put C 7 rfl fpX10_288 (hZ.at (i := 65) rfl) rfl rfl rfl h (fun s3 h => ?_)
  refine g_aload_n C 8 0 rfl rfl ?_
  refine g_getr (b := 66) C 9 rfl flX10_9 (hZ.at (i := 65) rfl) rfl ?_
  refine g_iconst (v := 1) C 10 rfl rfl ?_
  refine g_ialdK C 11 1 rfl (hZ.at (i := 66) rfl) rfl (vp_k rfl) ?_
  exact g_ireturn C 12 rfl h
def T_X10_back : List (Nat × Instr × Nat) := [(0, .aload_n 0, 1), (1, .getfield 288, 3), (4, .ifCond .ne 7, 3), (7, .ldc_w 284, 3), (10, .ireturn, 1), (11, .aload_n 0, 1), (12, .getfield 13, 3), (15, .aload_n 0, 1), (16, .getfield 9, 3), (19, .invokestatic 187, 3), (22, .aload_n 0, 1), (23, .getfield 9, 3), (26, .iconst 1, 1), (27, .iaload, 1), (28, .ireturn, 1)]
theorem T_X10_back_ok : gTb cX10_back T_X10_back = true := by decide +kernel
def F_X10_back (Z : List gH) (σ : gS) : Option (Int32 × gS) := if (σ 65 3) = 0 then some ((-1000000002), σ) else mCall (F_X10_copyAll Z 67 66 σ) (fun r1 s2 => some ((s2 66 1), s2))
set_option maxRecDepth 20000 in
set_option maxHeartbeats 4000000 in
theorem M_X10_back {Z : List gH} (hZ : Lay Z) : gMet yX10_back cX10_back 1 (some .int) 2 Z (fun ad => [.ref (ad 65)]) (F_X10_back Z) := by
  refine gMet_intro T_X10_back T_X10_back_ok rfl (fun _ => Nat.le_of_ble_eq_true rfl) (fun g ad σ z C h => ?_)
  show g 0 [(0, .ref (ad 65))] [] σ
  rw [F_X10_back] at h
  refine g_aload_n C 0 0 rfl rfl ?_
  refine g_geti C 1 rfl flX10_288 (hZ.at (i := 65) rfl) rfl ?_
  refine g_if_ne C 2 11 rfl rfl h (fun h => ?_) (fun h => ?_)
  · refine g_aload_n C 5 0 rfl rfl ?_
    refine g_getr (b := 67) C 6 rfl flX10_13 (hZ.at (i := 65) rfl) rfl ?_
    refine g_aload_n C 7 0 rfl rfl ?_
    refine g_getr (b := 66) C 8 rfl flX10_9 (hZ.at (i := 65) rfl) rfl ?_
    refine g_callSv C 9 [.ref (ad 67), .ref (ad 66)] [] rfl (M_X10_copyAll hZ 67 (ia_of (hZ.at (i := 67) rfl)) 66 (ia_of (hZ.at (i := 66) rfl))) cnX10_187 cwX10_copyAll csX10_copyAll rfl rfl rfl (Nat.le_of_ble_eq_true rfl) ⟨Nat.le_of_ble_eq_true rfl, Nat.le_of_ble_eq_true rfl⟩ h (fun r1 s2 h => ?_)
    refine g_aload_n C 10 0 rfl rfl ?_
    refine g_getr (b := 66) C 11 rfl flX10_9 (hZ.at (i := 65) rfl) rfl ?_
    refine g_iconst (v := 1) C 12 rfl rfl ?_
    refine g_ialdK C 13 1 rfl (hZ.at (i := 66) rfl) rfl (vp_k rfl) ?_
    exact g_ireturn C 14 rfl h
  · refine g_ldcw C 3 rfl kcX10_284 ?_
    exact g_ireturn C 4 rfl h
def T_X10_count : List (Nat × Instr × Nat) := [(0, .iload_n 1, 1), (1, .tableswitch 111 0 8 #[51, 58, 65, 72, 79, 86, 94, 99, 104], 51), (52, .aload_n 0, 1), (53, .getfield 9, 3), (56, .iconst 1, 1), (57, .iaload, 1), (58, .ireturn, 1), (59, .aload_n 0, 1), (60, .getfield 9, 3), (63, .iconst 2, 1), (64, .iaload, 1), (65, .ireturn, 1), (66, .aload_n 0, 1), (67, .getfield 9, 3), (70, .iconst 3, 1), (71, .iaload, 1), (72, .ireturn, 1), (73, .aload_n 0, 1), (74, .getfield 9, 3), (77, .iconst 4, 1), (78, .iaload, 1), (79, .ireturn, 1), (80, .aload_n 0, 1), (81, .getfield 9, 3), (84, .iconst 5, 1), (85, .iaload, 1), (86, .ireturn, 1), (87, .aload_n 0, 1), (88, .getfield 9, 3), (91, .bipush 9, 2), (93, .iaload, 1), (94, .ireturn, 1), (95, .aload_n 0, 1), (96, .getfield 285, 3), (99, .ireturn, 1), (100, .aload_n 0, 1), (101, .getfield 210, 3), (104, .ireturn, 1), (105, .aload_n 0, 1), (106, .getfield 9, 3), (109, .iconst 0, 1), (110, .iaload, 1), (111, .ireturn, 1), (112, .ldc 115, 2), (114, .ireturn, 1)]
theorem T_X10_count_ok : gTb cX10_count T_X10_count = true := by decide +kernel
def F_X10_count (Z : List gH) (l1 : Int32) (σ : gS) : Option (Int32 × gS) := if l1 = 0 then some ((σ 66 1), σ) else if l1 = 1 then some ((σ 66 2), σ) else if l1 = 2 then some ((σ 66 3), σ) else if l1 = 3 then some ((σ 66 4), σ) else if l1 = 4 then some ((σ 66 5), σ) else if l1 = 5 then some ((σ 66 9), σ) else if l1 = 6 then some ((σ 65 36), σ) else if l1 = 7 then some ((σ 65 10), σ) else if l1 = 8 then some ((σ 66 0), σ) else some ((-1000000001), σ)
set_option maxRecDepth 20000 in
set_option maxHeartbeats 4000000 in
theorem M_X10_count {Z : List gH} (hZ : Lay Z) (l1 : Int32) : gMet yX10_count cX10_count 2 (some .int) 1 Z (fun ad => [.ref (ad 65), .int l1]) (F_X10_count Z l1) := by
  refine gMet_intro T_X10_count T_X10_count_ok rfl (fun _ => Nat.le_of_ble_eq_true rfl) (fun g ad σ z C h => ?_)
  show g 0 [(0, .ref (ad 65)), (1, .int l1)] [] σ
  rw [F_X10_count] at h
  refine g_iload_n C 0 1 rfl rfl ?_
  by_cases hx0_0 : l1 = 0
  · rw [if_pos hx0_0] at h
    refine g_tblAt C 1 0 hx0_0 52 rfl (by decide) (by decide) rfl rfl ?_
    refine g_aload_n C 2 0 rfl rfl ?_
    refine g_getr (b := 66) C 3 rfl flX10_9 (hZ.at (i := 65) rfl) rfl ?_
    refine g_iconst (v := 1) C 4 rfl rfl ?_
    refine g_ialdK C 5 1 rfl (hZ.at (i := 66) rfl) rfl (vp_k rfl) ?_
    exact g_ireturn C 6 rfl h
  · rw [if_neg hx0_0] at h
    by_cases hx0_1 : l1 = 1
    · rw [if_pos hx0_1] at h
      refine g_tblAt C 1 1 hx0_1 59 rfl (by decide) (by decide) rfl rfl ?_
      refine g_aload_n C 7 0 rfl rfl ?_
      refine g_getr (b := 66) C 8 rfl flX10_9 (hZ.at (i := 65) rfl) rfl ?_
      refine g_iconst (v := 2) C 9 rfl rfl ?_
      refine g_ialdK C 10 2 rfl (hZ.at (i := 66) rfl) rfl (vp_k rfl) ?_
      exact g_ireturn C 11 rfl h
    · rw [if_neg hx0_1] at h
      by_cases hx0_2 : l1 = 2
      · rw [if_pos hx0_2] at h
        refine g_tblAt C 1 2 hx0_2 66 rfl (by decide) (by decide) rfl rfl ?_
        refine g_aload_n C 12 0 rfl rfl ?_
        refine g_getr (b := 66) C 13 rfl flX10_9 (hZ.at (i := 65) rfl) rfl ?_
        refine g_iconst (v := 3) C 14 rfl rfl ?_
        refine g_ialdK C 15 3 rfl (hZ.at (i := 66) rfl) rfl (vp_k rfl) ?_
        exact g_ireturn C 16 rfl h
      · rw [if_neg hx0_2] at h
        by_cases hx0_3 : l1 = 3
        · rw [if_pos hx0_3] at h
          refine g_tblAt C 1 3 hx0_3 73 rfl (by decide) (by decide) rfl rfl ?_
          refine g_aload_n C 17 0 rfl rfl ?_
          refine g_getr (b := 66) C 18 rfl flX10_9 (hZ.at (i := 65) rfl) rfl ?_
          refine g_iconst (v := 4) C 19 rfl rfl ?_
          refine g_ialdK C 20 4 rfl (hZ.at (i := 66) rfl) rfl (vp_k rfl) ?_
          exact g_ireturn C 21 rfl h
        · rw [if_neg hx0_3] at h
          by_cases hx0_4 : l1 = 4
          · rw [if_pos hx0_4] at h
            refine g_tblAt C 1 4 hx0_4 80 rfl (by decide) (by decide) rfl rfl ?_
            refine g_aload_n C 22 0 rfl rfl ?_
            refine g_getr (b := 66) C 23 rfl flX10_9 (hZ.at (i := 65) rfl) rfl ?_
            refine g_iconst (v := 5) C 24 rfl rfl ?_
            refine g_ialdK C 25 5 rfl (hZ.at (i := 66) rfl) rfl (vp_k rfl) ?_
            exact g_ireturn C 26 rfl h
          · rw [if_neg hx0_4] at h
            by_cases hx0_5 : l1 = 5
            · rw [if_pos hx0_5] at h
              refine g_tblAt C 1 5 hx0_5 87 rfl (by decide) (by decide) rfl rfl ?_
              refine g_aload_n C 27 0 rfl rfl ?_
              refine g_getr (b := 66) C 28 rfl flX10_9 (hZ.at (i := 65) rfl) rfl ?_
              refine g_bipush (v := 9) C 29 rfl rfl ?_
              refine g_ialdK C 30 9 rfl (hZ.at (i := 66) rfl) rfl (vp_k rfl) ?_
              exact g_ireturn C 31 rfl h
            · rw [if_neg hx0_5] at h
              by_cases hx0_6 : l1 = 6
              · rw [if_pos hx0_6] at h
                refine g_tblAt C 1 6 hx0_6 95 rfl (by decide) (by decide) rfl rfl ?_
                refine g_aload_n C 32 0 rfl rfl ?_
                refine g_geti C 33 rfl flX10_285 (hZ.at (i := 65) rfl) rfl ?_
                exact g_ireturn C 34 rfl h
              · rw [if_neg hx0_6] at h
                by_cases hx0_7 : l1 = 7
                · rw [if_pos hx0_7] at h
                  refine g_tblAt C 1 7 hx0_7 100 rfl (by decide) (by decide) rfl rfl ?_
                  refine g_aload_n C 35 0 rfl rfl ?_
                  refine g_geti C 36 rfl flX10_210 (hZ.at (i := 65) rfl) rfl ?_
                  exact g_ireturn C 37 rfl h
                · rw [if_neg hx0_7] at h
                  by_cases hx0_8 : l1 = 8
                  · rw [if_pos hx0_8] at h
                    refine g_tblAt C 1 8 hx0_8 105 rfl (by decide) (by decide) rfl rfl ?_
                    refine g_aload_n C 38 0 rfl rfl ?_
                    refine g_getr (b := 66) C 39 rfl flX10_9 (hZ.at (i := 65) rfl) rfl ?_
                    refine g_iconst (v := 0) C 40 rfl rfl ?_
                    refine g_ialdK C 41 0 rfl (hZ.at (i := 66) rfl) rfl (vp_k rfl) ?_
                    exact g_ireturn C 42 rfl h
                  · rw [if_neg hx0_8] at h
                    refine g_tblOut C 1 112 rfl (by have e0 := i32ne hx0_0 0 rfl; have e1 := i32ne hx0_1 1 rfl; have e2 := i32ne hx0_2 2 rfl; have e3 := i32ne hx0_3 3 rfl; have e4 := i32ne hx0_4 4 rfl; have e5 := i32ne hx0_5 5 rfl; have e6 := i32ne hx0_6 6 rfl; have e7 := i32ne hx0_7 7 rfl; have e8 := i32ne hx0_8 8 rfl; omega) rfl ?_
                    refine g_ldc C 43 rfl kcX10_115 ?_
                    exact g_ireturn C 44 rfl h
