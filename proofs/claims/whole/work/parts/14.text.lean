/-! ===== texts ===== -/
def T_X8_init : List (Nat × Instr × Nat) := [(0, .aload_n 0, 1), (1, .invokespecial 1, 3), (4, .aload_n 0, 1), (5, .iload_n 1, 1), (6, .putfield 7, 3), (9, .aload_n 0, 1), (10, .iload_n 2, 1), (11, .putfield 13, 3), (14, .aload_n 0, 1), (15, .aload_n 3, 1), (16, .putfield 16, 3), (19, .return_, 1)]
theorem T_X8_init_ok : gTb cX8_init T_X8_init = true := by decide +kernel
def T_X3_madeText : List (Nat × Instr × Nat) := [(0, .new 52, 3), (3, .dup, 1), (4, .aload_n 0, 1), (5, .getfield 42, 3), (8, .aload_n 0, 1), (9, .getfield 23, 3), (12, .aload_n 0, 1), (13, .getfield 15, 3), (16, .aload_n 0, 1), (17, .getfield 19, 3), (20, .invokestatic 54, 3), (23, .invokespecial 60, 3), (26, .areturn, 1)]
theorem T_X3_madeText_ok : gTb cX3_madeText T_X3_madeText = true := by decide +kernel
def T_X2_put : List (Nat × Instr × Nat) := [(0, .iload_n 1, 1), (1, .iconst 0, 1), (2, .bipush 13, 2), (4, .invokestatic 21, 3), (7, .ifCond .eq 10, 3), (10, .aload_n 0, 1), (11, .getfield 11, 3), (14, .iload_n 1, 1), (15, .aload_n 2, 1), (16, .aastore, 1), (17, .return_, 1)]
theorem T_X2_put_ok : gTb cX2_put T_X2_put = true := by decide +kernel
def T_X9_text : List (Nat × Instr × Nat) := [(0, .aload_n 0, 1), (1, .getfield 50, 3), (4, .invokevirtual 252, 3), (7, .aload_n 0, 1), (8, .getfield 41, 3), (11, .iconst 0, 1), (12, .putfield 245, 3), (15, .aload_n 0, 1), (16, .getfield 50, 3), (19, .getfield 255, 3), (22, .ifCond .lt 14, 3), (25, .bipush (-100), 2), (27, .aload_n 0, 1), (28, .getfield 50, 3), (31, .getfield 255, 3), (34, .isub, 1), (35, .ireturn, 1), (36, .aload_n 0, 1), (37, .getfield 21, 3), (40, .getfield 258, 3), (43, .bipush 14, 2), (45, .if_icmp .lt 6, 3), (48, .ldc 98, 2), (50, .ireturn, 1), (51, .aload_n 0, 1), (52, .getfield 10, 3), (55, .aload_n 0, 1), (56, .getfield 21, 3), (59, .getfield 258, 3), (62, .aload_n 0, 1), (63, .getfield 50, 3), (66, .invokevirtual 261, 3), (69, .invokevirtual 265, 3), (72, .aload_n 0, 1), (73, .getfield 21, 3), (76, .getfield 239, 3), (79, .aload_n 0, 1), (80, .getfield 50, 3), (83, .getfield 269, 3), (86, .aload_n 0, 1), (87, .getfield 21, 3), (90, .getfield 258, 3), (93, .iastore, 1), (94, .aload_n 0, 1), (95, .getfield 21, 3), (98, .dup, 1), (99, .getfield 258, 3), (102, .iconst 1, 1), (103, .iadd, 1), (104, .putfield 258, 3), (107, .aload_n 0, 1), (108, .getfield 21, 3), (111, .getfield 258, 3), (114, .iconst 1, 1), (115, .isub, 1), (116, .ireturn, 1)]
theorem T_X9_text_ok : gTb cX9_text T_X9_text = true := by decide +kernel
def T_JA_copyOf : List (Nat × Instr × Nat) := [(0, .iload_n 1, 1), (1, .aload_n 0, 1), (2, .arraylength, 1), (3, .if_icmp .ne (11), 3), (6, .aload_n 0, 1), (7, .invokevirtual 316, 3), (10, .checkcast 317, 3), (13, .areturn, 1), (14, .iload_n 1, 1), (15, .newarray .int, 2), (17, .astore_n 2, 1), (18, .aload_n 0, 1), (19, .iconst 0, 1), (20, .aload_n 2, 1), (21, .iconst 0, 1), (22, .aload_n 0, 1), (23, .arraylength, 1), (24, .iload_n 1, 1), (25, .invokestatic 304, 3), (28, .invokestatic 150, 3), (31, .aload_n 2, 1), (32, .areturn, 1)]
theorem T_JA_copyOf_ok : gTb cJA_copyOf T_JA_copyOf = true := by decide +kernel
theorem wc1185 : Cond.code ⟨"java/util/Arrays", "copyOf", "([II)[I"⟩ prog_21_method_123_code 3 (Option.some (Jvm.ClassFile.FieldType.array Jvm.ClassFile.FieldType.int)) ∈ TB := TBm (tk4 (List.mem_of_getElem? (i := 66) (by decide +kernel))) rfl
theorem cwJA_copyOf : gCw yJA_copyOf cJA_copyOf 3 (some (.array .int)) 2 := ⟨wc1185, wd194, by decide +kernel⟩
theorem wc1186 : Cond.static ⟨"java/util/Arrays", "copyOf", "([II)[I"⟩ ∈ TB := TBm (tk4 (List.mem_of_getElem? (i := 65) (by decide +kernel))) rfl
theorem csJA_copyOf : gCs yJA_copyOf := wc1186
theorem wc1187 : Cond.code ⟨"CopiedFire$Reader", "madeText", "()LCopiedFire$Text;"⟩ prog_5_method_3_code 1 (Option.some (Jvm.ClassFile.FieldType.object "CopiedFire$Text")) ∈ TB := TBm (tk4 (List.mem_of_getElem? (i := 61) (by decide +kernel))) rfl
theorem cwX3_madeText : gCw yX3_madeText cX3_madeText 1 (some (.object "CopiedFire$Text")) 0 := ⟨wc1187, wd201, by decide +kernel⟩
theorem wc1188 : Cond.instanceMethod ⟨"CopiedFire$Reader", "madeText", "()LCopiedFire$Text;"⟩ ∈ TB := TBm (tk4 (List.mem_of_getElem? (i := 59) (by decide +kernel))) rfl
theorem wc1189 : Cond.selects "CopiedFire$Reader" ⟨"CopiedFire$Reader", "madeText", "()LCopiedFire$Text;"⟩ ⟨"CopiedFire$Reader", "madeText", "()LCopiedFire$Text;"⟩ ∈ TB := TBm (tk4 (List.mem_of_getElem? (i := 60) (by decide +kernel))) rfl
theorem ciX3_madeText : gCi yX3_madeText := ⟨wc1188, wc1189⟩
theorem wc1190 : Cond.instanceMethod ⟨"CopiedFire$Text", "<init>", "(II[I)V"⟩ ∈ TB := TBm (tk4 (List.mem_of_getElem? (i := 77) (by decide +kernel))) rfl
theorem ffX8_7 : gFf RX8 7 7 0 .int := ⟨TX8, 3, rfl, by decide, itX8, ⟨tyX8, tyX8_ok⟩, nmX8, rfl, rfl, by decide +kernel, wd147⟩
theorem ffX8_13 : gFf RX8 13 7 1 .int := ⟨TX8, 3, rfl, by decide, itX8, ⟨tyX8, tyX8_ok⟩, nmX8, rfl, rfl, by decide +kernel, wd148⟩
theorem ffX8_16 : gFf RX8 16 7 2 (.array .int) := ⟨TX8, 3, rfl, by decide, itX8, ⟨tyX8, tyX8_ok⟩, nmX8, rfl, rfl, by decide +kernel, wd149⟩
theorem K_Text {Z : List gH} {c a : Nat} (σ : gS) (key ops : Int32) (hgc : gcl Z Z.length) (hc : Z[c]? = some (.inl (7, [none, none, some none]))) (ha : a < Z.length) : gMet2 yX8_init cX8_init 4 none 2 0 0 Z σ (fun ad => [.ref (ad c), .int key, .int ops, .ref (ad a)]) (Z.set c (.inl (7, [none, none, some (some a)]))) (gu (gu σ c 0 key) c 1 ops) none := by
  refine gMet2_intro T_X8_init T_X8_init_ok rfl (fun _ => Nat.le_of_ble_eq_true rfl) (fun g ad C => ?_)
  show g 0 [(0, .ref (ad c)), (1, .int key), (2, .int ops), (3, .ref (ad a))] [] σ
  refine g_aload_n C 0 0 rfl rfl ?_
  refine g2_oi C 1 rfl coX8_1 kx_oi ⟨Nat.le_of_ble_eq_true rfl, Nat.le_of_ble_eq_true rfl⟩ ?_
  refine g_aload_n C 2 0 rfl rfl ?_
  refine g_iload_n C 3 1 rfl rfl ?_
  refine g2_puti C 4 rfl gE2_in ffX8_7 ⟨rfl, rfl⟩ hc rfl ?_
  refine g_aload_n C 5 0 rfl rfl ?_
  refine g_iload_n C 6 2 rfl rfl ?_
  refine g2_puti C 7 rfl gE2_in ffX8_13 ⟨rfl, rfl⟩ hc rfl ?_
  refine g_aload_n C 8 0 rfl rfl ?_
  refine g_aload_n C 9 3 rfl rfl ?_
  refine g2_putr C 10 rfl gE2_in ffX8_16 (fun _ => ⟨rfl, rfl⟩) hc (by decide) rfl ha hgc _ rfl (fun g1 C1 _ => ?_)
  exact g2_return C1 11 rfl AG.rf rfl rfl (Nat.le_refl _) (Nat.le_refl _)
theorem lt_of_at {Z : List gH} {i : Nat} {h : gH} (e : Z[i]? = some h) : i < Z.length := (List.getElem?_eq_some_iff.mp e).1
theorem app_at {Z X : List gH} {i : Nat} {h : gH} (e : Z[i]? = some h) : (Z ++ X)[i]? = some h := by rw [List.getElem?_append_left (lt_of_at e)]; exact e
theorem app_last {Z : List gH} {h : gH} : (Z ++ [h])[Z.length]? = some h := by simp
theorem K_copyOf {Z : List gH} {a : Nat} (σ : gS) (m : Int32) (hn2 : Z.length < 100000) (hgc : gcl Z Z.length) (ha : Z[a]? = some (.inr (0, 96, none))) (hm0 : ¬ m < 0) (hmN : nn m < 96) : gMet2 yJA_copyOf cJA_copyOf 3 (some (.array .int)) 2 1 96 Z σ (fun ad => [.ref (ad a), .int m]) (Z ++ [.inr (0, nn m, none)]) (gp (gp σ Z.length (fun _ => 0)) Z.length (va_cpy ((gp σ Z.length (fun _ => 0)) a) ((gp σ Z.length (fun _ => 0)) Z.length) (nn 0) (nn 0) (nn m))) (some (.inr Z.length)) := by
  have hmo : m = Int32.ofNat (nn m) := by
    have h0 : 0 ≤ m := Int32.not_lt.mp hm0
    exact (Int32.ofNat_toNatClampNeg m h0).symm
  have hne : ¬ m = Int32.ofNat 96 := by
    intro e
    rw [e] at hmN
    exact absurd hmN (by decide)
  have hmin : mMin (Int32.ofNat 96) m = m := by
    unfold mMin
    rw [if_pos]
    rw [hmo]
    exact (ltk (by omega) (by decide)).mpr hmN
  have hcp : mCopy 96 (nn m) (gp σ Z.length (fun _ => 0)) a 0 Z.length 0 (mMin (Int32.ofNat 96) m) (fun s => some s) = some (gp (gp σ Z.length (fun _ => 0)) Z.length (va_cpy ((gp σ Z.length (fun _ => 0)) a) ((gp σ Z.length (fun _ => 0)) Z.length) (nn 0) (nn 0) (nn m))) := by
    unfold mCopy
    rw [hmin, if_pos ⟨by decide, by decide, hm0, by show 0 + nn m ≤ 96; omega, by show 0 + nn m ≤ nn m; omega⟩]
  refine gMet2_intro T_JA_copyOf T_JA_copyOf_ok rfl (fun _ => Nat.le_of_ble_eq_true rfl) (fun g ad C => ?_)
  show g 0 [(0, .ref (ad a)), (1, .int m)] [] σ
  refine g_iload_n C 0 1 rfl rfl ?_
  refine g_aload_n C 1 0 rfl rfl ?_
  refine g_alen C 2 rfl ha ?_
  refine g_icmp_ne_T C 3 14 rfl rfl hne ?_
  refine g_iload_n C 8 1 rfl rfl ?_
  refine g2_newi C 9 rfl kx_acint hm0 rfl (by show nn m * 4 ≤ _; omega) rfl hn2 hgc (Nat.le_of_ble_eq_true rfl) (by show 0 + nn m ≤ 96; omega) (fun ad => [(0, .ref (ad a)), (1, .int m)]) (fun ad => []) rfl rfl (fun _ h => ⟨by simp only [h a (Or.inl (lt_of_at ha))], rfl⟩) _ rfl (fun ad1 g1 hg1 C1 _ => ?_)
  show g1 17 [(0, .ref (ad1 a)), (1, .int m)] [.ref (ad1 Z.length)] _
  refine g_astore_n C1 10 [(2, .ref (ad1 Z.length)), (0, .ref (ad1 a)), (1, .int m)] rfl (by decide) rfl ?_
  refine g_aload_n C1 11 1 rfl rfl ?_
  refine g_iconst (v := 0) C1 12 rfl rfl ?_
  refine g_aload_n C1 13 0 rfl rfl ?_
  refine g_iconst (v := 0) C1 14 rfl rfl ?_
  refine g_aload_n C1 15 1 rfl rfl ?_
  refine g_alen C1 16 rfl (app_at ha) ?_
  refine g_iload_n C1 17 2 rfl rfl ?_
  refine g_mmin C1 18 rfl cnJA_304 wm_min ⟨Nat.le_of_ble_eq_true rfl, Nat.le_of_ble_eq_true rfl⟩ ?_
  refine g_copy (f := fun s => some s) C1 19 rfl cnJA_150 wm_copy ⟨Nat.le_of_ble_eq_true rfl, Nat.le_of_ble_eq_true rfl⟩ (app_at ha) app_last hcp (fun s hs => ?_)
  obtain rfl := Option.some.inj hs
  refine g_aload_n C1 20 0 rfl rfl ?_
  exact g2_areturn (Or.inr ⟨_, rfl⟩) C1 21 rfl hg1 rfl rfl (Nat.le_refl _) (by show 0 + nn m ≤ 96; omega)
def ZT (Z : List gH) (m : Nat) : List gH := Z ++ [.inl (7, tsh Z.length)] ++ [.inr (0, m, none)]
def ST (Z : List gH) (σ : gS) : gS :=
  gu (gu (gp (gp (gp σ Z.length (fun _ => 0)) (Z.length + 1) (fun _ => 0)) (Z.length + 1) (va_cpy ((gp (gp σ Z.length (fun _ => 0)) (Z.length + 1) (fun _ => 0)) 37) ((gp (gp σ Z.length (fun _ => 0)) (Z.length + 1) (fun _ => 0)) (Z.length + 1)) (nn 0) (nn 0) (nn (σ 36 2)))) Z.length 0 (σ 36 4)) Z.length 1 (σ 36 3)
theorem ZT_eq (Z : List gH) (m : Nat) : (Z ++ [.inl (7, [none, none, some none])] ++ [.inr (0, m, none)] : List gH).set Z.length (.inl (7, [none, none, some (some (Z.length + 1))])) = ZT Z m := by
  unfold ZT tsh
  rw [List.append_assoc, List.append_assoc, List.set_append_right _ _ (Nat.le_refl _)]
  simp
theorem gp_ne (σ : gS) {i a : Nat} (f : Nat → Int32) (h : a ≠ i) : gp σ i f a = σ a := if_neg h
set_option maxRecDepth 20000 in
set_option maxHeartbeats 4000000 in
theorem K_madeText {Z : List gH} (σ : gS) (hZ : Lay Z) (hgc : gcl Z Z.length) (hn2 : Z.length + 2 < 100000) (hm0 : ¬ σ 36 2 < 0) (hm : nn (σ 36 2) < 96) : gMet2 yX3_madeText cX3_madeText 1 (some (.object "CopiedFire$Text")) 3 2 99 Z σ (fun ad => [.ref (ad 36)]) (ZT Z (nn (σ 36 2))) (ST Z σ) (some (.inr Z.length)) := by
  have h36 : Z[36]? = some (.inl (2, [some (some 34), some (some 37), none, none, none, none, none, none, none])) := hZ.at rfl
  have h37 : Z[37]? = some (.inr (0, 96, none)) := hZ.at rfl
  have l36 := lt_of_at h36
  have l37 := lt_of_at h37
  have e36 : ∀ k, gp σ Z.length (fun _ => 0) 36 k = σ 36 k := fun k => by rw [gp_ne σ _ (by omega)]
  have hl1 : (Z ++ [.inl (7, [none, none, some none])] : List gH).length = Z.length + 1 := by simp
  refine gMet2_intro T_X3_madeText T_X3_madeText_ok rfl (fun _ => Nat.le_of_ble_eq_true rfl) (fun g ad C => ?_)
  show g 0 [(0, .ref (ad 36))] [] σ
  refine g2_new C 0 [none, none, some none] rfl (ci := 7) (N := 3) rfl itX8 tyX8 tyX8_ok clX3_52 inX8 (by decide +kernel) (nr_of rfl) (n := Z.length) rfl (by omega) hgc (Nat.le_of_ble_eq_true rfl) (Nat.le_of_ble_eq_true rfl) (fun ad => [(0, .ref (ad 36))]) (fun ad => []) rfl rfl (fun _ h => ⟨by simp only [h 36 (Or.inl l36)], rfl⟩) _ rfl (fun ad1 g1 hg1 C1 hgc1 => ?_)
  show g1 3 [(0, .ref (ad1 36))] [.ref (ad1 Z.length)] _
  refine g_dup C1 1 rfl rfl ?_
  refine g_aload_n C1 2 0 rfl rfl ?_
  refine g_geti C1 3 rfl flX3_42 (app_at h36) rfl ?_
  refine g_aload_n C1 4 0 rfl rfl ?_
  refine g_geti C1 5 rfl flX3_23 (app_at h36) rfl ?_
  refine g_aload_n C1 6 0 rfl rfl ?_
  refine g_getr (b := 37) C1 7 rfl flX3_15 (app_at h36) rfl ?_
  refine g_aload_n C1 8 0 rfl rfl ?_
  refine g_geti C1 9 rfl flX3_19 (app_at h36) rfl ?_
  rw [e36, e36, e36]
  have hK := K_copyOf (a := 37) (gp σ Z.length (fun _ => 0)) (σ 36 2) (by rw [hl1]; omega) (by rw [hl1]; exact hgc1) (app_at h37) hm0 hm
  rw [hl1] at hK
  refine g2_callSr C1 10 [.ref (ad1 37), .int (σ 36 2)] [.int (σ 36 3), .int (σ 36 4), .ref (ad1 Z.length), .ref (ad1 Z.length)] rfl hK wd973 cwJA_copyOf csJA_copyOf rfl rfl (n := Z.length + 1) hl1 (fun ad => [(0, .ref (ad 36))]) (fun ad => [.int (σ 36 3), .int (σ 36 4), .ref (ad Z.length), .ref (ad Z.length)]) rfl rfl (fun _ h => ⟨by simp only [h 36 (Or.inl (by omega))], by simp only [h Z.length (Or.inl (by omega))]⟩) rfl (Nat.le_of_ble_eq_true rfl) ⟨Nat.le_of_ble_eq_true rfl, Nat.le_of_ble_eq_true rfl⟩ (Nat.le_of_ble_eq_true rfl) (Nat.le_of_ble_eq_true rfl) (fun ad2 g2 hg2 C2 => ?_)
  show g2 23 [(0, .ref (ad2 36))] [.ref (ad2 (Z.length + 1)), .int (σ 36 3), .int (σ 36 4), .ref (ad2 Z.length), .ref (ad2 Z.length)] _
  have hl2 : (Z ++ [.inl (7, [none, none, some none])] ++ [.inr (0, nn (σ 36 2), none)] : List gH).length = Z.length + 2 := by simp
  have hgc2 : gcl (Z ++ [.inl (7, [none, none, some none])] ++ [.inr (0, nn (σ 36 2), none)]) (Z.length + 2) := hgc1.push trivial
  refine g2_callIv C2 11 [.int (σ 36 4), .int (σ 36 3), .ref (ad2 (Z.length + 1))] [.ref (ad2 Z.length)] rfl (K_Text (c := Z.length) (a := Z.length + 1) _ (σ 36 4) (σ 36 3) (by rw [hl2]; exact hgc2) (app_at app_last) (by rw [hl2]; omega)) cnX3_60 cwX8_init wc1190 rfl rfl rfl (n := Z.length + 2) hl2 (fun ad => [(0, .ref (ad 36))]) (fun ad => [.ref (ad Z.length)]) rfl rfl (fun _ h => ⟨by simp only [h 36 (Or.inl (by omega))], by simp only [h Z.length (Or.inl (by omega))]⟩) rfl (Nat.le_of_ble_eq_true rfl) ⟨Nat.le_of_ble_eq_true rfl, Nat.le_of_ble_eq_true rfl⟩ (Nat.le_of_ble_eq_true rfl) (Nat.le_of_ble_eq_true rfl) (fun ad3 g3 hg3 C3 => ?_)
  show g3 26 [(0, .ref (ad3 36))] [.ref (ad3 Z.length)] _
  exact g2_areturn (Or.inl ⟨_, rfl⟩) C3 12 rfl (AG.trans (by omega) hg1 (AG.trans (by omega) hg2 hg3)) (ZT_eq _ _) rfl (Nat.le_of_ble_eq_true rfl) (Nat.le_of_ble_eq_true rfl)
theorem within_eq {Z : List gH} {x a b : Int32} {σ : gS} (h1 : ¬ x < a) (h2 : ¬ b < x) : F_X9_within Z x a b σ = some (1, σ) := by
  unfold F_X9_within
  rw [if_neg h1, if_neg h2]
  exact if_pos (Or.inr rfl)
def ZP (Z : List gH) (t c : Nat) : List gH := Z.set 2 (.inr (5, 14, some (va_up (zr Z) t (some c))))
set_option maxRecDepth 20000 in
set_option maxHeartbeats 4000000 in
theorem K_put {Z : List gH} (σ : gS) (hZ : Lay Z) (hgc : gcl Z Z.length) (t : Int32) (c : Nat) {fs : List (Option (Option Nat))} (h0 : ¬ t < 0) (h1 : nn t < 14) (hc : Z[c]? = some (.inl (7, fs))) : gMet2 yX2_put cX2_put 3 none 2 0 0 Z σ (fun ad => [.ref (ad 1), .int t, .ref (ad c)]) (ZP Z (nn t) c) σ none := by
  have hto : t = Int32.ofNat (nn t) := (Int32.ofNat_toNatClampNeg t (Int32.not_lt.mp h0)).symm
  have h13 : ¬ 13 < t := by
    intro q
    rw [hto] at q
    have := (ltk (a := 13) (b := nn t) (by decide) (by omega)).mp q
    omega
  refine gMet2_intro T_X2_put T_X2_put_ok rfl (fun _ => Nat.le_of_ble_eq_true rfl) (fun g ad C => ?_)
  show g 0 [(0, .ref (ad 1)), (1, .int t), (2, .ref (ad c))] [] σ
  refine g_iload_n C 0 1 rfl rfl ?_
  refine g_iconst (v := 0) C 1 rfl rfl ?_
  refine g_bipush (v := 13) C 2 rfl rfl ?_
  refine g_callSi (f := fun r s => some (r, s)) (z := (1, σ)) C 3 [.int t, .int 0, .int 13] [] rfl (M_X9_within hZ t 0 13) cnX2_21 cwX9_within csX9_within rfl rfl rfl (Nat.le_of_ble_eq_true rfl) ⟨Nat.le_of_ble_eq_true rfl, Nat.le_of_ble_eq_true rfl⟩ (by rw [within_eq h0 h13]; rfl) (fun r s hs => ?_)
  obtain ⟨rfl, rfl⟩ := Prod.mk.inj (Option.some.inj hs)
  refine g_if_eq_F C 4 17 rfl rfl (by decide) ?_
  refine g_aload_n C 5 0 rfl rfl ?_
  refine g_getr (b := 2) C 6 rfl flX2_11 (hZ.at (i := 1) rfl) rfl ?_
  refine g_iload_n C 7 1 rfl rfl ?_
  refine g_aload_n C 8 2 rfl rfl ?_
  refine g2_aast C 9 rfl (t := 5) (ci := 7) (fun _ => rfl) hZ.2.1 hc rfl (fun q => q.elim h0 (fun q => absurd h1 (Nat.not_lt.mpr q))) rfl hgc _ rfl (fun g1 C1 _ => ?_)
  exact g2_return C1 10 rfl AG.rf rfl rfl (Nat.le_refl _) (Nat.le_refl _)
-- the layout behind these
theorem zr_of {Z : List gH} {t n : Nat} {rs : Nat → Option Nat} (h : Z[2]? = some (.inr (t, n, some rs))) : zr Z = rs := by
  funext k
  unfold zr
  rw [h]
theorem ia_app {Z X : List gH} {a : Nat} (h : IA Z a) : IA (Z ++ X) a := ia_of (app_at h)
theorem lay_app {Z : List gH} (X : List gH) (hZ : Lay Z) : Lay (Z ++ X) := by
  have e2 : (Z ++ X)[2]? = some (.inr (5, 14, some (zr Z))) := app_at hZ.2.1
  refine ⟨fun i h hi hl => app_at (hZ.1 i h hi hl), by rw [zr_of e2]; exact e2, fun t c hc => ?_⟩
  rw [zr_of e2] at hc
  exact ⟨app_at (hZ.2.2 t c hc).1, ia_app (hZ.2.2 t c hc).2⟩
theorem lay_put {Z : List gH} (hZ : Lay Z) {t c : Nat} (hc : TxB Z c) : Lay (ZP Z t c) ∧ zr (ZP Z t c) = va_up (zr Z) t (some c) := by
  have l2 := lt_of_at hZ.2.1
  have e2 : (ZP Z t c)[2]? = some (.inr (5, 14, some (va_up (zr Z) t (some c)))) := by unfold ZP; rw [List.getElem?_set_self l2]
  have ne : ∀ i, i ≠ 2 → (ZP Z t c)[i]? = Z[i]? := fun i hi => by unfold ZP; rw [List.getElem?_set_ne (Ne.symm hi)]
  have tx : ∀ b, TxB Z b → TxB (ZP Z t c) b := by
    intro b hb
    have hb2 : b ≠ 2 := by
      intro e
      subst e
      have := hb.1.symm.trans hZ.2.1
      cases this
    have hb1 : b + 1 ≠ 2 := by
      intro e
      have eb : b = 1 := by omega
      subst eb
      have := hb.1.symm.trans (hZ.at (i := 1) rfl)
      cases this
    refine ⟨by rw [ne b hb2]; exact hb.1, ia_of (n := zl Z (b + 1)) (by rw [ne _ hb1]; exact hb.2)⟩
  refine ⟨⟨fun i h hi hl => by rw [ne i hi]; exact hZ.1 i h hi hl, by rw [zr_of e2]; exact e2, fun k b hb => ?_⟩, zr_of e2⟩
  rw [zr_of e2] at hb
  unfold va_up at hb
  by_cases hk : k = t
  · rw [if_pos hk] at hb
    obtain rfl := Option.some.inj hb
    exact tx _ hc
  · rw [if_neg hk] at hb
    exact tx b (hZ.2.2 k b hb)
theorem lay_made {Z : List gH} (hZ : Lay Z) (m : Nat) : Lay (ZT Z m) ∧ TxB (ZT Z m) Z.length ∧ zr (ZT Z m) = zr Z := by
  have h1 : Lay (ZT Z m) := lay_app _ (lay_app _ hZ)
  refine ⟨h1, ⟨app_at app_last, ia_of (n := m) ?_⟩, ?_⟩
  · have e : (Z ++ [.inl (7, tsh Z.length)] : List gH).length = Z.length + 1 := by simp
    unfold ZT
    rw [← e]
    exact app_last
  · have e2 : (ZT Z m)[2]? = some (.inr (5, 14, some (zr Z))) := app_at (app_at hZ.2.1)
    exact zr_of e2
theorem gcl_put {Z : List gH} {n t c : Nat} (hgc : gcl Z n) (h2 : Z[2]? = some (.inr (5, 14, some (zr Z)))) (hc : c < n) : gcl (ZP Z t c) n := hgc.set (gc_up (hgc 2 _ h2) hc)
theorem gcl_made {Z : List gH} {m : Nat} (hgc : gcl Z Z.length) : gcl (ZT Z m) (Z.length + 2) := by
  rw [← ZT_eq]
  refine gcl.set (gcl.push (n := Z.length + 1) (gcl.push hgc (gc_o rfl)) trivial) ?_
  intro k r hr
  have hm := List.mem_of_getElem? hr
  simp at hm
  omega
/-- text(): the answer, the numbers, the layout -/
def F_text (Z : List gH) (σ : gS) : Option (Int32 × gS × List gH) :=
  mCall (F_X3_readText Z σ) (fun _ s1 => mLet (gu s1 34 1 0) (fun s =>
    if s 36 8 < 0 then
      if s 4 11 < 14 then
        if ¬ s 4 11 < 0 ∧ nn (s 4 11) < 14 ∧ ¬ s 36 2 < 0 ∧ nn (s 36 2) < 96 ∧ ¬ s 36 4 < 0 ∧ nn (s 36 4) < 3 then
          some (s 4 11 + 1 - 1, gu (gu (ST Z s) 12 (nn (s 36 4)) (s 4 11)) 4 11 (s 4 11 + 1), ZP (ZT Z (nn (s 36 2))) (nn (s 4 11)) Z.length)
        else none
      else some (-1000000003, s, Z)
    else some (-100 - s 36 8, s, Z)))
theorem ST_ne {Z : List gH} {σ : gS} {i : Nat} (h : i < Z.length) : ST Z σ i = σ i := by
  unfold ST
  rw [gu_ne _ _ _ (by omega), gu_ne _ _ _ (by omega), gp_ne _ _ (by omega), gp_ne _ _ (by omega), gp_ne _ _ (by omega)]
set_option maxRecDepth 20000 in
set_option maxHeartbeats 4000000 in
theorem K_text {Z : List gH} {σ σ2 : gS} {Z2 : List gH} {r : Int32} (hZ : Lay Z) (hgc : gcl Z Z.length) (hn2 : Z.length + 2 < 100000) (h : F_text Z σ = some (r, σ2, Z2)) : gMet2 yX9_text cX9_text 1 (some .int) 127 2 99 Z σ (fun ad => [.ref (ad 0)]) Z2 σ2 (some (.inl r)) := by
  refine gMet2_intro T_X9_text T_X9_text_ok rfl (fun _ => Nat.le_of_ble_eq_true rfl) (fun g ad C => ?_)
  show g 0 [(0, .ref (ad 0))] [] σ
  have l0 : 89 < Z.length := lt_of_at (hZ.at (i := 89) rfl)
  unfold F_text at h
  refine g_aload_n C 0 0 rfl rfl ?_
  refine g_getr (b := 36) C 1 rfl flX9_50 (hZ.at (i := 0) rfl) rfl ?_
  refine g_callVv C 2 [] [] rfl (M_X3_readText hZ) cnX9_252 cwX3_readText ciX3_readText (hZ.at (i := 36) rfl) rfl rfl rfl rfl (Nat.le_of_ble_eq_true rfl) ⟨Nat.le_of_ble_eq_true rfl, Nat.le_of_ble_eq_true rfl⟩ h (fun r1 s1 h => ?_)
  refine g_aload_n C 3 0 rfl rfl ?_
  refine g_getr (b := 34) C 4 rfl flX9_41 (hZ.at (i := 0) rfl) rfl ?_
  refine g_iconst (v := 0) C 5 rfl rfl ?_
  refine g_put C 6 rfl fpX9_245 (hZ.at (i := 34) rfl) rfl rfl rfl h (fun s h => ?_)
  refine g_aload_n C 7 0 rfl rfl ?_
  refine g_getr (b := 36) C 8 rfl flX9_50 (hZ.at (i := 0) rfl) rfl ?_
  refine g_geti C 9 rfl flX9_255 (hZ.at (i := 36) rfl) rfl ?_
  refine g_if_lt C 10 36 rfl rfl h (fun h => ?_) (fun h => ?_)
  · refine g_aload_n C 17 0 rfl rfl ?_
    refine g_getr (b := 4) C 18 rfl flX9_21 (hZ.at (i := 0) rfl) rfl ?_
    refine g_geti C 19 rfl flX9_258 (hZ.at (i := 4) rfl) rfl ?_
    refine g_bipush (v := 14) C 20 rfl rfl ?_
    refine g_icmp_lt C 21 51 rfl rfl h (fun h => ?_) (fun h => ?_)
    · by_cases hq : ¬ s 4 11 < 0 ∧ nn (s 4 11) < 14 ∧ ¬ s 36 2 < 0 ∧ nn (s 36 2) < 96 ∧ ¬ s 36 4 < 0 ∧ nn (s 36 4) < 3
      · rw [if_pos hq] at h
        obtain ⟨ht0, ht14, hm0, hm, hk0, hk⟩ := hq
        have h := Option.some.inj h
        have er : s 4 11 + 1 - 1 = r := congrArg Prod.fst h
        have es := congrArg (fun q => q.2.1) h
        have ez := congrArg (fun q => q.2.2) h
        dsimp only at es ez
        subst er; subst es; subst ez
        refine g_aload_n C 24 0 rfl rfl ?_
        refine g_getr (b := 1) C 25 rfl flX9_10 (hZ.at (i := 0) rfl) rfl ?_
        refine g_aload_n C 26 0 rfl rfl ?_
        refine g_getr (b := 4) C 27 rfl flX9_21 (hZ.at (i := 0) rfl) rfl ?_
        refine g_geti C 28 rfl flX9_258 (hZ.at (i := 4) rfl) rfl ?_
        refine g_aload_n C 29 0 rfl rfl ?_
        refine g_getr (b := 36) C 30 rfl flX9_50 (hZ.at (i := 0) rfl) rfl ?_
        refine g2_callVr C 31 [] [.int (s 4 11), .ref (ad 1)] rfl (K_madeText s hZ hgc hn2 hm0 hm) wd972 cwX3_madeText ciX3_madeText (hZ.at (i := 36) rfl) rfl rfl rfl (n := Z.length) rfl (fun ad => [(0, .ref (ad 0))]) (fun ad => [.int (s 4 11), .ref (ad 1)]) rfl rfl (fun _ h => ⟨by simp only [h 0 (Or.inl (by omega))], by simp only [h 1 (Or.inl (by omega))]⟩) rfl (Nat.le_of_ble_eq_true rfl) ⟨Nat.le_of_ble_eq_true rfl, Nat.le_of_ble_eq_true rfl⟩ (Nat.le_of_ble_eq_true rfl) (Nat.le_of_ble_eq_true rfl) (fun ad1 g1 hg1 C1 => ?_)
        show g1 69 [(0, .ref (ad1 0))] [.ref (ad1 Z.length), .int (s 4 11), .ref (ad1 1)] _
        obtain ⟨hZ1, htx, hzr⟩ := lay_made hZ (nn (s 36 2))
        have hl1 : (ZT Z (nn (s 36 2))).length = Z.length + 2 := by unfold ZT; simp
        have hgc1 : gcl (ZT Z (nn (s 36 2))) (ZT Z (nn (s 36 2))).length := by rw [hl1]; exact gcl_made hgc
        refine g2_callVv C1 32 [.int (s 4 11), .ref (ad1 Z.length)] [] rfl (K_put (ST Z s) hZ1 hgc1 (s 4 11) Z.length ht0 ht14 htx.1) wd977 cwX2_put ciX2_put (hZ1.at (i := 1) rfl) rfl rfl rfl (n := Z.length + 2) hl1 (fun ad => [(0, .ref (ad 0))]) (fun ad => []) rfl rfl (fun _ h => ⟨by simp only [h 0 (Or.inl (by omega))], rfl⟩) rfl (Nat.le_of_ble_eq_true rfl) ⟨Nat.le_of_ble_eq_true rfl, Nat.le_of_ble_eq_true rfl⟩ (Nat.le_of_ble_eq_true rfl) (Nat.le_of_ble_eq_true rfl) (fun ad2 g2 hg2 C2 => ?_)
        show g2 72 [(0, .ref (ad2 0))] [] _
        have hZ2 := (lay_put hZ1 (t := nn (s 4 11)) htx).1
        have e411 : (ST Z s) 4 11 = s 4 11 := by rw [ST_ne (by omega)]
        have e364 : (ST Z s) 36 4 = s 36 4 := by rw [ST_ne (by omega)]
        refine g_aload_n C2 33 0 rfl rfl ?_
        refine g_getr (b := 4) C2 34 rfl flX9_21 (hZ2.at (i := 0) rfl) rfl ?_
        refine g_getr (b := 12) C2 35 rfl flX9_239 (hZ2.at (i := 4) rfl) rfl ?_
        refine g_aload_n C2 36 0 rfl rfl ?_
        refine g_getr (b := 36) C2 37 rfl flX9_50 (hZ2.at (i := 0) rfl) rfl ?_
        refine g_geti C2 38 rfl flX9_269 (hZ2.at (i := 36) rfl) rfl ?_
        refine g_aload_n C2 39 0 rfl rfl ?_
        refine g_getr (b := 4) C2 40 rfl flX9_21 (hZ2.at (i := 0) rfl) rfl ?_
        refine g_geti C2 41 rfl flX9_258 (hZ2.at (i := 4) rfl) rfl ?_
        rw [e411, e364]
        refine g_iastK (f := fun s => some s) C2 42 (nn (s 36 4)) rfl (hZ2.at (i := 12) rfl) rfl (fun q => q.elim hk0 (fun q => absurd hk (Nat.not_lt.mpr q))) rfl (fun s3 hs3 => ?_)
        obtain rfl := Option.some.inj hs3
        have e4 : ∀ k, gu (ST Z s) 12 (nn (s 36 4)) (s 4 11) 4 k = s 4 k := fun k => by rw [gu_ne _ _ _ (by decide), ST_ne (by omega)]
        refine g_aload_n C2 43 0 rfl rfl ?_
        refine g_getr (b := 4) C2 44 rfl flX9_21 (hZ2.at (i := 0) rfl) rfl ?_
        refine g_dup C2 45 rfl rfl ?_
        refine g_geti C2 46 rfl flX9_258 (hZ2.at (i := 4) rfl) rfl ?_
        rw [e4]
        refine g_iconst (v := 1) C2 47 rfl rfl ?_
        refine g_iadd C2 48 rfl ?_
        refine g_put (f := fun s => some s) C2 49 rfl fpX9_258 (hZ2.at (i := 4) rfl) rfl rfl rfl rfl (fun s4 hs4 => ?_)
        obtain rfl := Option.some.inj hs4
        refine g_aload_n C2 50 0 rfl rfl ?_
        refine g_getr (b := 4) C2 51 rfl flX9_21 (hZ2.at (i := 0) rfl) rfl ?_
        refine g_geti C2 52 rfl flX9_258 (hZ2.at (i := 4) rfl) rfl ?_
        have e5 : gu (gu (ST Z s) 12 (nn (s 36 4)) (s 4 11)) 4 11 (s 4 11 + 1) 4 11 = s 4 11 + 1 := by rw [gu_same]; simp [upd]
        rw [e5]
        refine g_iconst (v := 1) C2 53 rfl rfl ?_
        refine g_isub C2 54 rfl ?_
        exact g2_ireturn C2 55 rfl (AG.trans (by omega) hg1 hg2) rfl rfl (Nat.le_of_ble_eq_true rfl) (Nat.le_of_ble_eq_true rfl)
      · rw [if_neg hq] at h; cases h
    · have h := Option.some.inj h
      have er : -1000000003 = r := congrArg Prod.fst h
      have es : s = σ2 := congrArg (fun q => q.2.1) h
      have ez : Z = Z2 := congrArg (fun q => q.2.2) h
      subst er; subst es; subst ez
      refine g_ldc C 22 rfl kcX9_98 ?_
      exact g2_ireturn C 23 rfl AG.rf rfl rfl (Nat.le_of_ble_eq_true rfl) (Nat.le_of_ble_eq_true rfl)
  · have h := Option.some.inj h
    obtain ⟨er, h2⟩ := Prod.mk.inj h
    obtain ⟨es, ez⟩ := Prod.mk.inj h2
    subst er; subst es; subst ez
    refine g_bipush (v := -100) C 11 rfl rfl ?_
    refine g_aload_n C 12 0 rfl rfl ?_
    refine g_getr (b := 36) C 13 rfl flX9_50 (hZ.at (i := 0) rfl) rfl ?_
    refine g_geti C 14 rfl flX9_255 (hZ.at (i := 36) rfl) rfl ?_
    refine g_isub C 15 rfl ?_
    exact g2_ireturn C 16 rfl AG.rf rfl rfl (Nat.le_of_ble_eq_true rfl) (Nat.le_of_ble_eq_true rfl)
