section
-- ===== PART A: goes FIRST, ahead of the names: the tables' words, and 'selects' of the private methods out of them =====
/-- a private method of a class that the tables say can be made, by its rows of tables_1 -/
def lw_okq (q : MethodName × Nat) : Prop := (q.1.cls ≠ "java/lang/invoke/MethodHandle" ∧ q.1.cls ≠ "java/lang/invoke/VarHandle") ∧ Cond.instantiable q.1.cls q.2 ∈ tables_1 ∧ Cond.privateMethod q.1 ∈ tables_1 ∧ Cond.instanceMethod q.1 ∈ tables_1
theorem lw_p0 : lw_okq (⟨"CopiedFire", "isThing", "(I)Z"⟩, 13) := ⟨⟨by decide +kernel, by decide +kernel⟩, List.mem_of_getElem? (i := 22) (by decide +kernel), List.mem_of_getElem? (i := 309) (by decide +kernel), List.mem_of_getElem? (i := 310) (by decide +kernel)⟩
theorem lw_p1 : lw_okq (⟨"CopiedFire$Laws", "has", "(I)Z"⟩, 2) := ⟨⟨by decide +kernel, by decide +kernel⟩, List.mem_of_getElem? (i := 30) (by decide +kernel), List.mem_of_getElem? (i := 321) (by decide +kernel), List.mem_of_getElem? (i := 322) (by decide +kernel)⟩
theorem lw_p2 : lw_okq (⟨"CopiedFire$House", "draw", "()I"⟩, 19) := ⟨⟨by decide +kernel, by decide +kernel⟩, List.mem_of_getElem? (i := 46) (by decide +kernel), List.mem_of_getElem? (i := 380) (by decide +kernel), List.mem_of_getElem? (i := 381) (by decide +kernel)⟩
theorem lw_p3 : lw_okq (⟨"CopiedFire", "isVisitor", "(I)Z"⟩, 13) := ⟨⟨by decide +kernel, by decide +kernel⟩, List.mem_of_getElem? (i := 22) (by decide +kernel), List.mem_of_getElem? (i := 429) (by decide +kernel), List.mem_of_getElem? (i := 430) (by decide +kernel)⟩
theorem lw_p4 : lw_okq (⟨"CopiedFire$Seating", "gatherLikes", "(LCopiedFire$House;)V"⟩, 2) := ⟨⟨by decide +kernel, by decide +kernel⟩, List.mem_of_getElem? (i := 133) (by decide +kernel), List.mem_of_getElem? (i := 441) (by decide +kernel), List.mem_of_getElem? (i := 442) (by decide +kernel)⟩
theorem lw_p5 : lw_okq (⟨"CopiedFire$Seating", "mostSeated", "(III)I"⟩, 2) := ⟨⟨by decide +kernel, by decide +kernel⟩, List.mem_of_getElem? (i := 133) (by decide +kernel), List.mem_of_getElem? (i := 445) (by decide +kernel), List.mem_of_getElem? (i := 446) (by decide +kernel)⟩
theorem lw_p6 : lw_okq (⟨"CopiedFire$Seating", "leastRoom", "(IIII)I"⟩, 2) := ⟨⟨by decide +kernel, by decide +kernel⟩, List.mem_of_getElem? (i := 133) (by decide +kernel), List.mem_of_getElem? (i := 456) (by decide +kernel), List.mem_of_getElem? (i := 457) (by decide +kernel)⟩
theorem lw_p7 : lw_okq (⟨"CopiedFire$House", "burnThings", "()V"⟩, 19) := ⟨⟨by decide +kernel, by decide +kernel⟩, List.mem_of_getElem? (i := 46) (by decide +kernel), List.mem_of_getElem? (i := 479) (by decide +kernel), List.mem_of_getElem? (i := 480) (by decide +kernel)⟩
theorem lw_p8 : lw_okq (⟨"CopiedFire$House", "spreadHeat", "()V"⟩, 19) := ⟨⟨by decide +kernel, by decide +kernel⟩, List.mem_of_getElem? (i := 46) (by decide +kernel), List.mem_of_getElem? (i := 486) (by decide +kernel), List.mem_of_getElem? (i := 487) (by decide +kernel)⟩
theorem lw_p9 : lw_okq (⟨"CopiedFire$House", "coolRooms", "()V"⟩, 19) := ⟨⟨by decide +kernel, by decide +kernel⟩, List.mem_of_getElem? (i := 46) (by decide +kernel), List.mem_of_getElem? (i := 490) (by decide +kernel), List.mem_of_getElem? (i := 491) (by decide +kernel)⟩
theorem lw_p10 : lw_okq (⟨"CopiedFire$House", "lightThings", "()V"⟩, 19) := ⟨⟨by decide +kernel, by decide +kernel⟩, List.mem_of_getElem? (i := 46) (by decide +kernel), List.mem_of_getElem? (i := 495) (by decide +kernel), List.mem_of_getElem? (i := 496) (by decide +kernel)⟩
theorem lw_p11 : lw_okq (⟨"CopiedFire$House", "blowWind", "()V"⟩, 19) := ⟨⟨by decide +kernel, by decide +kernel⟩, List.mem_of_getElem? (i := 46) (by decide +kernel), List.mem_of_getElem? (i := 500) (by decide +kernel), List.mem_of_getElem? (i := 501) (by decide +kernel)⟩
theorem lw_p12 : lw_okq (⟨"CopiedFire", "thinkOn", "(II)I"⟩, 13) := ⟨⟨by decide +kernel, by decide +kernel⟩, List.mem_of_getElem? (i := 22) (by decide +kernel), List.mem_of_getElem? (i := 529) (by decide +kernel), List.mem_of_getElem? (i := 530) (by decide +kernel)⟩
theorem lw_p13 : lw_okq (⟨"CopiedFire", "canHaveBegunBy", "(ILCopiedFire$Sheet;)Z"⟩, 13) := ⟨⟨by decide +kernel, by decide +kernel⟩, List.mem_of_getElem? (i := 22) (by decide +kernel), List.mem_of_getElem? (i := 565) (by decide +kernel), List.mem_of_getElem? (i := 566) (by decide +kernel)⟩
theorem lw_p14 : lw_okq (⟨"CopiedFire", "sumDifferences", "(LCopiedFire$Sheet;)V"⟩, 13) := ⟨⟨by decide +kernel, by decide +kernel⟩, List.mem_of_getElem? (i := 22) (by decide +kernel), List.mem_of_getElem? (i := 585) (by decide +kernel), List.mem_of_getElem? (i := 586) (by decide +kernel)⟩
theorem lw_p15 : lw_okq (⟨"CopiedFire$Reader", "goOn", "()V"⟩, 9) := ⟨⟨by decide +kernel, by decide +kernel⟩, List.mem_of_getElem? (i := 163) (by decide +kernel), List.mem_of_getElem? (i := 621) (by decide +kernel), List.mem_of_getElem? (i := 622) (by decide +kernel)⟩
def lw_privs_1 : List (MethodName × Nat) := [(⟨"CopiedFire", "isThing", "(I)Z"⟩, 13), (⟨"CopiedFire$Laws", "has", "(I)Z"⟩, 2), (⟨"CopiedFire$House", "draw", "()I"⟩, 19), (⟨"CopiedFire", "isVisitor", "(I)Z"⟩, 13), (⟨"CopiedFire$Seating", "gatherLikes", "(LCopiedFire$House;)V"⟩, 2), (⟨"CopiedFire$Seating", "mostSeated", "(III)I"⟩, 2), (⟨"CopiedFire$Seating", "leastRoom", "(IIII)I"⟩, 2), (⟨"CopiedFire$House", "burnThings", "()V"⟩, 19), (⟨"CopiedFire$House", "spreadHeat", "()V"⟩, 19), (⟨"CopiedFire$House", "coolRooms", "()V"⟩, 19), (⟨"CopiedFire$House", "lightThings", "()V"⟩, 19), (⟨"CopiedFire$House", "blowWind", "()V"⟩, 19), (⟨"CopiedFire", "thinkOn", "(II)I"⟩, 13), (⟨"CopiedFire", "canHaveBegunBy", "(ILCopiedFire$Sheet;)Z"⟩, 13), (⟨"CopiedFire", "sumDifferences", "(LCopiedFire$Sheet;)V"⟩, 13), (⟨"CopiedFire$Reader", "goOn", "()V"⟩, 9)]
theorem lw_r1 : ∀ q ∈ lw_privs_1, lw_okq q := List.forall_mem_cons.mpr ⟨lw_p0, List.forall_mem_cons.mpr ⟨lw_p1, List.forall_mem_cons.mpr ⟨lw_p2, List.forall_mem_cons.mpr ⟨lw_p3, List.forall_mem_cons.mpr ⟨lw_p4, List.forall_mem_cons.mpr ⟨lw_p5, List.forall_mem_cons.mpr ⟨lw_p6, List.forall_mem_cons.mpr ⟨lw_p7, List.forall_mem_cons.mpr ⟨lw_p8, List.forall_mem_cons.mpr ⟨lw_p9, List.forall_mem_cons.mpr ⟨lw_p10, List.forall_mem_cons.mpr ⟨lw_p11, List.forall_mem_cons.mpr ⟨lw_p12, List.forall_mem_cons.mpr ⟨lw_p13, List.forall_mem_cons.mpr ⟨lw_p14, List.forall_mem_cons.mpr ⟨lw_p15, fun _ h => absurd h List.not_mem_nil⟩⟩⟩⟩⟩⟩⟩⟩⟩⟩⟩⟩⟩⟩⟩⟩
theorem lw_p16 : lw_okq (⟨"CopiedFire$Reader", "endOfRow", "(III)I"⟩, 9) := ⟨⟨by decide +kernel, by decide +kernel⟩, List.mem_of_getElem? (i := 163) (by decide +kernel), List.mem_of_getElem? (i := 625) (by decide +kernel), List.mem_of_getElem? (i := 626) (by decide +kernel)⟩
theorem lw_p17 : lw_okq (⟨"CopiedFire$Reader", "keyRead", "()I"⟩, 9) := ⟨⟨by decide +kernel, by decide +kernel⟩, List.mem_of_getElem? (i := 163) (by decide +kernel), List.mem_of_getElem? (i := 630) (by decide +kernel), List.mem_of_getElem? (i := 631) (by decide +kernel)⟩
theorem lw_p18 : lw_okq (⟨"CopiedFire$Reader", "isWord", "(Ljava/lang/String;)Z"⟩, 9) := ⟨⟨by decide +kernel, by decide +kernel⟩, List.mem_of_getElem? (i := 163) (by decide +kernel), List.mem_of_getElem? (i := 635) (by decide +kernel), List.mem_of_getElem? (i := 636) (by decide +kernel)⟩
theorem lw_p19 : lw_okq (⟨"CopiedFire$Reader", "stop", "()V"⟩, 9) := ⟨⟨by decide +kernel, by decide +kernel⟩, List.mem_of_getElem? (i := 163) (by decide +kernel), List.mem_of_getElem? (i := 689) (by decide +kernel), List.mem_of_getElem? (i := 690) (by decide +kernel)⟩
theorem lw_p20 : lw_okq (⟨"CopiedFire$Reader", "readLevel", "(III)V"⟩, 9) := ⟨⟨by decide +kernel, by decide +kernel⟩, List.mem_of_getElem? (i := 163) (by decide +kernel), List.mem_of_getElem? (i := 693) (by decide +kernel), List.mem_of_getElem? (i := 694) (by decide +kernel)⟩
theorem lw_p21 : lw_okq (⟨"CopiedFire$Reader", "readPiece", "(II)V"⟩, 9) := ⟨⟨by decide +kernel, by decide +kernel⟩, List.mem_of_getElem? (i := 163) (by decide +kernel), List.mem_of_getElem? (i := 697) (by decide +kernel), List.mem_of_getElem? (i := 698) (by decide +kernel)⟩
theorem lw_p22 : lw_okq (⟨"CopiedFire$Reader", "nameRead", "()I"⟩, 9) := ⟨⟨by decide +kernel, by decide +kernel⟩, List.mem_of_getElem? (i := 163) (by decide +kernel), List.mem_of_getElem? (i := 701) (by decide +kernel), List.mem_of_getElem? (i := 702) (by decide +kernel)⟩
theorem lw_p23 : lw_okq (⟨"CopiedFire$Reader", "addOperand", "(I)V"⟩, 9) := ⟨⟨by decide +kernel, by decide +kernel⟩, List.mem_of_getElem? (i := 163) (by decide +kernel), List.mem_of_getElem? (i := 763) (by decide +kernel), List.mem_of_getElem? (i := 764) (by decide +kernel)⟩
theorem lw_p24 : lw_okq (⟨"CopiedFire$Reader", "addStep", "(I)V"⟩, 9) := ⟨⟨by decide +kernel, by decide +kernel⟩, List.mem_of_getElem? (i := 163) (by decide +kernel), List.mem_of_getElem? (i := 767) (by decide +kernel), List.mem_of_getElem? (i := 768) (by decide +kernel)⟩
theorem lw_p25 : lw_okq (⟨"CopiedFire$Reader", "numberRead", "()I"⟩, 9) := ⟨⟨by decide +kernel, by decide +kernel⟩, List.mem_of_getElem? (i := 163) (by decide +kernel), List.mem_of_getElem? (i := 771) (by decide +kernel), List.mem_of_getElem? (i := 772) (by decide +kernel)⟩
theorem lw_p26 : lw_okq (⟨"CopiedFire$Reader", "isSignOf", "(I)Z"⟩, 9) := ⟨⟨by decide +kernel, by decide +kernel⟩, List.mem_of_getElem? (i := 163) (by decide +kernel), List.mem_of_getElem? (i := 775) (by decide +kernel), List.mem_of_getElem? (i := 776) (by decide +kernel)⟩
theorem lw_p27 : lw_okq (⟨"CopiedFire", "findingFor", "(II)I"⟩, 13) := ⟨⟨by decide +kernel, by decide +kernel⟩, List.mem_of_getElem? (i := 22) (by decide +kernel), List.mem_of_getElem? (i := 888) (by decide +kernel), List.mem_of_getElem? (i := 889) (by decide +kernel)⟩
theorem lw_p28 : lw_okq (⟨"CopiedFireModel", "comes", "(IIII)I"⟩, 37) := ⟨⟨by decide +kernel, by decide +kernel⟩, List.mem_of_getElem? (i := 921) (by decide +kernel), List.mem_of_getElem? (i := 1056) (by decide +kernel), List.mem_of_getElem? (i := 1057) (by decide +kernel)⟩
theorem lw_p29 : lw_okq (⟨"CopiedFireModel", "put", "(III)V"⟩, 37) := ⟨⟨by decide +kernel, by decide +kernel⟩, List.mem_of_getElem? (i := 921) (by decide +kernel), List.mem_of_getElem? (i := 1060) (by decide +kernel), List.mem_of_getElem? (i := 1061) (by decide +kernel)⟩
theorem lw_p30 : lw_okq (⟨"CopiedFireModel", "isThing", "(I)Z"⟩, 37) := ⟨⟨by decide +kernel, by decide +kernel⟩, List.mem_of_getElem? (i := 921) (by decide +kernel), List.mem_of_getElem? (i := 1068) (by decide +kernel), List.mem_of_getElem? (i := 1069) (by decide +kernel)⟩
theorem lw_p31 : lw_okq (⟨"CopiedFireModel", "of", "(II)I"⟩, 37) := ⟨⟨by decide +kernel, by decide +kernel⟩, List.mem_of_getElem? (i := 921) (by decide +kernel), List.mem_of_getElem? (i := 1072) (by decide +kernel), List.mem_of_getElem? (i := 1073) (by decide +kernel)⟩
def lw_privs_2 : List (MethodName × Nat) := [(⟨"CopiedFire$Reader", "endOfRow", "(III)I"⟩, 9), (⟨"CopiedFire$Reader", "keyRead", "()I"⟩, 9), (⟨"CopiedFire$Reader", "isWord", "(Ljava/lang/String;)Z"⟩, 9), (⟨"CopiedFire$Reader", "stop", "()V"⟩, 9), (⟨"CopiedFire$Reader", "readLevel", "(III)V"⟩, 9), (⟨"CopiedFire$Reader", "readPiece", "(II)V"⟩, 9), (⟨"CopiedFire$Reader", "nameRead", "()I"⟩, 9), (⟨"CopiedFire$Reader", "addOperand", "(I)V"⟩, 9), (⟨"CopiedFire$Reader", "addStep", "(I)V"⟩, 9), (⟨"CopiedFire$Reader", "numberRead", "()I"⟩, 9), (⟨"CopiedFire$Reader", "isSignOf", "(I)Z"⟩, 9), (⟨"CopiedFire", "findingFor", "(II)I"⟩, 13), (⟨"CopiedFireModel", "comes", "(IIII)I"⟩, 37), (⟨"CopiedFireModel", "put", "(III)V"⟩, 37), (⟨"CopiedFireModel", "isThing", "(I)Z"⟩, 37), (⟨"CopiedFireModel", "of", "(II)I"⟩, 37)]
theorem lw_r2 : ∀ q ∈ lw_privs_2, lw_okq q := List.forall_mem_cons.mpr ⟨lw_p16, List.forall_mem_cons.mpr ⟨lw_p17, List.forall_mem_cons.mpr ⟨lw_p18, List.forall_mem_cons.mpr ⟨lw_p19, List.forall_mem_cons.mpr ⟨lw_p20, List.forall_mem_cons.mpr ⟨lw_p21, List.forall_mem_cons.mpr ⟨lw_p22, List.forall_mem_cons.mpr ⟨lw_p23, List.forall_mem_cons.mpr ⟨lw_p24, List.forall_mem_cons.mpr ⟨lw_p25, List.forall_mem_cons.mpr ⟨lw_p26, List.forall_mem_cons.mpr ⟨lw_p27, List.forall_mem_cons.mpr ⟨lw_p28, List.forall_mem_cons.mpr ⟨lw_p29, List.forall_mem_cons.mpr ⟨lw_p30, List.forall_mem_cons.mpr ⟨lw_p31, fun _ h => absurd h List.not_mem_nil⟩⟩⟩⟩⟩⟩⟩⟩⟩⟩⟩⟩⟩⟩⟩⟩
theorem lw_p32 : lw_okq (⟨"CopiedFireModel", "burnsOf", "(I)I"⟩, 37) := ⟨⟨by decide +kernel, by decide +kernel⟩, List.mem_of_getElem? (i := 921) (by decide +kernel), List.mem_of_getElem? (i := 1076) (by decide +kernel), List.mem_of_getElem? (i := 1077) (by decide +kernel)⟩
theorem lw_p33 : lw_okq (⟨"CopiedFireModel", "counts", "(I)I"⟩, 37) := ⟨⟨by decide +kernel, by decide +kernel⟩, List.mem_of_getElem? (i := 921) (by decide +kernel), List.mem_of_getElem? (i := 1080) (by decide +kernel), List.mem_of_getElem? (i := 1081) (by decide +kernel)⟩
theorem lw_p34 : lw_okq (⟨"CopiedFireModel", "worksOut", "(I)I"⟩, 37) := ⟨⟨by decide +kernel, by decide +kernel⟩, List.mem_of_getElem? (i := 921) (by decide +kernel), List.mem_of_getElem? (i := 1084) (by decide +kernel), List.mem_of_getElem? (i := 1085) (by decide +kernel)⟩
theorem lw_p35 : lw_okq (⟨"CopiedFireModel", "givesOf", "(II)I"⟩, 37) := ⟨⟨by decide +kernel, by decide +kernel⟩, List.mem_of_getElem? (i := 921) (by decide +kernel), List.mem_of_getElem? (i := 1094) (by decide +kernel), List.mem_of_getElem? (i := 1095) (by decide +kernel)⟩
theorem lw_p36 : lw_okq (⟨"CopiedFireModel", "catchesOf", "(I)I"⟩, 37) := ⟨⟨by decide +kernel, by decide +kernel⟩, List.mem_of_getElem? (i := 921) (by decide +kernel), List.mem_of_getElem? (i := 1098) (by decide +kernel), List.mem_of_getElem? (i := 1099) (by decide +kernel)⟩
theorem lw_p37 : lw_okq (⟨"CopiedFireModel", "worthOf", "(I)I"⟩, 37) := ⟨⟨by decide +kernel, by decide +kernel⟩, List.mem_of_getElem? (i := 921) (by decide +kernel), List.mem_of_getElem? (i := 1102) (by decide +kernel), List.mem_of_getElem? (i := 1103) (by decide +kernel)⟩
theorem lw_p38 : lw_okq (⟨"CopiedFireModel", "swaps", "(II)I"⟩, 37) := ⟨⟨by decide +kernel, by decide +kernel⟩, List.mem_of_getElem? (i := 921) (by decide +kernel), List.mem_of_getElem? (i := 1118) (by decide +kernel), List.mem_of_getElem? (i := 1119) (by decide +kernel)⟩
theorem lw_p39 : lw_okq (⟨"CopiedFireModel", "draw", "()I"⟩, 37) := ⟨⟨by decide +kernel, by decide +kernel⟩, List.mem_of_getElem? (i := 921) (by decide +kernel), List.mem_of_getElem? (i := 1130) (by decide +kernel), List.mem_of_getElem? (i := 1131) (by decide +kernel)⟩
theorem lw_p40 : lw_okq (⟨"CopiedFireModel", "leaves", "(III)I"⟩, 37) := ⟨⟨by decide +kernel, by decide +kernel⟩, List.mem_of_getElem? (i := 921) (by decide +kernel), List.mem_of_getElem? (i := 1154) (by decide +kernel), List.mem_of_getElem? (i := 1155) (by decide +kernel)⟩
theorem lw_p41 : lw_okq (⟨"CopiedFireModel", "gives", "(III)V"⟩, 37) := ⟨⟨by decide +kernel, by decide +kernel⟩, List.mem_of_getElem? (i := 921) (by decide +kernel), List.mem_of_getElem? (i := 1178) (by decide +kernel), List.mem_of_getElem? (i := 1179) (by decide +kernel)⟩
theorem lw_p42 : lw_okq (⟨"CopiedFireModel", "goesOn", "(I)V"⟩, 37) := ⟨⟨by decide +kernel, by decide +kernel⟩, List.mem_of_getElem? (i := 921) (by decide +kernel), List.mem_of_getElem? (i := 1191) (by decide +kernel), List.mem_of_getElem? (i := 1192) (by decide +kernel)⟩
theorem lw_p43 : lw_okq (⟨"CopiedFireModel", "minute", "()V"⟩, 37) := ⟨⟨by decide +kernel, by decide +kernel⟩, List.mem_of_getElem? (i := 921) (by decide +kernel), List.mem_of_getElem? (i := 1195) (by decide +kernel), List.mem_of_getElem? (i := 1196) (by decide +kernel)⟩
theorem lw_p44 : lw_okq (⟨"CopiedFireModel", "burns", "(I)V"⟩, 37) := ⟨⟨by decide +kernel, by decide +kernel⟩, List.mem_of_getElem? (i := 921) (by decide +kernel), List.mem_of_getElem? (i := 1199) (by decide +kernel), List.mem_of_getElem? (i := 1200) (by decide +kernel)⟩
theorem lw_p45 : lw_okq (⟨"CopiedFireModel", "evens", "()V"⟩, 37) := ⟨⟨by decide +kernel, by decide +kernel⟩, List.mem_of_getElem? (i := 921) (by decide +kernel), List.mem_of_getElem? (i := 1203) (by decide +kernel), List.mem_of_getElem? (i := 1204) (by decide +kernel)⟩
theorem lw_p46 : lw_okq (⟨"CopiedFireModel", "catches", "()V"⟩, 37) := ⟨⟨by decide +kernel, by decide +kernel⟩, List.mem_of_getElem? (i := 921) (by decide +kernel), List.mem_of_getElem? (i := 1207) (by decide +kernel), List.mem_of_getElem? (i := 1208) (by decide +kernel)⟩
theorem lw_p47 : lw_okq (⟨"CopiedFireModel", "blows", "()V"⟩, 37) := ⟨⟨by decide +kernel, by decide +kernel⟩, List.mem_of_getElem? (i := 921) (by decide +kernel), List.mem_of_getElem? (i := 1211) (by decide +kernel), List.mem_of_getElem? (i := 1212) (by decide +kernel)⟩
def lw_privs_3 : List (MethodName × Nat) := [(⟨"CopiedFireModel", "burnsOf", "(I)I"⟩, 37), (⟨"CopiedFireModel", "counts", "(I)I"⟩, 37), (⟨"CopiedFireModel", "worksOut", "(I)I"⟩, 37), (⟨"CopiedFireModel", "givesOf", "(II)I"⟩, 37), (⟨"CopiedFireModel", "catchesOf", "(I)I"⟩, 37), (⟨"CopiedFireModel", "worthOf", "(I)I"⟩, 37), (⟨"CopiedFireModel", "swaps", "(II)I"⟩, 37), (⟨"CopiedFireModel", "draw", "()I"⟩, 37), (⟨"CopiedFireModel", "leaves", "(III)I"⟩, 37), (⟨"CopiedFireModel", "gives", "(III)V"⟩, 37), (⟨"CopiedFireModel", "goesOn", "(I)V"⟩, 37), (⟨"CopiedFireModel", "minute", "()V"⟩, 37), (⟨"CopiedFireModel", "burns", "(I)V"⟩, 37), (⟨"CopiedFireModel", "evens", "()V"⟩, 37), (⟨"CopiedFireModel", "catches", "()V"⟩, 37), (⟨"CopiedFireModel", "blows", "()V"⟩, 37)]
theorem lw_r3 : ∀ q ∈ lw_privs_3, lw_okq q := List.forall_mem_cons.mpr ⟨lw_p32, List.forall_mem_cons.mpr ⟨lw_p33, List.forall_mem_cons.mpr ⟨lw_p34, List.forall_mem_cons.mpr ⟨lw_p35, List.forall_mem_cons.mpr ⟨lw_p36, List.forall_mem_cons.mpr ⟨lw_p37, List.forall_mem_cons.mpr ⟨lw_p38, List.forall_mem_cons.mpr ⟨lw_p39, List.forall_mem_cons.mpr ⟨lw_p40, List.forall_mem_cons.mpr ⟨lw_p41, List.forall_mem_cons.mpr ⟨lw_p42, List.forall_mem_cons.mpr ⟨lw_p43, List.forall_mem_cons.mpr ⟨lw_p44, List.forall_mem_cons.mpr ⟨lw_p45, List.forall_mem_cons.mpr ⟨lw_p46, List.forall_mem_cons.mpr ⟨lw_p47, fun _ h => absurd h List.not_mem_nil⟩⟩⟩⟩⟩⟩⟩⟩⟩⟩⟩⟩⟩⟩⟩⟩
theorem lw_p48 : lw_okq (⟨"CopiedFireModel", "lit", "()I"⟩, 37) := ⟨⟨by decide +kernel, by decide +kernel⟩, List.mem_of_getElem? (i := 921) (by decide +kernel), List.mem_of_getElem? (i := 1219) (by decide +kernel), List.mem_of_getElem? (i := 1220) (by decide +kernel)⟩
theorem lw_p49 : lw_okq (⟨"CopiedFireModel", "allHeat", "()I"⟩, 37) := ⟨⟨by decide +kernel, by decide +kernel⟩, List.mem_of_getElem? (i := 921) (by decide +kernel), List.mem_of_getElem? (i := 1223) (by decide +kernel), List.mem_of_getElem? (i := 1224) (by decide +kernel)⟩
theorem lw_p50 : lw_okq (⟨"CopiedFireModel", "thinks", "()V"⟩, 37) := ⟨⟨by decide +kernel, by decide +kernel⟩, List.mem_of_getElem? (i := 921) (by decide +kernel), List.mem_of_getElem? (i := 1231) (by decide +kernel), List.mem_of_getElem? (i := 1232) (by decide +kernel)⟩
theorem lw_p51 : lw_okq (⟨"CopiedFireModel", "putsBack", "()V"⟩, 37) := ⟨⟨by decide +kernel, by decide +kernel⟩, List.mem_of_getElem? (i := 921) (by decide +kernel), List.mem_of_getElem? (i := 1238) (by decide +kernel), List.mem_of_getElem? (i := 1239) (by decide +kernel)⟩
theorem lw_p52 : lw_okq (⟨"CopiedFireModel", "burntBy", "(I)I"⟩, 37) := ⟨⟨by decide +kernel, by decide +kernel⟩, List.mem_of_getElem? (i := 921) (by decide +kernel), List.mem_of_getElem? (i := 1254) (by decide +kernel), List.mem_of_getElem? (i := 1255) (by decide +kernel)⟩
theorem lw_p53 : lw_okq (⟨"CopiedFireModel", "isSo", "(I)Z"⟩, 37) := ⟨⟨by decide +kernel, by decide +kernel⟩, List.mem_of_getElem? (i := 921) (by decide +kernel), List.mem_of_getElem? (i := 1274) (by decide +kernel), List.mem_of_getElem? (i := 1275) (by decide +kernel)⟩
theorem lw_p54 : lw_okq (⟨"CopiedFireModel", "go", "()V"⟩, 37) := ⟨⟨by decide +kernel, by decide +kernel⟩, List.mem_of_getElem? (i := 921) (by decide +kernel), List.mem_of_getElem? (i := 1305) (by decide +kernel), List.mem_of_getElem? (i := 1306) (by decide +kernel)⟩
theorem lw_p55 : lw_okq (⟨"CopiedFireModel", "isLetter", "(I)Z"⟩, 37) := ⟨⟨by decide +kernel, by decide +kernel⟩, List.mem_of_getElem? (i := 921) (by decide +kernel), List.mem_of_getElem? (i := 1309) (by decide +kernel), List.mem_of_getElem? (i := 1310) (by decide +kernel)⟩
theorem lw_p56 : lw_okq (⟨"CopiedFireModel", "isFigure", "(I)Z"⟩, 37) := ⟨⟨by decide +kernel, by decide +kernel⟩, List.mem_of_getElem? (i := 921) (by decide +kernel), List.mem_of_getElem? (i := 1313) (by decide +kernel), List.mem_of_getElem? (i := 1314) (by decide +kernel)⟩
theorem lw_p57 : lw_okq (⟨"CopiedFireModel", "takesKey", "()Z"⟩, 37) := ⟨⟨by decide +kernel, by decide +kernel⟩, List.mem_of_getElem? (i := 921) (by decide +kernel), List.mem_of_getElem? (i := 1317) (by decide +kernel), List.mem_of_getElem? (i := 1318) (by decide +kernel)⟩
theorem lw_p58 : lw_okq (⟨"CopiedFireModel", "takesE", "()Z"⟩, 37) := ⟨⟨by decide +kernel, by decide +kernel⟩, List.mem_of_getElem? (i := 921) (by decide +kernel), List.mem_of_getElem? (i := 1321) (by decide +kernel), List.mem_of_getElem? (i := 1322) (by decide +kernel)⟩
theorem lw_p59 : lw_okq (⟨"CopiedFireModel", "takesPart", "()Z"⟩, 37) := ⟨⟨by decide +kernel, by decide +kernel⟩, List.mem_of_getElem? (i := 921) (by decide +kernel), List.mem_of_getElem? (i := 1325) (by decide +kernel), List.mem_of_getElem? (i := 1326) (by decide +kernel)⟩
theorem lw_p60 : lw_okq (⟨"CopiedFireModel", "nameOf", "(I)I"⟩, 37) := ⟨⟨by decide +kernel, by decide +kernel⟩, List.mem_of_getElem? (i := 921) (by decide +kernel), List.mem_of_getElem? (i := 1329) (by decide +kernel), List.mem_of_getElem? (i := 1330) (by decide +kernel)⟩
theorem lw_p61 : lw_okq (⟨"CopiedFireModel", "settle", "(I)V"⟩, 37) := ⟨⟨by decide +kernel, by decide +kernel⟩, List.mem_of_getElem? (i := 921) (by decide +kernel), List.mem_of_getElem? (i := 1333) (by decide +kernel), List.mem_of_getElem? (i := 1334) (by decide +kernel)⟩
theorem lw_p62 : lw_okq (⟨"CopiedFireModel", "notsOpen", "()I"⟩, 37) := ⟨⟨by decide +kernel, by decide +kernel⟩, List.mem_of_getElem? (i := 921) (by decide +kernel), List.mem_of_getElem? (i := 1340) (by decide +kernel), List.mem_of_getElem? (i := 1341) (by decide +kernel)⟩
theorem lw_p63 : lw_okq (⟨"CopiedFireModel", "signHere", "()I"⟩, 37) := ⟨⟨by decide +kernel, by decide +kernel⟩, List.mem_of_getElem? (i := 921) (by decide +kernel), List.mem_of_getElem? (i := 1344) (by decide +kernel), List.mem_of_getElem? (i := 1345) (by decide +kernel)⟩
def lw_privs_4 : List (MethodName × Nat) := [(⟨"CopiedFireModel", "lit", "()I"⟩, 37), (⟨"CopiedFireModel", "allHeat", "()I"⟩, 37), (⟨"CopiedFireModel", "thinks", "()V"⟩, 37), (⟨"CopiedFireModel", "putsBack", "()V"⟩, 37), (⟨"CopiedFireModel", "burntBy", "(I)I"⟩, 37), (⟨"CopiedFireModel", "isSo", "(I)Z"⟩, 37), (⟨"CopiedFireModel", "go", "()V"⟩, 37), (⟨"CopiedFireModel", "isLetter", "(I)Z"⟩, 37), (⟨"CopiedFireModel", "isFigure", "(I)Z"⟩, 37), (⟨"CopiedFireModel", "takesKey", "()Z"⟩, 37), (⟨"CopiedFireModel", "takesE", "()Z"⟩, 37), (⟨"CopiedFireModel", "takesPart", "()Z"⟩, 37), (⟨"CopiedFireModel", "nameOf", "(I)I"⟩, 37), (⟨"CopiedFireModel", "settle", "(I)V"⟩, 37), (⟨"CopiedFireModel", "notsOpen", "()I"⟩, 37), (⟨"CopiedFireModel", "signHere", "()I"⟩, 37)]
theorem lw_r4 : ∀ q ∈ lw_privs_4, lw_okq q := List.forall_mem_cons.mpr ⟨lw_p48, List.forall_mem_cons.mpr ⟨lw_p49, List.forall_mem_cons.mpr ⟨lw_p50, List.forall_mem_cons.mpr ⟨lw_p51, List.forall_mem_cons.mpr ⟨lw_p52, List.forall_mem_cons.mpr ⟨lw_p53, List.forall_mem_cons.mpr ⟨lw_p54, List.forall_mem_cons.mpr ⟨lw_p55, List.forall_mem_cons.mpr ⟨lw_p56, List.forall_mem_cons.mpr ⟨lw_p57, List.forall_mem_cons.mpr ⟨lw_p58, List.forall_mem_cons.mpr ⟨lw_p59, List.forall_mem_cons.mpr ⟨lw_p60, List.forall_mem_cons.mpr ⟨lw_p61, List.forall_mem_cons.mpr ⟨lw_p62, List.forall_mem_cons.mpr ⟨lw_p63, fun _ h => absurd h List.not_mem_nil⟩⟩⟩⟩⟩⟩⟩⟩⟩⟩⟩⟩⟩⟩⟩⟩
def lw_privs : List (MethodName × Nat) := lw_privs_1 ++ (lw_privs_2 ++ (lw_privs_3 ++ (lw_privs_4)))
def lw_tbl : List Cond := k2_sels lw_privs ++ tables_1
theorem lw_privs_ok : ∀ q ∈ lw_privs, lw_okq q := by
  show ∀ q ∈ lw_privs_1 ++ (lw_privs_2 ++ (lw_privs_3 ++ (lw_privs_4))), lw_okq q
  exact List.forall_mem_append.mpr ⟨lw_r1, List.forall_mem_append.mpr ⟨lw_r2, List.forall_mem_append.mpr ⟨lw_r3, lw_r4⟩⟩⟩
def RX0 : String := "CopiedFire$House"
def TX0 : u_T := fun k => match k with
  | 0 => ("CopiedFire$House", "laws", "LCopiedFire$Laws;", true)
  | 1 => ("CopiedFire$House", "kinds", "[I", true)
  | 2 => ("CopiedFire$House", "rooms", "[I", true)
  | 3 => ("CopiedFire$House", "fuels", "[I", true)
  | 4 => ("CopiedFire$House", "lits", "[I", true)
  | 5 => ("CopiedFire$House", "heats", "[I", true)
  | 6 => ("CopiedFire$House", "doors", "[I", true)
  | 7 => ("CopiedFire$House", "liked", "[I", true)
  | 8 => ("CopiedFire$House", "counting", "[I", true)
  | 9 => ("CopiedFire$House", "things", "I", false)
  | 10 => ("CopiedFire$House", "visitors", "I", false)
  | 11 => ("CopiedFire$House", "texts", "I", false)
  | 12 => ("CopiedFire$House", "wind", "I", false)
  | 13 => ("CopiedFire$House", "cool", "I", false)
  | 14 => ("CopiedFire$House", "burnt", "I", false)
  | 15 => ("CopiedFire$House", "ashes", "I", false)
  | 16 => ("CopiedFire$House", "slams", "I", false)
  | 17 => ("CopiedFire$House", "minute", "I", false)
  | _ => ("CopiedFire$House", "z", "I", false)
def tyX0 : Nat → FieldType := fun k => match k with
  | 0 => .object "CopiedFire$Laws"
  | 1 => .array .int
  | 2 => .array .int
  | 3 => .array .int
  | 4 => .array .int
  | 5 => .array .int
  | 6 => .array .int
  | 7 => .array .int
  | 8 => .array .int
  | 9 => .int
  | 10 => .int
  | 11 => .int
  | 12 => .int
  | 13 => .int
  | 14 => .int
  | 15 => .int
  | 16 => .int
  | 17 => .int
  | _ => .int
abbrev wsX00 : List Cond := u_ws RX0 TX0 19
theorem nmX0 : ∀ a, a < 19 → ∀ b, b < 19 → a ≠ b → (TX0 a).2.1 ≠ (TX0 b).2.1 := by decide +kernel
theorem tyX0_ok : ∀ k, k < 19 → parseFieldDescriptor (TX0 k).2.2.1 = some (tyX0 k) := by decide +kernel
abbrev cX0_init : ByteArray := prog_2_method_1_code
def yX0_init : MethodName := ⟨RX0, "<init>", "(LCopiedFire$Laws;)V"⟩
abbrev cX0_becomeAs : ByteArray := prog_2_method_2_code
def yX0_becomeAs : MethodName := ⟨RX0, "becomeAs", "(LCopiedFire$House;)V"⟩
abbrev cX0_addThing : ByteArray := prog_2_method_3_code
def yX0_addThing : MethodName := ⟨RX0, "addThing", "(IIII)I"⟩
abbrev cX0_drawThing : ByteArray := prog_2_method_4_code
def yX0_drawThing : MethodName := ⟨RX0, "drawThing", "()V"⟩
abbrev cX0_doorBetween : ByteArray := prog_2_method_5_code
def yX0_doorBetween : MethodName := ⟨RX0, "doorBetween", "(II)I"⟩
abbrev cX0_putDoor : ByteArray := prog_2_method_6_code
def yX0_putDoor : MethodName := ⟨RX0, "putDoor", "(III)V"⟩
abbrev cX0_reachedNext : ByteArray := prog_2_method_7_code
def yX0_reachedNext : MethodName := ⟨RX0, "reachedNext", "(I)I"⟩
abbrev cX0_litSet : ByteArray := prog_2_method_8_code
def yX0_litSet : MethodName := ⟨RX0, "litSet", "()I"⟩
abbrev cX0_heatTogether : ByteArray := prog_2_method_9_code
def yX0_heatTogether : MethodName := ⟨RX0, "heatTogether", "()I"⟩
abbrev cX0_burnsOf : ByteArray := prog_2_method_10_code
def yX0_burnsOf : MethodName := ⟨RX0, "burnsOf", "(I)I"⟩
abbrev cX0_passMinute : ByteArray := prog_2_method_11_code
def yX0_passMinute : MethodName := ⟨RX0, "passMinute", "()V"⟩
abbrev cX0_burnThings : ByteArray := prog_2_method_12_code
def yX0_burnThings : MethodName := ⟨RX0, "burnThings", "()V"⟩
abbrev cX0_spreadHeat : ByteArray := prog_2_method_13_code
def yX0_spreadHeat : MethodName := ⟨RX0, "spreadHeat", "()V"⟩
abbrev cX0_coolRooms : ByteArray := prog_2_method_14_code
def yX0_coolRooms : MethodName := ⟨RX0, "coolRooms", "()V"⟩
abbrev cX0_lightThings : ByteArray := prog_2_method_15_code
def yX0_lightThings : MethodName := ⟨RX0, "lightThings", "()V"⟩
abbrev cX0_blowWind : ByteArray := prog_2_method_16_code
def yX0_blowWind : MethodName := ⟨RX0, "blowWind", "()V"⟩
abbrev cX0_draw : ByteArray := prog_2_method_17_code
def yX0_draw : MethodName := ⟨RX0, "draw", "()I"⟩
def RX1 : String := "CopiedFire$Kinds"
def TX1 : u_T := fun k => match k with
  | _ => ("", "", "", false)
def tyX1 : Nat → FieldType := fun k => match k with
  | _ => .int
abbrev wsX10 : List Cond := u_ws RX1 TX1 0
theorem nmX1 : ∀ a, a < 0 → ∀ b, b < 0 → a ≠ b → (TX1 a).2.1 ≠ (TX1 b).2.1 := by decide +kernel
theorem tyX1_ok : ∀ k, k < 0 → parseFieldDescriptor (TX1 k).2.2.1 = some (tyX1 k) := by decide +kernel
abbrev cX1_isOf : ByteArray := prog_3_method_2_code
def yX1_isOf : MethodName := ⟨RX1, "isOf", "(II)Z"⟩
abbrev cX1_burns : ByteArray := prog_3_method_3_code
def yX1_burns : MethodName := ⟨RX1, "burns", "(II)I"⟩
abbrev cX1_gives : ByteArray := prog_3_method_4_code
def yX1_gives : MethodName := ⟨RX1, "gives", "(II)I"⟩
abbrev cX1_catchesFrom : ByteArray := prog_3_method_5_code
def yX1_catchesFrom : MethodName := ⟨RX1, "catchesFrom", "(I)I"⟩
abbrev cX1_worth : ByteArray := prog_3_method_6_code
def yX1_worth : MethodName := ⟨RX1, "worth", "(II)I"⟩
def RX2 : String := "CopiedFire$Laws"
def TX2 : u_T := fun k => match k with
  | 0 => ("CopiedFire$Laws", "rows", "[LCopiedFire$Text;", true)
  | _ => ("CopiedFire$Laws", "stack", "[I", true)
def tyX2 : Nat → FieldType := fun k => match k with
  | 0 => .array (.object "CopiedFire$Text")
  | _ => .array .int
abbrev wsX20 : List Cond := u_ws RX2 TX2 2
theorem nmX2 : ∀ a, a < 2 → ∀ b, b < 2 → a ≠ b → (TX2 a).2.1 ≠ (TX2 b).2.1 := by decide +kernel
theorem tyX2_ok : ∀ k, k < 2 → parseFieldDescriptor (TX2 k).2.2.1 = some (tyX2 k) := by decide +kernel
abbrev cX2_init : ByteArray := prog_4_method_1_code
def yX2_init : MethodName := ⟨RX2, "<init>", "()V"⟩
abbrev cX2_has : ByteArray := prog_4_method_2_code
def yX2_has : MethodName := ⟨RX2, "has", "(I)Z"⟩
abbrev cX2_put : ByteArray := prog_4_method_3_code
def yX2_put : MethodName := ⟨RX2, "put", "(ILCopiedFire$Text;)V"⟩
abbrev cX2_keyOf : ByteArray := prog_4_method_4_code
def yX2_keyOf : MethodName := ⟨RX2, "keyOf", "(I)I"⟩
abbrev cX2_operandsOf : ByteArray := prog_4_method_5_code
def yX2_operandsOf : MethodName := ⟨RX2, "operandsOf", "(I)I"⟩
abbrev cX2_work : ByteArray := prog_4_method_6_code
def yX2_work : MethodName := ⟨RX2, "work", "(IIII)I"⟩
abbrev cX2_joined : ByteArray := prog_4_method_7_code
def yX2_joined : MethodName := ⟨RX2, "joined", "(III)I"⟩
def RX3 : String := "CopiedFire$Reader"
def TX3 : u_T := fun k => match k with
  | 0 => ("CopiedFire$Reader", "tape", "LCopiedFire$Tape;", true)
  | 1 => ("CopiedFire$Reader", "steps", "[I", true)
  | 2 => ("CopiedFire$Reader", "made", "I", false)
  | 3 => ("CopiedFire$Reader", "operands", "I", false)
  | 4 => ("CopiedFire$Reader", "key", "I", false)
  | 5 => ("CopiedFire$Reader", "token", "I", false)
  | 6 => ("CopiedFire$Reader", "start", "I", false)
  | 7 => ("CopiedFire$Reader", "next", "I", false)
  | _ => ("CopiedFire$Reader", "fault", "I", false)
def tyX3 : Nat → FieldType := fun k => match k with
  | 0 => .object "CopiedFire$Tape"
  | 1 => .array .int
  | 2 => .int
  | 3 => .int
  | 4 => .int
  | 5 => .int
  | 6 => .int
  | 7 => .int
  | _ => .int
abbrev wsX30 : List Cond := u_ws RX3 TX3 9
theorem nmX3 : ∀ a, a < 9 → ∀ b, b < 9 → a ≠ b → (TX3 a).2.1 ≠ (TX3 b).2.1 := by decide +kernel
theorem tyX3_ok : ∀ k, k < 9 → parseFieldDescriptor (TX3 k).2.2.1 = some (tyX3 k) := by decide +kernel
abbrev cX3_init : ByteArray := prog_5_method_1_code
def yX3_init : MethodName := ⟨RX3, "<init>", "(LCopiedFire$Tape;)V"⟩
abbrev cX3_readText : ByteArray := prog_5_method_2_code
def yX3_readText : MethodName := ⟨RX3, "readText", "()V"⟩
abbrev cX3_madeText : ByteArray := prog_5_method_3_code
def yX3_madeText : MethodName := ⟨RX3, "madeText", "()LCopiedFire$Text;"⟩
abbrev cX3_stop : ByteArray := prog_5_method_4_code
def yX3_stop : MethodName := ⟨RX3, "stop", "()V"⟩
abbrev cX3_goOn : ByteArray := prog_5_method_5_code
def yX3_goOn : MethodName := ⟨RX3, "goOn", "()V"⟩
abbrev cX3_endOfRow : ByteArray := prog_5_method_6_code
def yX3_endOfRow : MethodName := ⟨RX3, "endOfRow", "(III)I"⟩
abbrev cX3_keyRead : ByteArray := prog_5_method_7_code
def yX3_keyRead : MethodName := ⟨RX3, "keyRead", "()I"⟩
abbrev cX3_isWord : ByteArray := prog_5_method_8_code
def yX3_isWord : MethodName := ⟨RX3, "isWord", "(Ljava/lang/String;)Z"⟩
abbrev cX3_nameRead : ByteArray := prog_5_method_9_code
def yX3_nameRead : MethodName := ⟨RX3, "nameRead", "()I"⟩
abbrev cX3_numberRead : ByteArray := prog_5_method_10_code
def yX3_numberRead : MethodName := ⟨RX3, "numberRead", "()I"⟩
abbrev cX3_readLevel : ByteArray := prog_5_method_11_code
def yX3_readLevel : MethodName := ⟨RX3, "readLevel", "(III)V"⟩
abbrev cX3_isSignOf : ByteArray := prog_5_method_12_code
def yX3_isSignOf : MethodName := ⟨RX3, "isSignOf", "(I)Z"⟩
abbrev cX3_readPiece : ByteArray := prog_5_method_13_code
def yX3_readPiece : MethodName := ⟨RX3, "readPiece", "(II)V"⟩
abbrev cX3_addOperand : ByteArray := prog_5_method_14_code
def yX3_addOperand : MethodName := ⟨RX3, "addOperand", "(I)V"⟩
abbrev cX3_addStep : ByteArray := prog_5_method_15_code
def yX3_addStep : MethodName := ⟨RX3, "addStep", "(I)V"⟩
def RX4 : String := "CopiedFire$Seating"
def TX4 : u_T := fun k => match k with
  | 0 => ("CopiedFire$Seating", "likedByGroup", "[I", true)
  | _ => ("CopiedFire$Seating", "given", "[I", true)
def tyX4 : Nat → FieldType := fun k => match k with
  | 0 => .array .int
  | _ => .array .int
abbrev wsX40 : List Cond := u_ws RX4 TX4 2
theorem nmX4 : ∀ a, a < 2 → ∀ b, b < 2 → a ≠ b → (TX4 a).2.1 ≠ (TX4 b).2.1 := by decide +kernel
theorem tyX4_ok : ∀ k, k < 2 → parseFieldDescriptor (TX4 k).2.2.1 = some (tyX4 k) := by decide +kernel
abbrev cX4_init : ByteArray := prog_6_method_1_code
def yX4_init : MethodName := ⟨RX4, "<init>", "()V"⟩
abbrev cX4_seatAll : ByteArray := prog_6_method_2_code
def yX4_seatAll : MethodName := ⟨RX4, "seatAll", "(LCopiedFire$House;)I"⟩
abbrev cX4_gatherLikes : ByteArray := prog_6_method_3_code
def yX4_gatherLikes : MethodName := ⟨RX4, "gatherLikes", "(LCopiedFire$House;)V"⟩
abbrev cX4_leastRoom : ByteArray := prog_6_method_4_code
def yX4_leastRoom : MethodName := ⟨RX4, "leastRoom", "(IIII)I"⟩
abbrev cX4_mostSeated : ByteArray := prog_6_method_5_code
def yX4_mostSeated : MethodName := ⟨RX4, "mostSeated", "(III)I"⟩
def RX5 : String := "CopiedFire$Sheet"
def TX5 : u_T := fun k => match k with
  | 0 => ("CopiedFire$Sheet", "places", "[I", true)
  | 1 => ("CopiedFire$Sheet", "sort", "I", false)
  | _ => ("CopiedFire$Sheet", "length", "I", false)
def tyX5 : Nat → FieldType := fun k => match k with
  | 0 => .array .int
  | 1 => .int
  | _ => .int
abbrev wsX50 : List Cond := u_ws RX5 TX5 3
theorem nmX5 : ∀ a, a < 3 → ∀ b, b < 3 → a ≠ b → (TX5 a).2.1 ≠ (TX5 b).2.1 := by decide +kernel
theorem tyX5_ok : ∀ k, k < 3 → parseFieldDescriptor (TX5 k).2.2.1 = some (tyX5 k) := by decide +kernel
abbrev cX5_init : ByteArray := prog_7_method_1_code
def yX5_init : MethodName := ⟨RX5, "<init>", "()V"⟩
abbrev cX5_renew : ByteArray := prog_7_method_2_code
def yX5_renew : MethodName := ⟨RX5, "renew", "(II)V"⟩
abbrev cX5_becomeAs : ByteArray := prog_7_method_3_code
def yX5_becomeAs : MethodName := ⟨RX5, "becomeAs", "(LCopiedFire$Sheet;)V"⟩
abbrev cX5_isMissing : ByteArray := prog_7_method_4_code
def yX5_isMissing : MethodName := ⟨RX5, "isMissing", "()Z"⟩
abbrev cX5_hasPlace : ByteArray := prog_7_method_5_code
def yX5_hasPlace : MethodName := ⟨RX5, "hasPlace", "(I)Z"⟩
abbrev cX5_hasNumber : ByteArray := prog_7_method_6_code
def yX5_hasNumber : MethodName := ⟨RX5, "hasNumber", "(I)Z"⟩
abbrev cX5_hasRow : ByteArray := prog_7_method_7_code
def yX5_hasRow : MethodName := ⟨RX5, "hasRow", "(II)Z"⟩
def RX6 : String := "CopiedFire$Slot"
def TX6 : u_T := fun k => match k with
  | 0 => ("CopiedFire$Slot", "row", "LCopiedFire$Sheet;", true)
  | 1 => ("CopiedFire$Slot", "holds", "I", false)
  | 2 => ("CopiedFire$Slot", "kind", "I", false)
  | 3 => ("CopiedFire$Slot", "fuel", "I", false)
  | _ => ("CopiedFire$Slot", "number", "I", false)
def tyX6 : Nat → FieldType := fun k => match k with
  | 0 => .object "CopiedFire$Sheet"
  | 1 => .int
  | 2 => .int
  | 3 => .int
  | _ => .int
abbrev wsX60 : List Cond := u_ws RX6 TX6 5
theorem nmX6 : ∀ a, a < 5 → ∀ b, b < 5 → a ≠ b → (TX6 a).2.1 ≠ (TX6 b).2.1 := by decide +kernel
theorem tyX6_ok : ∀ k, k < 5 → parseFieldDescriptor (TX6 k).2.2.1 = some (tyX6 k) := by decide +kernel
abbrev cX6_init : ByteArray := prog_8_method_1_code
def yX6_init : MethodName := ⟨RX6, "<init>", "()V"⟩
def RX7 : String := "CopiedFire$Tape"
def TX7 : u_T := fun k => match k with
  | 0 => ("CopiedFire$Tape", "bytes", "[I", true)
  | _ => ("CopiedFire$Tape", "length", "I", false)
def tyX7 : Nat → FieldType := fun k => match k with
  | 0 => .array .int
  | _ => .int
abbrev wsX70 : List Cond := u_ws RX7 TX7 2
theorem nmX7 : ∀ a, a < 2 → ∀ b, b < 2 → a ≠ b → (TX7 a).2.1 ≠ (TX7 b).2.1 := by decide +kernel
theorem tyX7_ok : ∀ k, k < 2 → parseFieldDescriptor (TX7 k).2.2.1 = some (tyX7 k) := by decide +kernel
abbrev cX7_init : ByteArray := prog_9_method_1_code
def yX7_init : MethodName := ⟨RX7, "<init>", "()V"⟩
abbrev cX7_addFour : ByteArray := prog_9_method_2_code
def yX7_addFour : MethodName := ⟨RX7, "addFour", "(I)V"⟩
def RX8 : String := "CopiedFire$Text"
def TX8 : u_T := fun k => match k with
  | 0 => ("CopiedFire$Text", "key", "I", true)
  | 1 => ("CopiedFire$Text", "operands", "I", true)
  | _ => ("CopiedFire$Text", "steps", "[I", true)
def tyX8 : Nat → FieldType := fun k => match k with
  | 0 => .int
  | 1 => .int
  | _ => .array .int
abbrev wsX80 : List Cond := u_ws RX8 TX8 3
theorem nmX8 : ∀ a, a < 3 → ∀ b, b < 3 → a ≠ b → (TX8 a).2.1 ≠ (TX8 b).2.1 := by decide +kernel
theorem tyX8_ok : ∀ k, k < 3 → parseFieldDescriptor (TX8 k).2.2.1 = some (tyX8 k) := by decide +kernel
abbrev cX8_init : ByteArray := prog_10_method_1_code
def yX8_init : MethodName := ⟨RX8, "<init>", "(II[I)V"⟩
def RX9 : String := "CopiedFire"
def TX9 : u_T := fun k => match k with
  | 0 => ("CopiedFire", "laws", "LCopiedFire$Laws;", true)
  | 1 => ("CopiedFire", "now", "LCopiedFire$House;", true)
  | 2 => ("CopiedFire", "image", "LCopiedFire$House;", true)
  | 3 => ("CopiedFire", "thought", "LCopiedFire$House;", true)
  | 4 => ("CopiedFire", "seating", "LCopiedFire$Seating;", true)
  | 5 => ("CopiedFire", "tape", "LCopiedFire$Tape;", true)
  | 6 => ("CopiedFire", "reader", "LCopiedFire$Reader;", true)
  | 7 => ("CopiedFire", "sheets", "[LCopiedFire$Sheet;", true)
  | 8 => ("CopiedFire", "slots", "[LCopiedFire$Slot;", true)
  | 9 => ("CopiedFire", "sums", "[I", true)
  | 10 => ("CopiedFire", "waiting", "[I", true)
  | 11 => ("CopiedFire", "waits", "I", false)
  | _ => ("CopiedFire", "kept", "Z", false)
def tyX9 : Nat → FieldType := fun k => match k with
  | 0 => .object "CopiedFire$Laws"
  | 1 => .object "CopiedFire$House"
  | 2 => .object "CopiedFire$House"
  | 3 => .object "CopiedFire$House"
  | 4 => .object "CopiedFire$Seating"
  | 5 => .object "CopiedFire$Tape"
  | 6 => .object "CopiedFire$Reader"
  | 7 => .array (.object "CopiedFire$Sheet")
  | 8 => .array (.object "CopiedFire$Slot")
  | 9 => .array .int
  | 10 => .array .int
  | 11 => .int
  | _ => .boolean
abbrev wsX90 : List Cond := u_ws RX9 TX9 13
theorem nmX9 : ∀ a, a < 13 → ∀ b, b < 13 → a ≠ b → (TX9 a).2.1 ≠ (TX9 b).2.1 := by decide +kernel
theorem tyX9_ok : ∀ k, k < 13 → parseFieldDescriptor (TX9 k).2.2.1 = some (tyX9 k) := by decide +kernel
abbrev cX9_init : ByteArray := prog_1_method_1_code
def yX9_init : MethodName := ⟨RX9, "<init>", "()V"⟩
abbrev cX9_thing : ByteArray := prog_1_method_2_code
def yX9_thing : MethodName := ⟨RX9, "thing", "(IIII)I"⟩
abbrev cX9_told : ByteArray := prog_1_method_3_code
def yX9_told : MethodName := ⟨RX9, "told", "(II)I"⟩
abbrev cX9_as : ByteArray := prog_1_method_4_code
def yX9_as : MethodName := ⟨RX9, "as", "(II)I"⟩
abbrev cX9_turns : ByteArray := prog_1_method_5_code
def yX9_turns : MethodName := ⟨RX9, "turns", "(II)I"⟩
abbrev cX9_set : ByteArray := prog_1_method_6_code
def yX9_set : MethodName := ⟨RX9, "set", "(III)I"⟩
abbrev cX9_deal : ByteArray := prog_1_method_7_code
def yX9_deal : MethodName := ⟨RX9, "deal", "(I)I"⟩
abbrev cX9_seed : ByteArray := prog_1_method_8_code
def yX9_seed : MethodName := ⟨RX9, "seed", "(I)I"⟩
abbrev cX9_heat : ByteArray := prog_1_method_9_code
def yX9_heat : MethodName := ⟨RX9, "heat", "(I)I"⟩
abbrev cX9_heats : ByteArray := prog_1_method_10_code
def yX9_heats : MethodName := ⟨RX9, "heats", "(II)I"⟩
abbrev cX9_door : ByteArray := prog_1_method_11_code
def yX9_door : MethodName := ⟨RX9, "door", "(III)I"⟩
abbrev cX9_doorTold : ByteArray := prog_1_method_12_code
def yX9_doorTold : MethodName := ⟨RX9, "doorTold", "(II)I"⟩
abbrev cX9_rule : ByteArray := prog_1_method_13_code
def yX9_rule : MethodName := ⟨RX9, "rule", "(II)I"⟩
abbrev cX9_visitor : ByteArray := prog_1_method_14_code
def yX9_visitor : MethodName := ⟨RX9, "visitor", "(I)I"⟩
abbrev cX9_likes : ByteArray := prog_1_method_15_code
def yX9_likes : MethodName := ⟨RX9, "likes", "(II)I"⟩
abbrev cX9_seats : ByteArray := prog_1_method_16_code
def yX9_seats : MethodName := ⟨RX9, "seats", "(I)I"⟩
abbrev cX9_way : ByteArray := prog_1_method_17_code
def yX9_way : MethodName := ⟨RX9, "way", "(II)I"⟩
abbrev cX9_minutes : ByteArray := prog_1_method_18_code
def yX9_minutes : MethodName := ⟨RX9, "minutes", "(I)I"⟩
abbrev cX9_house : ByteArray := prog_1_method_19_code
def yX9_house : MethodName := ⟨RX9, "house", "(I)I"⟩
abbrev cX9_behind : ByteArray := prog_1_method_20_code
def yX9_behind : MethodName := ⟨RX9, "behind", "(II)I"⟩
abbrev cX9_out : ByteArray := prog_1_method_21_code
def yX9_out : MethodName := ⟨RX9, "out", "()I"⟩
abbrev cX9_hot : ByteArray := prog_1_method_22_code
def yX9_hot : MethodName := ⟨RX9, "hot", "(I)I"⟩
abbrev cX9_shut : ByteArray := prog_1_method_23_code
def yX9_shut : MethodName := ⟨RX9, "shut", "(II)I"⟩
abbrev cX9_hired : ByteArray := prog_1_method_24_code
def yX9_hired : MethodName := ⟨RX9, "hired", "(II)I"⟩
abbrev cX9_becomes : ByteArray := prog_1_method_25_code
def yX9_becomes : MethodName := ⟨RX9, "becomes", "(III)I"⟩
abbrev cX9_began : ByteArray := prog_1_method_26_code
def yX9_began : MethodName := ⟨RX9, "began", "(I)I"⟩
abbrev cX9_like : ByteArray := prog_1_method_27_code
def yX9_like : MethodName := ⟨RX9, "like", "(II)I"⟩
abbrev cX9_fee : ByteArray := prog_1_method_28_code
def yX9_fee : MethodName := ⟨RX9, "fee", "()I"⟩
abbrev cX9_fine : ByteArray := prog_1_method_29_code
def yX9_fine : MethodName := ⟨RX9, "fine", "(I)I"⟩
abbrev cX9_feed : ByteArray := prog_1_method_30_code
def yX9_feed : MethodName := ⟨RX9, "feed", "(III)I"⟩
abbrev cX9_trim : ByteArray := prog_1_method_31_code
def yX9_trim : MethodName := ⟨RX9, "trim", "(I)I"⟩
abbrev cX9_text : ByteArray := prog_1_method_32_code
def yX9_text : MethodName := ⟨RX9, "text", "()I"⟩
abbrev cX9_textTold : ByteArray := prog_1_method_33_code
def yX9_textTold : MethodName := ⟨RX9, "textTold", "(II)I"⟩
abbrev cX9_why : ByteArray := prog_1_method_34_code
def yX9_why : MethodName := ⟨RX9, "why", "(I)I"⟩
abbrev cX9_sheet : ByteArray := prog_1_method_35_code
def yX9_sheet : MethodName := ⟨RX9, "sheet", "(III)I"⟩
abbrev cX9_mark : ByteArray := prog_1_method_36_code
def yX9_mark : MethodName := ⟨RX9, "mark", "(III)I"⟩
abbrev cX9_pour : ByteArray := prog_1_method_37_code
def yX9_pour : MethodName := ⟨RX9, "pour", "(I)I"⟩
abbrev cX9_reads : ByteArray := prog_1_method_38_code
def yX9_reads : MethodName := ⟨RX9, "reads", "(I)I"⟩
abbrev cX9_copy : ByteArray := prog_1_method_39_code
def yX9_copy : MethodName := ⟨RX9, "copy", "(IIIII)I"⟩
abbrev cX9_lay : ByteArray := prog_1_method_40_code
def yX9_lay : MethodName := ⟨RX9, "lay", "(III)I"⟩
abbrev cX9_ask : ByteArray := prog_1_method_41_code
def yX9_ask : MethodName := ⟨RX9, "ask", "(II)I"⟩
abbrev cX9_item : ByteArray := prog_1_method_42_code
def yX9_item : MethodName := ⟨RX9, "item", "(II)I"⟩
abbrev cX9_rest : ByteArray := prog_1_method_43_code
def yX9_rest : MethodName := ⟨RX9, "rest", "(II)I"⟩
abbrev cX9_tell : ByteArray := prog_1_method_44_code
def yX9_tell : MethodName := ⟨RX9, "tell", "(I)I"⟩
abbrev cX9_check : ByteArray := prog_1_method_45_code
def yX9_check : MethodName := ⟨RX9, "check", "(I)I"⟩
abbrev cX9_keep : ByteArray := prog_1_method_46_code
def yX9_keep : MethodName := ⟨RX9, "keep", "()I"⟩
abbrev cX9_back : ByteArray := prog_1_method_47_code
def yX9_back : MethodName := ⟨RX9, "back", "()I"⟩
abbrev cX9_count : ByteArray := prog_1_method_48_code
def yX9_count : MethodName := ⟨RX9, "count", "(I)I"⟩
abbrev cX9_within : ByteArray := prog_1_method_49_code
def yX9_within : MethodName := ⟨RX9, "within", "(III)Z"⟩
abbrev cX9_held : ByteArray := prog_1_method_50_code
def yX9_held : MethodName := ⟨RX9, "held", "(II)I"⟩
abbrev cX9_isKind : ByteArray := prog_1_method_51_code
def yX9_isKind : MethodName := ⟨RX9, "isKind", "(I)Z"⟩
abbrev cX9_isRoom : ByteArray := prog_1_method_52_code
def yX9_isRoom : MethodName := ⟨RX9, "isRoom", "(I)Z"⟩
abbrev cX9_areTwoRooms : ByteArray := prog_1_method_53_code
def yX9_areTwoRooms : MethodName := ⟨RX9, "areTwoRooms", "(II)Z"⟩
abbrev cX9_isThing : ByteArray := prog_1_method_54_code
def yX9_isThing : MethodName := ⟨RX9, "isThing", "(I)Z"⟩
abbrev cX9_isVisitor : ByteArray := prog_1_method_55_code
def yX9_isVisitor : MethodName := ⟨RX9, "isVisitor", "(I)Z"⟩
abbrev cX9_isSheet : ByteArray := prog_1_method_56_code
def yX9_isSheet : MethodName := ⟨RX9, "isSheet", "(I)Z"⟩
abbrev cX9_isSlot : ByteArray := prog_1_method_57_code
def yX9_isSlot : MethodName := ⟨RX9, "isSlot", "(I)Z"⟩
abbrev cX9_replaced : ByteArray := prog_1_method_58_code
def yX9_replaced : MethodName := ⟨RX9, "replaced", "([IIII)I"⟩
abbrev cX9_thinkOn : ByteArray := prog_1_method_59_code
def yX9_thinkOn : MethodName := ⟨RX9, "thinkOn", "(II)I"⟩
abbrev cX9_canHaveBegunBy : ByteArray := prog_1_method_60_code
def yX9_canHaveBegunBy : MethodName := ⟨RX9, "canHaveBegunBy", "(ILCopiedFire$Sheet;)Z"⟩
abbrev cX9_sumDifferences : ByteArray := prog_1_method_61_code
def yX9_sumDifferences : MethodName := ⟨RX9, "sumDifferences", "(LCopiedFire$Sheet;)V"⟩
abbrev cX9_findingFor : ByteArray := prog_1_method_62_code
def yX9_findingFor : MethodName := ⟨RX9, "findingFor", "(II)I"⟩
def RX10 : String := "CopiedFireModel"
def TX10 : u_T := fun k => match k with
  | 0 => ("CopiedFireModel", "now", "[I", true)
  | 1 => ("CopiedFireModel", "image", "[I", true)
  | 2 => ("CopiedFireModel", "aside", "[I", true)
  | 3 => ("CopiedFireModel", "hasImage", "Z", false)
  | 4 => ("CopiedFireModel", "seat", "[I", true)
  | 5 => ("CopiedFireModel", "bestSeat", "[I", true)
  | 6 => ("CopiedFireModel", "mostSeats", "I", false)
  | 7 => ("CopiedFireModel", "before", "[I", true)
  | 8 => ("CopiedFireModel", "off", "[I", true)
  | 9 => ("CopiedFireModel", "tape", "[I", true)
  | 10 => ("CopiedFireModel", "taped", "I", false)
  | 11 => ("CopiedFireModel", "next", "I", false)
  | 12 => ("CopiedFireModel", "from", "I", false)
  | 13 => ("CopiedFireModel", "token", "I", false)
  | 14 => ("CopiedFireModel", "value", "I", false)
  | 15 => ("CopiedFireModel", "ended", "I", false)
  | 16 => ("CopiedFireModel", "key", "I", false)
  | 17 => ("CopiedFireModel", "keys", "[C", true)
  | 18 => ("CopiedFireModel", "keyAt", "[I", true)
  | 19 => ("CopiedFireModel", "code", "[I", true)
  | 20 => ("CopiedFireModel", "codes", "I", false)
  | 21 => ("CopiedFireModel", "atoms", "I", false)
  | 22 => ("CopiedFireModel", "waits", "[I", true)
  | 23 => ("CopiedFireModel", "held", "I", false)
  | 24 => ("CopiedFireModel", "tested", "[Z", true)
  | 25 => ("CopiedFireModel", "stack", "[I", true)
  | 26 => ("CopiedFireModel", "facts", "[I", true)
  | 27 => ("CopiedFireModel", "sorts", "[I", true)
  | 28 => ("CopiedFireModel", "sizes", "[I", true)
  | 29 => ("CopiedFireModel", "cells", "[I", true)
  | 30 => ("CopiedFireModel", "holds", "[I", true)
  | 31 => ("CopiedFireModel", "holdsA", "[I", true)
  | 32 => ("CopiedFireModel", "holdsB", "[I", true)
  | 33 => ("CopiedFireModel", "heldCells", "[I", true)
  | 34 => ("CopiedFireModel", "moved", "[I", true)
  | 35 => ("CopiedFireModel", "tells", "[I", true)
  | _ => ("CopiedFireModel", "waiting", "I", false)
def tyX10 : Nat → FieldType := fun k => match k with
  | 0 => .array .int
  | 1 => .array .int
  | 2 => .array .int
  | 3 => .boolean
  | 4 => .array .int
  | 5 => .array .int
  | 6 => .int
  | 7 => .array .int
  | 8 => .array .int
  | 9 => .array .int
  | 10 => .int
  | 11 => .int
  | 12 => .int
  | 13 => .int
  | 14 => .int
  | 15 => .int
  | 16 => .int
  | 17 => .array .char
  | 18 => .array .int
  | 19 => .array .int
  | 20 => .int
  | 21 => .int
  | 22 => .array .int
  | 23 => .int
  | 24 => .array .boolean
  | 25 => .array .int
  | 26 => .array .int
  | 27 => .array .int
  | 28 => .array .int
  | 29 => .array .int
  | 30 => .array .int
  | 31 => .array .int
  | 32 => .array .int
  | 33 => .array .int
  | 34 => .array .int
  | 35 => .array .int
  | _ => .int
abbrev wsX100 : List Cond := u_ws RX10 TX10 37
theorem nmX10 : ∀ a, a < 37 → ∀ b, b < 37 → a ≠ b → (TX10 a).2.1 ≠ (TX10 b).2.1 := by decide +kernel
theorem tyX10_ok : ∀ k, k < 37 → parseFieldDescriptor (TX10 k).2.2.1 = some (tyX10 k) := by decide +kernel
abbrev cX10_init : ByteArray := prog_12_method_1_code
def yX10_init : MethodName := ⟨RX10, "<init>", "()V"⟩
abbrev cX10_in : ByteArray := prog_12_method_2_code
def yX10_in : MethodName := ⟨RX10, "in", "(III)Z"⟩
abbrev cX10_within : ByteArray := prog_12_method_3_code
def yX10_within : MethodName := ⟨RX10, "within", "(III)I"⟩
abbrev cX10_copyAll : ByteArray := prog_12_method_4_code
def yX10_copyAll : MethodName := ⟨RX10, "copyAll", "([I[I)V"⟩
abbrev cX10_isThing : ByteArray := prog_12_method_5_code
def yX10_isThing : MethodName := ⟨RX10, "isThing", "(I)Z"⟩
abbrev cX10_isRoom : ByteArray := prog_12_method_6_code
def yX10_isRoom : MethodName := ⟨RX10, "isRoom", "(I)Z"⟩
abbrev cX10_of : ByteArray := prog_12_method_7_code
def yX10_of : MethodName := ⟨RX10, "of", "(II)I"⟩
abbrev cX10_put : ByteArray := prog_12_method_8_code
def yX10_put : MethodName := ⟨RX10, "put", "(III)V"⟩
abbrev cX10_swaps : ByteArray := prog_12_method_9_code
def yX10_swaps : MethodName := ⟨RX10, "swaps", "(II)I"⟩
abbrev cX10_burnsOf : ByteArray := prog_12_method_10_code
def yX10_burnsOf : MethodName := ⟨RX10, "burnsOf", "(I)I"⟩
abbrev cX10_givesOf : ByteArray := prog_12_method_11_code
def yX10_givesOf : MethodName := ⟨RX10, "givesOf", "(II)I"⟩
abbrev cX10_catchesOf : ByteArray := prog_12_method_12_code
def yX10_catchesOf : MethodName := ⟨RX10, "catchesOf", "(I)I"⟩
abbrev cX10_worthOf : ByteArray := prog_12_method_13_code
def yX10_worthOf : MethodName := ⟨RX10, "worthOf", "(I)I"⟩
abbrev cX10_isOf : ByteArray := prog_12_method_14_code
def yX10_isOf : MethodName := ⟨RX10, "isOf", "(II)Z"⟩
abbrev cX10_comes : ByteArray := prog_12_method_15_code
def yX10_comes : MethodName := ⟨RX10, "comes", "(IIII)I"⟩
abbrev cX10_thing : ByteArray := prog_12_method_16_code
def yX10_thing : MethodName := ⟨RX10, "thing", "(IIII)I"⟩
abbrev cX10_told : ByteArray := prog_12_method_17_code
def yX10_told : MethodName := ⟨RX10, "told", "(II)I"⟩
abbrev cX10_isUnder : ByteArray := prog_12_method_18_code
def yX10_isUnder : MethodName := ⟨RX10, "isUnder", "(II)Z"⟩
abbrev cX10_as : ByteArray := prog_12_method_19_code
def yX10_as : MethodName := ⟨RX10, "as", "(II)I"⟩
abbrev cX10_turns : ByteArray := prog_12_method_20_code
def yX10_turns : MethodName := ⟨RX10, "turns", "(II)I"⟩
abbrev cX10_set : ByteArray := prog_12_method_21_code
def yX10_set : MethodName := ⟨RX10, "set", "(III)I"⟩
abbrev cX10_draw : ByteArray := prog_12_method_22_code
def yX10_draw : MethodName := ⟨RX10, "draw", "()I"⟩
abbrev cX10_deal : ByteArray := prog_12_method_23_code
def yX10_deal : MethodName := ⟨RX10, "deal", "(I)I"⟩
abbrev cX10_seed : ByteArray := prog_12_method_24_code
def yX10_seed : MethodName := ⟨RX10, "seed", "(I)I"⟩
abbrev cX10_heat : ByteArray := prog_12_method_25_code
def yX10_heat : MethodName := ⟨RX10, "heat", "(I)I"⟩
abbrev cX10_heats : ByteArray := prog_12_method_26_code
def yX10_heats : MethodName := ⟨RX10, "heats", "(II)I"⟩
abbrev cX10_areTwo : ByteArray := prog_12_method_27_code
def yX10_areTwo : MethodName := ⟨RX10, "areTwo", "(II)Z"⟩
abbrev cX10_leaves : ByteArray := prog_12_method_28_code
def yX10_leaves : MethodName := ⟨RX10, "leaves", "(III)I"⟩
abbrev cX10_door : ByteArray := prog_12_method_29_code
def yX10_door : MethodName := ⟨RX10, "door", "(III)I"⟩
abbrev cX10_doorTold : ByteArray := prog_12_method_30_code
def yX10_doorTold : MethodName := ⟨RX10, "doorTold", "(II)I"⟩
abbrev cX10_rule : ByteArray := prog_12_method_31_code
def yX10_rule : MethodName := ⟨RX10, "rule", "(II)I"⟩
abbrev cX10_visitor : ByteArray := prog_12_method_32_code
def yX10_visitor : MethodName := ⟨RX10, "visitor", "(I)I"⟩
abbrev cX10_likes : ByteArray := prog_12_method_33_code
def yX10_likes : MethodName := ⟨RX10, "likes", "(II)I"⟩
abbrev cX10_gives : ByteArray := prog_12_method_34_code
def yX10_gives : MethodName := ⟨RX10, "gives", "(III)V"⟩
abbrev cX10_seats : ByteArray := prog_12_method_35_code
def yX10_seats : MethodName := ⟨RX10, "seats", "(I)I"⟩
abbrev cX10_way : ByteArray := prog_12_method_36_code
def yX10_way : MethodName := ⟨RX10, "way", "(II)I"⟩
abbrev cX10_burns : ByteArray := prog_12_method_37_code
def yX10_burns : MethodName := ⟨RX10, "burns", "(I)V"⟩
abbrev cX10_evens : ByteArray := prog_12_method_38_code
def yX10_evens : MethodName := ⟨RX10, "evens", "()V"⟩
abbrev cX10_catches : ByteArray := prog_12_method_39_code
def yX10_catches : MethodName := ⟨RX10, "catches", "()V"⟩
abbrev cX10_blows : ByteArray := prog_12_method_40_code
def yX10_blows : MethodName := ⟨RX10, "blows", "()V"⟩
abbrev cX10_minute : ByteArray := prog_12_method_41_code
def yX10_minute : MethodName := ⟨RX10, "minute", "()V"⟩
abbrev cX10_goesOn : ByteArray := prog_12_method_42_code
def yX10_goesOn : MethodName := ⟨RX10, "goesOn", "(I)V"⟩
abbrev cX10_allHeat : ByteArray := prog_12_method_43_code
def yX10_allHeat : MethodName := ⟨RX10, "allHeat", "()I"⟩
abbrev cX10_lit : ByteArray := prog_12_method_44_code
def yX10_lit : MethodName := ⟨RX10, "lit", "()I"⟩
abbrev cX10_bits : ByteArray := prog_12_method_45_code
def yX10_bits : MethodName := ⟨RX10, "bits", "(I)I"⟩
abbrev cX10_minutes : ByteArray := prog_12_method_46_code
def yX10_minutes : MethodName := ⟨RX10, "minutes", "(I)I"⟩
abbrev cX10_house : ByteArray := prog_12_method_47_code
def yX10_house : MethodName := ⟨RX10, "house", "(I)I"⟩
abbrev cX10_thinks : ByteArray := prog_12_method_48_code
def yX10_thinks : MethodName := ⟨RX10, "thinks", "()V"⟩
abbrev cX10_putsBack : ByteArray := prog_12_method_49_code
def yX10_putsBack : MethodName := ⟨RX10, "putsBack", "()V"⟩
abbrev cX10_behind : ByteArray := prog_12_method_50_code
def yX10_behind : MethodName := ⟨RX10, "behind", "(II)I"⟩
abbrev cX10_out : ByteArray := prog_12_method_51_code
def yX10_out : MethodName := ⟨RX10, "out", "()I"⟩
abbrev cX10_hot : ByteArray := prog_12_method_52_code
def yX10_hot : MethodName := ⟨RX10, "hot", "(I)I"⟩
abbrev cX10_burntBy : ByteArray := prog_12_method_53_code
def yX10_burntBy : MethodName := ⟨RX10, "burntBy", "(I)I"⟩
abbrev cX10_shut : ByteArray := prog_12_method_54_code
def yX10_shut : MethodName := ⟨RX10, "shut", "(II)I"⟩
abbrev cX10_hired : ByteArray := prog_12_method_55_code
def yX10_hired : MethodName := ⟨RX10, "hired", "(II)I"⟩
abbrev cX10_becomes : ByteArray := prog_12_method_56_code
def yX10_becomes : MethodName := ⟨RX10, "becomes", "(III)I"⟩
abbrev cX10_isSo : ByteArray := prog_12_method_57_code
def yX10_isSo : MethodName := ⟨RX10, "isSo", "(I)Z"⟩
abbrev cX10_began : ByteArray := prog_12_method_58_code
def yX10_began : MethodName := ⟨RX10, "began", "(I)I"⟩
abbrev cX10_like : ByteArray := prog_12_method_59_code
def yX10_like : MethodName := ⟨RX10, "like", "(II)I"⟩
abbrev cX10_fee : ByteArray := prog_12_method_60_code
def yX10_fee : MethodName := ⟨RX10, "fee", "()I"⟩
abbrev cX10_fine : ByteArray := prog_12_method_61_code
def yX10_fine : MethodName := ⟨RX10, "fine", "(I)I"⟩
abbrev cX10_feed : ByteArray := prog_12_method_62_code
def yX10_feed : MethodName := ⟨RX10, "feed", "(III)I"⟩
abbrev cX10_trim : ByteArray := prog_12_method_63_code
def yX10_trim : MethodName := ⟨RX10, "trim", "(I)I"⟩
abbrev cX10_isLetter : ByteArray := prog_12_method_64_code
def yX10_isLetter : MethodName := ⟨RX10, "isLetter", "(I)Z"⟩
abbrev cX10_isFigure : ByteArray := prog_12_method_65_code
def yX10_isFigure : MethodName := ⟨RX10, "isFigure", "(I)Z"⟩
abbrev cX10_go : ByteArray := prog_12_method_66_code
def yX10_go : MethodName := ⟨RX10, "go", "()V"⟩
abbrev cX10_takesKey : ByteArray := prog_12_method_67_code
def yX10_takesKey : MethodName := ⟨RX10, "takesKey", "()Z"⟩
abbrev cX10_nameOf : ByteArray := prog_12_method_68_code
def yX10_nameOf : MethodName := ⟨RX10, "nameOf", "(I)I"⟩
abbrev cX10_rank : ByteArray := prog_12_method_69_code
def yX10_rank : MethodName := ⟨RX10, "rank", "(I)I"⟩
abbrev cX10_settle : ByteArray := prog_12_method_70_code
def yX10_settle : MethodName := ⟨RX10, "settle", "(I)V"⟩
abbrev cX10_signHere : ByteArray := prog_12_method_71_code
def yX10_signHere : MethodName := ⟨RX10, "signHere", "()I"⟩
abbrev cX10_takesPart : ByteArray := prog_12_method_72_code
def yX10_takesPart : MethodName := ⟨RX10, "takesPart", "()Z"⟩
abbrev cX10_takesE : ByteArray := prog_12_method_73_code
def yX10_takesE : MethodName := ⟨RX10, "takesE", "()Z"⟩
abbrev cX10_notsOpen : ByteArray := prog_12_method_74_code
def yX10_notsOpen : MethodName := ⟨RX10, "notsOpen", "()I"⟩
abbrev cX10_text : ByteArray := prog_12_method_75_code
def yX10_text : MethodName := ⟨RX10, "text", "()I"⟩
abbrev cX10_textTold : ByteArray := prog_12_method_76_code
def yX10_textTold : MethodName := ⟨RX10, "textTold", "(II)I"⟩
abbrev cX10_counts : ByteArray := prog_12_method_77_code
def yX10_counts : MethodName := ⟨RX10, "counts", "(I)I"⟩
abbrev cX10_why : ByteArray := prog_12_method_78_code
def yX10_why : MethodName := ⟨RX10, "why", "(I)I"⟩
abbrev cX10_two : ByteArray := prog_12_method_79_code
def yX10_two : MethodName := ⟨RX10, "two", "(III)I"⟩
abbrev cX10_worksOut : ByteArray := prog_12_method_80_code
def yX10_worksOut : MethodName := ⟨RX10, "worksOut", "(I)I"⟩
abbrev cX10_isSheet : ByteArray := prog_12_method_81_code
def yX10_isSheet : MethodName := ⟨RX10, "isSheet", "(I)Z"⟩
abbrev cX10_isSlot : ByteArray := prog_12_method_82_code
def yX10_isSlot : MethodName := ⟨RX10, "isSlot", "(I)Z"⟩
abbrev cX10_sheet : ByteArray := prog_12_method_83_code
def yX10_sheet : MethodName := ⟨RX10, "sheet", "(III)I"⟩
abbrev cX10_mark : ByteArray := prog_12_method_84_code
def yX10_mark : MethodName := ⟨RX10, "mark", "(III)I"⟩
abbrev cX10_pour : ByteArray := prog_12_method_85_code
def yX10_pour : MethodName := ⟨RX10, "pour", "(I)I"⟩
abbrev cX10_reads : ByteArray := prog_12_method_86_code
def yX10_reads : MethodName := ⟨RX10, "reads", "(I)I"⟩
abbrev cX10_copy : ByteArray := prog_12_method_87_code
def yX10_copy : MethodName := ⟨RX10, "copy", "(IIIII)I"⟩
abbrev cX10_lay : ByteArray := prog_12_method_88_code
def yX10_lay : MethodName := ⟨RX10, "lay", "(III)I"⟩
abbrev cX10_ask : ByteArray := prog_12_method_89_code
def yX10_ask : MethodName := ⟨RX10, "ask", "(II)I"⟩
abbrev cX10_item : ByteArray := prog_12_method_90_code
def yX10_item : MethodName := ⟨RX10, "item", "(II)I"⟩
abbrev cX10_rest : ByteArray := prog_12_method_91_code
def yX10_rest : MethodName := ⟨RX10, "rest", "(II)I"⟩
abbrev cX10_tell : ByteArray := prog_12_method_92_code
def yX10_tell : MethodName := ⟨RX10, "tell", "(I)I"⟩
abbrev cX10_check : ByteArray := prog_12_method_93_code
def yX10_check : MethodName := ⟨RX10, "check", "(I)I"⟩
abbrev cX10_keep : ByteArray := prog_12_method_94_code
def yX10_keep : MethodName := ⟨RX10, "keep", "()I"⟩
abbrev cX10_back : ByteArray := prog_12_method_95_code
def yX10_back : MethodName := ⟨RX10, "back", "()I"⟩
abbrev cX10_count : ByteArray := prog_12_method_96_code
def yX10_count : MethodName := ⟨RX10, "count", "(I)I"⟩
def RL : String := "CopiedFireLaw"
abbrev cL_law : ByteArray := code
def yL_law : MethodName := ⟨RL, "law", "([I)Z"⟩
abbrev vwCl : List vw_C := [(RX0, TX0, 19), (RX2, TX2, 2), (RX3, TX3, 9), (RX4, TX4, 2), (RX5, TX5, 3), (RX6, TX6, 5), (RX7, TX7, 2), (RX8, TX8, 3), (RX9, TX9, 13), (RX10, TX10, 37)]
end
section
def gdc (cc : ByteArray) (pc : Nat) (i : Instr) (n : Nat) : Bool := decide (decode cc pc = .ok (i, n))
theorem dX0_init_0 : gdc cX0_init 0 (.aload_n 0) 1 = true := by decide +kernel
theorem dX0_init_1 : gdc cX0_init 1 (.invokespecial 3) 3 = true := by decide +kernel
theorem dX0_init_4 : gdc cX0_init 4 (.aload_n 0) 1 = true := by decide +kernel
theorem dX0_init_5 : gdc cX0_init 5 (.aload_n 1) 1 = true := by decide +kernel
theorem dX0_init_6 : gdc cX0_init 6 (.putfield 9) 3 = true := by decide +kernel
theorem dX0_init_9 : gdc cX0_init 9 (.aload_n 0) 1 = true := by decide +kernel
theorem dX0_init_10 : gdc cX0_init 10 (.bipush 12) 2 = true := by decide +kernel
theorem dX0_init_12 : gdc cX0_init 12 (.newarray .int) 2 = true := by decide +kernel
theorem dX0_init_14 : gdc cX0_init 14 (.putfield 15) 3 = true := by decide +kernel
theorem dX0_init_17 : gdc cX0_init 17 (.aload_n 0) 1 = true := by decide +kernel
theorem dX0_init_18 : gdc cX0_init 18 (.bipush 12) 2 = true := by decide +kernel
theorem dX0_init_20 : gdc cX0_init 20 (.newarray .int) 2 = true := by decide +kernel
theorem dX0_init_22 : gdc cX0_init 22 (.putfield 19) 3 = true := by decide +kernel
theorem dX0_init_25 : gdc cX0_init 25 (.aload_n 0) 1 = true := by decide +kernel
theorem dX0_init_26 : gdc cX0_init 26 (.bipush 12) 2 = true := by decide +kernel
theorem dX0_init_28 : gdc cX0_init 28 (.newarray .int) 2 = true := by decide +kernel
theorem dX0_init_30 : gdc cX0_init 30 (.putfield 22) 3 = true := by decide +kernel
theorem dX0_init_33 : gdc cX0_init 33 (.aload_n 0) 1 = true := by decide +kernel
theorem dX0_init_34 : gdc cX0_init 34 (.bipush 12) 2 = true := by decide +kernel
theorem dX0_init_36 : gdc cX0_init 36 (.newarray .int) 2 = true := by decide +kernel
theorem dX0_init_38 : gdc cX0_init 38 (.putfield 25) 3 = true := by decide +kernel
theorem dX0_init_41 : gdc cX0_init 41 (.aload_n 0) 1 = true := by decide +kernel
theorem dX0_init_42 : gdc cX0_init 42 (.bipush 8) 2 = true := by decide +kernel
theorem dX0_init_44 : gdc cX0_init 44 (.newarray .int) 2 = true := by decide +kernel
theorem dX0_init_46 : gdc cX0_init 46 (.putfield 28) 3 = true := by decide +kernel
theorem dX0_init_49 : gdc cX0_init 49 (.aload_n 0) 1 = true := by decide +kernel
theorem dX0_init_50 : gdc cX0_init 50 (.bipush 64) 2 = true := by decide +kernel
theorem dX0_init_52 : gdc cX0_init 52 (.newarray .int) 2 = true := by decide +kernel
theorem dX0_init_54 : gdc cX0_init 54 (.putfield 31) 3 = true := by decide +kernel
theorem dX0_init_57 : gdc cX0_init 57 (.aload_n 0) 1 = true := by decide +kernel
theorem dX0_init_58 : gdc cX0_init 58 (.bipush 6) 2 = true := by decide +kernel
theorem dX0_init_60 : gdc cX0_init 60 (.newarray .int) 2 = true := by decide +kernel
theorem dX0_init_62 : gdc cX0_init 62 (.putfield 34) 3 = true := by decide +kernel
theorem dX0_init_65 : gdc cX0_init 65 (.aload_n 0) 1 = true := by decide +kernel
theorem dX0_init_66 : gdc cX0_init 66 (.iconst 3) 1 = true := by decide +kernel
theorem dX0_init_67 : gdc cX0_init 67 (.newarray .int) 2 = true := by decide +kernel
theorem dX0_init_69 : gdc cX0_init 69 (.putfield 37) 3 = true := by decide +kernel
theorem dX0_init_72 : gdc cX0_init 72 (.aload_n 0) 1 = true := by decide +kernel
theorem dX0_init_73 : gdc cX0_init 73 (.getfield 37) 3 = true := by decide +kernel
theorem dX0_init_76 : gdc cX0_init 76 (.iconst (-1)) 1 = true := by decide +kernel
theorem dX0_init_77 : gdc cX0_init 77 (.invokestatic 40) 3 = true := by decide +kernel
theorem dX0_init_80 : gdc cX0_init 80 (.aload_n 0) 1 = true := by decide +kernel
theorem dX0_init_81 : gdc cX0_init 81 (.bipush 20) 2 = true := by decide +kernel
theorem dX0_init_83 : gdc cX0_init 83 (.putfield 46) 3 = true := by decide +kernel
theorem dX0_init_86 : gdc cX0_init 86 (.aload_n 0) 1 = true := by decide +kernel
theorem dX0_init_87 : gdc cX0_init 87 (.iconst 2) 1 = true := by decide +kernel
theorem dX0_init_88 : gdc cX0_init 88 (.putfield 50) 3 = true := by decide +kernel
theorem dX0_init_91 : gdc cX0_init 91 (.aload_n 0) 1 = true := by decide +kernel
theorem dX0_init_92 : gdc cX0_init 92 (.iconst 1) 1 = true := by decide +kernel
theorem dX0_init_93 : gdc cX0_init 93 (.putfield 53) 3 = true := by decide +kernel
theorem dX0_init_96 : gdc cX0_init 96 (.return_) 1 = true := by decide +kernel
theorem dX0_becomeAs_0 : gdc cX0_becomeAs 0 (.aload_n 1) 1 = true := by decide +kernel
theorem dX0_becomeAs_1 : gdc cX0_becomeAs 1 (.getfield 15) 3 = true := by decide +kernel
theorem dX0_becomeAs_4 : gdc cX0_becomeAs 4 (.iconst 0) 1 = true := by decide +kernel
theorem dX0_becomeAs_5 : gdc cX0_becomeAs 5 (.aload_n 0) 1 = true := by decide +kernel
theorem dX0_becomeAs_6 : gdc cX0_becomeAs 6 (.getfield 15) 3 = true := by decide +kernel
theorem dX0_becomeAs_9 : gdc cX0_becomeAs 9 (.iconst 0) 1 = true := by decide +kernel
theorem dX0_becomeAs_10 : gdc cX0_becomeAs 10 (.bipush 12) 2 = true := by decide +kernel
theorem dX0_becomeAs_12 : gdc cX0_becomeAs 12 (.invokestatic 56) 3 = true := by decide +kernel
theorem dX0_becomeAs_15 : gdc cX0_becomeAs 15 (.aload_n 1) 1 = true := by decide +kernel
theorem dX0_becomeAs_16 : gdc cX0_becomeAs 16 (.getfield 19) 3 = true := by decide +kernel
theorem dX0_becomeAs_19 : gdc cX0_becomeAs 19 (.iconst 0) 1 = true := by decide +kernel
theorem dX0_becomeAs_20 : gdc cX0_becomeAs 20 (.aload_n 0) 1 = true := by decide +kernel
theorem dX0_becomeAs_21 : gdc cX0_becomeAs 21 (.getfield 19) 3 = true := by decide +kernel
theorem dX0_becomeAs_24 : gdc cX0_becomeAs 24 (.iconst 0) 1 = true := by decide +kernel
theorem dX0_becomeAs_25 : gdc cX0_becomeAs 25 (.bipush 12) 2 = true := by decide +kernel
theorem dX0_becomeAs_27 : gdc cX0_becomeAs 27 (.invokestatic 56) 3 = true := by decide +kernel
theorem dX0_becomeAs_30 : gdc cX0_becomeAs 30 (.aload_n 1) 1 = true := by decide +kernel
theorem dX0_becomeAs_31 : gdc cX0_becomeAs 31 (.getfield 22) 3 = true := by decide +kernel
theorem dX0_becomeAs_34 : gdc cX0_becomeAs 34 (.iconst 0) 1 = true := by decide +kernel
theorem dX0_becomeAs_35 : gdc cX0_becomeAs 35 (.aload_n 0) 1 = true := by decide +kernel
theorem dX0_becomeAs_36 : gdc cX0_becomeAs 36 (.getfield 22) 3 = true := by decide +kernel
theorem dX0_becomeAs_39 : gdc cX0_becomeAs 39 (.iconst 0) 1 = true := by decide +kernel
theorem dX0_becomeAs_40 : gdc cX0_becomeAs 40 (.bipush 12) 2 = true := by decide +kernel
theorem dX0_becomeAs_42 : gdc cX0_becomeAs 42 (.invokestatic 56) 3 = true := by decide +kernel
theorem dX0_becomeAs_45 : gdc cX0_becomeAs 45 (.aload_n 1) 1 = true := by decide +kernel
theorem dX0_becomeAs_46 : gdc cX0_becomeAs 46 (.getfield 25) 3 = true := by decide +kernel
theorem dX0_becomeAs_49 : gdc cX0_becomeAs 49 (.iconst 0) 1 = true := by decide +kernel
theorem dX0_becomeAs_50 : gdc cX0_becomeAs 50 (.aload_n 0) 1 = true := by decide +kernel
theorem dX0_becomeAs_51 : gdc cX0_becomeAs 51 (.getfield 25) 3 = true := by decide +kernel
theorem dX0_becomeAs_54 : gdc cX0_becomeAs 54 (.iconst 0) 1 = true := by decide +kernel
theorem dX0_becomeAs_55 : gdc cX0_becomeAs 55 (.bipush 12) 2 = true := by decide +kernel
theorem dX0_becomeAs_57 : gdc cX0_becomeAs 57 (.invokestatic 56) 3 = true := by decide +kernel
theorem dX0_becomeAs_60 : gdc cX0_becomeAs 60 (.aload_n 1) 1 = true := by decide +kernel
theorem dX0_becomeAs_61 : gdc cX0_becomeAs 61 (.getfield 28) 3 = true := by decide +kernel
theorem dX0_becomeAs_64 : gdc cX0_becomeAs 64 (.iconst 0) 1 = true := by decide +kernel
theorem dX0_becomeAs_65 : gdc cX0_becomeAs 65 (.aload_n 0) 1 = true := by decide +kernel
theorem dX0_becomeAs_66 : gdc cX0_becomeAs 66 (.getfield 28) 3 = true := by decide +kernel
theorem dX0_becomeAs_69 : gdc cX0_becomeAs 69 (.iconst 0) 1 = true := by decide +kernel
theorem dX0_becomeAs_70 : gdc cX0_becomeAs 70 (.bipush 8) 2 = true := by decide +kernel
theorem dX0_becomeAs_72 : gdc cX0_becomeAs 72 (.invokestatic 56) 3 = true := by decide +kernel
theorem dX0_becomeAs_75 : gdc cX0_becomeAs 75 (.aload_n 1) 1 = true := by decide +kernel
theorem dX0_becomeAs_76 : gdc cX0_becomeAs 76 (.getfield 31) 3 = true := by decide +kernel
theorem dX0_becomeAs_79 : gdc cX0_becomeAs 79 (.iconst 0) 1 = true := by decide +kernel
theorem dX0_becomeAs_80 : gdc cX0_becomeAs 80 (.aload_n 0) 1 = true := by decide +kernel
theorem dX0_becomeAs_81 : gdc cX0_becomeAs 81 (.getfield 31) 3 = true := by decide +kernel
theorem dX0_becomeAs_84 : gdc cX0_becomeAs 84 (.iconst 0) 1 = true := by decide +kernel
theorem dX0_becomeAs_85 : gdc cX0_becomeAs 85 (.bipush 64) 2 = true := by decide +kernel
theorem dX0_becomeAs_87 : gdc cX0_becomeAs 87 (.invokestatic 56) 3 = true := by decide +kernel
theorem dX0_becomeAs_90 : gdc cX0_becomeAs 90 (.aload_n 1) 1 = true := by decide +kernel
theorem dX0_becomeAs_91 : gdc cX0_becomeAs 91 (.getfield 34) 3 = true := by decide +kernel
theorem dX0_becomeAs_94 : gdc cX0_becomeAs 94 (.iconst 0) 1 = true := by decide +kernel
theorem dX0_becomeAs_95 : gdc cX0_becomeAs 95 (.aload_n 0) 1 = true := by decide +kernel
theorem dX0_becomeAs_96 : gdc cX0_becomeAs 96 (.getfield 34) 3 = true := by decide +kernel
theorem dX0_becomeAs_99 : gdc cX0_becomeAs 99 (.iconst 0) 1 = true := by decide +kernel
theorem dX0_becomeAs_100 : gdc cX0_becomeAs 100 (.bipush 6) 2 = true := by decide +kernel
theorem dX0_becomeAs_102 : gdc cX0_becomeAs 102 (.invokestatic 56) 3 = true := by decide +kernel
theorem dX0_becomeAs_105 : gdc cX0_becomeAs 105 (.aload_n 1) 1 = true := by decide +kernel
theorem dX0_becomeAs_106 : gdc cX0_becomeAs 106 (.getfield 37) 3 = true := by decide +kernel
theorem dX0_becomeAs_109 : gdc cX0_becomeAs 109 (.iconst 0) 1 = true := by decide +kernel
theorem dX0_becomeAs_110 : gdc cX0_becomeAs 110 (.aload_n 0) 1 = true := by decide +kernel
theorem dX0_becomeAs_111 : gdc cX0_becomeAs 111 (.getfield 37) 3 = true := by decide +kernel
theorem dX0_becomeAs_114 : gdc cX0_becomeAs 114 (.iconst 0) 1 = true := by decide +kernel
theorem dX0_becomeAs_115 : gdc cX0_becomeAs 115 (.iconst 3) 1 = true := by decide +kernel
theorem dX0_becomeAs_116 : gdc cX0_becomeAs 116 (.invokestatic 56) 3 = true := by decide +kernel
theorem dX0_becomeAs_119 : gdc cX0_becomeAs 119 (.aload_n 0) 1 = true := by decide +kernel
theorem dX0_becomeAs_120 : gdc cX0_becomeAs 120 (.aload_n 1) 1 = true := by decide +kernel
theorem dX0_becomeAs_121 : gdc cX0_becomeAs 121 (.getfield 62) 3 = true := by decide +kernel
theorem dX0_becomeAs_124 : gdc cX0_becomeAs 124 (.putfield 62) 3 = true := by decide +kernel
theorem dX0_becomeAs_127 : gdc cX0_becomeAs 127 (.aload_n 0) 1 = true := by decide +kernel
theorem dX0_becomeAs_128 : gdc cX0_becomeAs 128 (.aload_n 1) 1 = true := by decide +kernel
theorem dX0_becomeAs_129 : gdc cX0_becomeAs 129 (.getfield 65) 3 = true := by decide +kernel
theorem dX0_becomeAs_132 : gdc cX0_becomeAs 132 (.putfield 65) 3 = true := by decide +kernel
theorem dX0_becomeAs_135 : gdc cX0_becomeAs 135 (.aload_n 0) 1 = true := by decide +kernel
theorem dX0_becomeAs_136 : gdc cX0_becomeAs 136 (.aload_n 1) 1 = true := by decide +kernel
theorem dX0_becomeAs_137 : gdc cX0_becomeAs 137 (.getfield 68) 3 = true := by decide +kernel
theorem dX0_becomeAs_140 : gdc cX0_becomeAs 140 (.putfield 68) 3 = true := by decide +kernel
theorem dX0_becomeAs_143 : gdc cX0_becomeAs 143 (.aload_n 0) 1 = true := by decide +kernel
theorem dX0_becomeAs_144 : gdc cX0_becomeAs 144 (.aload_n 1) 1 = true := by decide +kernel
theorem dX0_becomeAs_145 : gdc cX0_becomeAs 145 (.getfield 46) 3 = true := by decide +kernel
theorem dX0_becomeAs_148 : gdc cX0_becomeAs 148 (.putfield 46) 3 = true := by decide +kernel
theorem dX0_becomeAs_151 : gdc cX0_becomeAs 151 (.aload_n 0) 1 = true := by decide +kernel
theorem dX0_becomeAs_152 : gdc cX0_becomeAs 152 (.aload_n 1) 1 = true := by decide +kernel
theorem dX0_becomeAs_153 : gdc cX0_becomeAs 153 (.getfield 50) 3 = true := by decide +kernel
theorem dX0_becomeAs_156 : gdc cX0_becomeAs 156 (.putfield 50) 3 = true := by decide +kernel
theorem dX0_becomeAs_159 : gdc cX0_becomeAs 159 (.aload_n 0) 1 = true := by decide +kernel
theorem dX0_becomeAs_160 : gdc cX0_becomeAs 160 (.aload_n 1) 1 = true := by decide +kernel
theorem dX0_becomeAs_161 : gdc cX0_becomeAs 161 (.getfield 71) 3 = true := by decide +kernel
theorem dX0_becomeAs_164 : gdc cX0_becomeAs 164 (.putfield 71) 3 = true := by decide +kernel
theorem dX0_becomeAs_167 : gdc cX0_becomeAs 167 (.aload_n 0) 1 = true := by decide +kernel
theorem dX0_becomeAs_168 : gdc cX0_becomeAs 168 (.aload_n 1) 1 = true := by decide +kernel
theorem dX0_becomeAs_169 : gdc cX0_becomeAs 169 (.getfield 74) 3 = true := by decide +kernel
theorem dX0_becomeAs_172 : gdc cX0_becomeAs 172 (.putfield 74) 3 = true := by decide +kernel
theorem dX0_becomeAs_175 : gdc cX0_becomeAs 175 (.aload_n 0) 1 = true := by decide +kernel
theorem dX0_becomeAs_176 : gdc cX0_becomeAs 176 (.aload_n 1) 1 = true := by decide +kernel
theorem dX0_becomeAs_177 : gdc cX0_becomeAs 177 (.getfield 77) 3 = true := by decide +kernel
theorem dX0_becomeAs_180 : gdc cX0_becomeAs 180 (.putfield 77) 3 = true := by decide +kernel
theorem dX0_becomeAs_183 : gdc cX0_becomeAs 183 (.aload_n 0) 1 = true := by decide +kernel
theorem dX0_becomeAs_184 : gdc cX0_becomeAs 184 (.aload_n 1) 1 = true := by decide +kernel
theorem dX0_becomeAs_185 : gdc cX0_becomeAs 185 (.getfield 80) 3 = true := by decide +kernel
theorem dX0_becomeAs_188 : gdc cX0_becomeAs 188 (.putfield 80) 3 = true := by decide +kernel
theorem dX0_becomeAs_191 : gdc cX0_becomeAs 191 (.aload_n 0) 1 = true := by decide +kernel
theorem dX0_becomeAs_192 : gdc cX0_becomeAs 192 (.aload_n 1) 1 = true := by decide +kernel
theorem dX0_becomeAs_193 : gdc cX0_becomeAs 193 (.getfield 53) 3 = true := by decide +kernel
theorem dX0_becomeAs_196 : gdc cX0_becomeAs 196 (.putfield 53) 3 = true := by decide +kernel
theorem dX0_becomeAs_199 : gdc cX0_becomeAs 199 (.return_) 1 = true := by decide +kernel
theorem dX0_addThing_0 : gdc cX0_addThing 0 (.aload_n 0) 1 = true := by decide +kernel
theorem dX0_addThing_1 : gdc cX0_addThing 1 (.getfield 15) 3 = true := by decide +kernel
theorem dX0_addThing_4 : gdc cX0_addThing 4 (.aload_n 0) 1 = true := by decide +kernel
theorem dX0_addThing_5 : gdc cX0_addThing 5 (.getfield 62) 3 = true := by decide +kernel
theorem dX0_addThing_8 : gdc cX0_addThing 8 (.iload_n 1) 1 = true := by decide +kernel
theorem dX0_addThing_9 : gdc cX0_addThing 9 (.iastore) 1 = true := by decide +kernel
theorem dX0_addThing_10 : gdc cX0_addThing 10 (.aload_n 0) 1 = true := by decide +kernel
theorem dX0_addThing_11 : gdc cX0_addThing 11 (.getfield 19) 3 = true := by decide +kernel
theorem dX0_addThing_14 : gdc cX0_addThing 14 (.aload_n 0) 1 = true := by decide +kernel
theorem dX0_addThing_15 : gdc cX0_addThing 15 (.getfield 62) 3 = true := by decide +kernel
theorem dX0_addThing_18 : gdc cX0_addThing 18 (.iload_n 2) 1 = true := by decide +kernel
theorem dX0_addThing_19 : gdc cX0_addThing 19 (.iastore) 1 = true := by decide +kernel
theorem dX0_addThing_20 : gdc cX0_addThing 20 (.aload_n 0) 1 = true := by decide +kernel
theorem dX0_addThing_21 : gdc cX0_addThing 21 (.getfield 22) 3 = true := by decide +kernel
theorem dX0_addThing_24 : gdc cX0_addThing 24 (.aload_n 0) 1 = true := by decide +kernel
theorem dX0_addThing_25 : gdc cX0_addThing 25 (.getfield 62) 3 = true := by decide +kernel
theorem dX0_addThing_28 : gdc cX0_addThing 28 (.iload_n 3) 1 = true := by decide +kernel
theorem dX0_addThing_29 : gdc cX0_addThing 29 (.iastore) 1 = true := by decide +kernel
theorem dX0_addThing_30 : gdc cX0_addThing 30 (.aload_n 0) 1 = true := by decide +kernel
theorem dX0_addThing_31 : gdc cX0_addThing 31 (.getfield 25) 3 = true := by decide +kernel
theorem dX0_addThing_34 : gdc cX0_addThing 34 (.aload_n 0) 1 = true := by decide +kernel
theorem dX0_addThing_35 : gdc cX0_addThing 35 (.getfield 62) 3 = true := by decide +kernel
theorem dX0_addThing_38 : gdc cX0_addThing 38 (.iload 4) 2 = true := by decide +kernel
theorem dX0_addThing_40 : gdc cX0_addThing 40 (.iastore) 1 = true := by decide +kernel
theorem dX0_addThing_41 : gdc cX0_addThing 41 (.aload_n 0) 1 = true := by decide +kernel
theorem dX0_addThing_42 : gdc cX0_addThing 42 (.dup) 1 = true := by decide +kernel
theorem dX0_addThing_43 : gdc cX0_addThing 43 (.getfield 62) 3 = true := by decide +kernel
theorem dX0_addThing_46 : gdc cX0_addThing 46 (.iconst 1) 1 = true := by decide +kernel
theorem dX0_addThing_47 : gdc cX0_addThing 47 (.iadd) 1 = true := by decide +kernel
theorem dX0_addThing_48 : gdc cX0_addThing 48 (.putfield 62) 3 = true := by decide +kernel
theorem dX0_addThing_51 : gdc cX0_addThing 51 (.aload_n 0) 1 = true := by decide +kernel
theorem dX0_addThing_52 : gdc cX0_addThing 52 (.getfield 62) 3 = true := by decide +kernel
theorem dX0_addThing_55 : gdc cX0_addThing 55 (.iconst 1) 1 = true := by decide +kernel
theorem dX0_addThing_56 : gdc cX0_addThing 56 (.isub) 1 = true := by decide +kernel
theorem dX0_addThing_57 : gdc cX0_addThing 57 (.ireturn) 1 = true := by decide +kernel
theorem dX0_drawThing_0 : gdc cX0_drawThing 0 (.aload_n 0) 1 = true := by decide +kernel
theorem dX0_drawThing_1 : gdc cX0_drawThing 1 (.invokevirtual 83) 3 = true := by decide +kernel
theorem dX0_drawThing_4 : gdc cX0_drawThing 4 (.bipush 6) 2 = true := by decide +kernel
theorem dX0_drawThing_6 : gdc cX0_drawThing 6 (.irem) 1 = true := by decide +kernel
theorem dX0_drawThing_7 : gdc cX0_drawThing 7 (.istore_n 1) 1 = true := by decide +kernel
theorem dX0_drawThing_8 : gdc cX0_drawThing 8 (.aload_n 0) 1 = true := by decide +kernel
theorem dX0_drawThing_9 : gdc cX0_drawThing 9 (.invokevirtual 83) 3 = true := by decide +kernel
theorem dX0_drawThing_12 : gdc cX0_drawThing 12 (.bipush 8) 2 = true := by decide +kernel
theorem dX0_drawThing_14 : gdc cX0_drawThing 14 (.irem) 1 = true := by decide +kernel
theorem dX0_drawThing_15 : gdc cX0_drawThing 15 (.istore_n 2) 1 = true := by decide +kernel
theorem dX0_drawThing_16 : gdc cX0_drawThing 16 (.aload_n 0) 1 = true := by decide +kernel
theorem dX0_drawThing_17 : gdc cX0_drawThing 17 (.invokevirtual 83) 3 = true := by decide +kernel
theorem dX0_drawThing_20 : gdc cX0_drawThing 20 (.bipush 60) 2 = true := by decide +kernel
theorem dX0_drawThing_22 : gdc cX0_drawThing 22 (.irem) 1 = true := by decide +kernel
theorem dX0_drawThing_23 : gdc cX0_drawThing 23 (.istore_n 3) 1 = true := by decide +kernel
theorem dX0_drawThing_24 : gdc cX0_drawThing 24 (.aload_n 0) 1 = true := by decide +kernel
theorem dX0_drawThing_25 : gdc cX0_drawThing 25 (.invokevirtual 83) 3 = true := by decide +kernel
theorem dX0_drawThing_28 : gdc cX0_drawThing 28 (.iconst 4) 1 = true := by decide +kernel
theorem dX0_drawThing_29 : gdc cX0_drawThing 29 (.irem) 1 = true := by decide +kernel
theorem dX0_drawThing_30 : gdc cX0_drawThing 30 (.ifCond .ne 7) 3 = true := by decide +kernel
theorem dX0_drawThing_33 : gdc cX0_drawThing 33 (.iconst 1) 1 = true := by decide +kernel
theorem dX0_drawThing_34 : gdc cX0_drawThing 34 (.goto 4) 3 = true := by decide +kernel
theorem dX0_drawThing_37 : gdc cX0_drawThing 37 (.iconst 0) 1 = true := by decide +kernel
theorem dX0_drawThing_38 : gdc cX0_drawThing 38 (.istore 4) 2 = true := by decide +kernel
theorem dX0_drawThing_40 : gdc cX0_drawThing 40 (.aload_n 0) 1 = true := by decide +kernel
theorem dX0_drawThing_41 : gdc cX0_drawThing 41 (.iload_n 1) 1 = true := by decide +kernel
theorem dX0_drawThing_42 : gdc cX0_drawThing 42 (.iload_n 2) 1 = true := by decide +kernel
theorem dX0_drawThing_43 : gdc cX0_drawThing 43 (.iload_n 3) 1 = true := by decide +kernel
theorem dX0_drawThing_44 : gdc cX0_drawThing 44 (.iload 4) 2 = true := by decide +kernel
theorem dX0_drawThing_46 : gdc cX0_drawThing 46 (.invokevirtual 87) 3 = true := by decide +kernel
theorem dX0_drawThing_49 : gdc cX0_drawThing 49 (.pop) 1 = true := by decide +kernel
theorem dX0_drawThing_50 : gdc cX0_drawThing 50 (.return_) 1 = true := by decide +kernel
theorem dX0_doorBetween_0 : gdc cX0_doorBetween 0 (.aload_n 0) 1 = true := by decide +kernel
theorem dX0_doorBetween_1 : gdc cX0_doorBetween 1 (.getfield 31) 3 = true := by decide +kernel
theorem dX0_doorBetween_4 : gdc cX0_doorBetween 4 (.iload_n 1) 1 = true := by decide +kernel
theorem dX0_doorBetween_5 : gdc cX0_doorBetween 5 (.bipush 8) 2 = true := by decide +kernel
theorem dX0_doorBetween_7 : gdc cX0_doorBetween 7 (.imul) 1 = true := by decide +kernel
theorem dX0_doorBetween_8 : gdc cX0_doorBetween 8 (.iload_n 2) 1 = true := by decide +kernel
theorem dX0_doorBetween_9 : gdc cX0_doorBetween 9 (.iadd) 1 = true := by decide +kernel
theorem dX0_doorBetween_10 : gdc cX0_doorBetween 10 (.iaload) 1 = true := by decide +kernel
theorem dX0_doorBetween_11 : gdc cX0_doorBetween 11 (.ireturn) 1 = true := by decide +kernel
theorem dX0_putDoor_0 : gdc cX0_putDoor 0 (.aload_n 0) 1 = true := by decide +kernel
theorem dX0_putDoor_1 : gdc cX0_putDoor 1 (.getfield 31) 3 = true := by decide +kernel
theorem dX0_putDoor_4 : gdc cX0_putDoor 4 (.iload_n 1) 1 = true := by decide +kernel
theorem dX0_putDoor_5 : gdc cX0_putDoor 5 (.bipush 8) 2 = true := by decide +kernel
theorem dX0_putDoor_7 : gdc cX0_putDoor 7 (.imul) 1 = true := by decide +kernel
theorem dX0_putDoor_8 : gdc cX0_putDoor 8 (.iload_n 2) 1 = true := by decide +kernel
theorem dX0_putDoor_9 : gdc cX0_putDoor 9 (.iadd) 1 = true := by decide +kernel
theorem dX0_putDoor_10 : gdc cX0_putDoor 10 (.iload_n 3) 1 = true := by decide +kernel
theorem dX0_putDoor_11 : gdc cX0_putDoor 11 (.iastore) 1 = true := by decide +kernel
theorem dX0_putDoor_12 : gdc cX0_putDoor 12 (.aload_n 0) 1 = true := by decide +kernel
theorem dX0_putDoor_13 : gdc cX0_putDoor 13 (.getfield 31) 3 = true := by decide +kernel
theorem dX0_putDoor_16 : gdc cX0_putDoor 16 (.iload_n 2) 1 = true := by decide +kernel
theorem dX0_putDoor_17 : gdc cX0_putDoor 17 (.bipush 8) 2 = true := by decide +kernel
theorem dX0_putDoor_19 : gdc cX0_putDoor 19 (.imul) 1 = true := by decide +kernel
theorem dX0_putDoor_20 : gdc cX0_putDoor 20 (.iload_n 1) 1 = true := by decide +kernel
theorem dX0_putDoor_21 : gdc cX0_putDoor 21 (.iadd) 1 = true := by decide +kernel
theorem dX0_putDoor_22 : gdc cX0_putDoor 22 (.iload_n 3) 1 = true := by decide +kernel
theorem dX0_putDoor_23 : gdc cX0_putDoor 23 (.iastore) 1 = true := by decide +kernel
theorem dX0_putDoor_24 : gdc cX0_putDoor 24 (.return_) 1 = true := by decide +kernel
theorem dX0_reachedNext_0 : gdc cX0_reachedNext 0 (.iload_n 1) 1 = true := by decide +kernel
theorem dX0_reachedNext_1 : gdc cX0_reachedNext 1 (.istore_n 2) 1 = true := by decide +kernel
theorem dX0_reachedNext_2 : gdc cX0_reachedNext 2 (.iconst 0) 1 = true := by decide +kernel
theorem dX0_reachedNext_3 : gdc cX0_reachedNext 3 (.istore_n 3) 1 = true := by decide +kernel
theorem dX0_reachedNext_4 : gdc cX0_reachedNext 4 (.iload_n 3) 1 = true := by decide +kernel
theorem dX0_reachedNext_5 : gdc cX0_reachedNext 5 (.bipush 8) 2 = true := by decide +kernel
theorem dX0_reachedNext_7 : gdc cX0_reachedNext 7 (.if_icmp .ge 52) 3 = true := by decide +kernel
theorem dX0_reachedNext_10 : gdc cX0_reachedNext 10 (.iconst 0) 1 = true := by decide +kernel
theorem dX0_reachedNext_11 : gdc cX0_reachedNext 11 (.istore 4) 2 = true := by decide +kernel
theorem dX0_reachedNext_13 : gdc cX0_reachedNext 13 (.iload 4) 2 = true := by decide +kernel
theorem dX0_reachedNext_15 : gdc cX0_reachedNext 15 (.bipush 8) 2 = true := by decide +kernel
theorem dX0_reachedNext_17 : gdc cX0_reachedNext 17 (.if_icmp .ge 36) 3 = true := by decide +kernel
theorem dX0_reachedNext_20 : gdc cX0_reachedNext 20 (.iload_n 1) 1 = true := by decide +kernel
theorem dX0_reachedNext_21 : gdc cX0_reachedNext 21 (.iload_n 3) 1 = true := by decide +kernel
theorem dX0_reachedNext_22 : gdc cX0_reachedNext 22 (.ishr) 1 = true := by decide +kernel
theorem dX0_reachedNext_23 : gdc cX0_reachedNext 23 (.iconst 1) 1 = true := by decide +kernel
theorem dX0_reachedNext_24 : gdc cX0_reachedNext 24 (.iand) 1 = true := by decide +kernel
theorem dX0_reachedNext_25 : gdc cX0_reachedNext 25 (.iconst 1) 1 = true := by decide +kernel
theorem dX0_reachedNext_26 : gdc cX0_reachedNext 26 (.if_icmp .ne 21) 3 = true := by decide +kernel
theorem dX0_reachedNext_29 : gdc cX0_reachedNext 29 (.aload_n 0) 1 = true := by decide +kernel
theorem dX0_reachedNext_30 : gdc cX0_reachedNext 30 (.iload_n 3) 1 = true := by decide +kernel
theorem dX0_reachedNext_31 : gdc cX0_reachedNext 31 (.iload 4) 2 = true := by decide +kernel
theorem dX0_reachedNext_33 : gdc cX0_reachedNext 33 (.invokevirtual 91) 3 = true := by decide +kernel
theorem dX0_reachedNext_36 : gdc cX0_reachedNext 36 (.iconst 2) 1 = true := by decide +kernel
theorem dX0_reachedNext_37 : gdc cX0_reachedNext 37 (.if_icmp .ne 10) 3 = true := by decide +kernel
theorem dX0_reachedNext_40 : gdc cX0_reachedNext 40 (.iload_n 2) 1 = true := by decide +kernel
theorem dX0_reachedNext_41 : gdc cX0_reachedNext 41 (.iconst 1) 1 = true := by decide +kernel
theorem dX0_reachedNext_42 : gdc cX0_reachedNext 42 (.iload 4) 2 = true := by decide +kernel
theorem dX0_reachedNext_44 : gdc cX0_reachedNext 44 (.ishl) 1 = true := by decide +kernel
theorem dX0_reachedNext_45 : gdc cX0_reachedNext 45 (.ior) 1 = true := by decide +kernel
theorem dX0_reachedNext_46 : gdc cX0_reachedNext 46 (.istore_n 2) 1 = true := by decide +kernel
theorem dX0_reachedNext_47 : gdc cX0_reachedNext 47 (.iinc 4 1) 3 = true := by decide +kernel
theorem dX0_reachedNext_50 : gdc cX0_reachedNext 50 (.goto (-37)) 3 = true := by decide +kernel
theorem dX0_reachedNext_53 : gdc cX0_reachedNext 53 (.iinc 3 1) 3 = true := by decide +kernel
theorem dX0_reachedNext_56 : gdc cX0_reachedNext 56 (.goto (-52)) 3 = true := by decide +kernel
theorem dX0_reachedNext_59 : gdc cX0_reachedNext 59 (.iload_n 2) 1 = true := by decide +kernel
theorem dX0_reachedNext_60 : gdc cX0_reachedNext 60 (.ireturn) 1 = true := by decide +kernel
theorem dX0_litSet_0 : gdc cX0_litSet 0 (.iconst 0) 1 = true := by decide +kernel
theorem dX0_litSet_1 : gdc cX0_litSet 1 (.istore_n 1) 1 = true := by decide +kernel
theorem dX0_litSet_2 : gdc cX0_litSet 2 (.iconst 0) 1 = true := by decide +kernel
theorem dX0_litSet_3 : gdc cX0_litSet 3 (.istore_n 2) 1 = true := by decide +kernel
theorem dX0_litSet_4 : gdc cX0_litSet 4 (.iload_n 2) 1 = true := by decide +kernel
theorem dX0_litSet_5 : gdc cX0_litSet 5 (.aload_n 0) 1 = true := by decide +kernel
theorem dX0_litSet_6 : gdc cX0_litSet 6 (.getfield 62) 3 = true := by decide +kernel
theorem dX0_litSet_9 : gdc cX0_litSet 9 (.if_icmp .ge 20) 3 = true := by decide +kernel
theorem dX0_litSet_12 : gdc cX0_litSet 12 (.iload_n 1) 1 = true := by decide +kernel
theorem dX0_litSet_13 : gdc cX0_litSet 13 (.aload_n 0) 1 = true := by decide +kernel
theorem dX0_litSet_14 : gdc cX0_litSet 14 (.getfield 25) 3 = true := by decide +kernel
theorem dX0_litSet_17 : gdc cX0_litSet 17 (.iload_n 2) 1 = true := by decide +kernel
theorem dX0_litSet_18 : gdc cX0_litSet 18 (.iaload) 1 = true := by decide +kernel
theorem dX0_litSet_19 : gdc cX0_litSet 19 (.iload_n 2) 1 = true := by decide +kernel
theorem dX0_litSet_20 : gdc cX0_litSet 20 (.ishl) 1 = true := by decide +kernel
theorem dX0_litSet_21 : gdc cX0_litSet 21 (.ior) 1 = true := by decide +kernel
theorem dX0_litSet_22 : gdc cX0_litSet 22 (.istore_n 1) 1 = true := by decide +kernel
theorem dX0_litSet_23 : gdc cX0_litSet 23 (.iinc 2 1) 3 = true := by decide +kernel
theorem dX0_litSet_26 : gdc cX0_litSet 26 (.goto (-22)) 3 = true := by decide +kernel
theorem dX0_litSet_29 : gdc cX0_litSet 29 (.iload_n 1) 1 = true := by decide +kernel
theorem dX0_litSet_30 : gdc cX0_litSet 30 (.ireturn) 1 = true := by decide +kernel
theorem dX0_heatTogether_0 : gdc cX0_heatTogether 0 (.iconst 0) 1 = true := by decide +kernel
theorem dX0_heatTogether_1 : gdc cX0_heatTogether 1 (.istore_n 1) 1 = true := by decide +kernel
theorem dX0_heatTogether_2 : gdc cX0_heatTogether 2 (.iconst 0) 1 = true := by decide +kernel
theorem dX0_heatTogether_3 : gdc cX0_heatTogether 3 (.istore_n 2) 1 = true := by decide +kernel
theorem dX0_heatTogether_4 : gdc cX0_heatTogether 4 (.iload_n 2) 1 = true := by decide +kernel
theorem dX0_heatTogether_5 : gdc cX0_heatTogether 5 (.bipush 8) 2 = true := by decide +kernel
theorem dX0_heatTogether_7 : gdc cX0_heatTogether 7 (.if_icmp .ge 18) 3 = true := by decide +kernel
theorem dX0_heatTogether_10 : gdc cX0_heatTogether 10 (.iload_n 1) 1 = true := by decide +kernel
theorem dX0_heatTogether_11 : gdc cX0_heatTogether 11 (.aload_n 0) 1 = true := by decide +kernel
theorem dX0_heatTogether_12 : gdc cX0_heatTogether 12 (.getfield 28) 3 = true := by decide +kernel
theorem dX0_heatTogether_15 : gdc cX0_heatTogether 15 (.iload_n 2) 1 = true := by decide +kernel
theorem dX0_heatTogether_16 : gdc cX0_heatTogether 16 (.iaload) 1 = true := by decide +kernel
theorem dX0_heatTogether_17 : gdc cX0_heatTogether 17 (.iadd) 1 = true := by decide +kernel
theorem dX0_heatTogether_18 : gdc cX0_heatTogether 18 (.istore_n 1) 1 = true := by decide +kernel
theorem dX0_heatTogether_19 : gdc cX0_heatTogether 19 (.iinc 2 1) 3 = true := by decide +kernel
theorem dX0_heatTogether_22 : gdc cX0_heatTogether 22 (.goto (-18)) 3 = true := by decide +kernel
theorem dX0_heatTogether_25 : gdc cX0_heatTogether 25 (.iload_n 1) 1 = true := by decide +kernel
theorem dX0_heatTogether_26 : gdc cX0_heatTogether 26 (.ireturn) 1 = true := by decide +kernel
theorem dX0_burnsOf_0 : gdc cX0_burnsOf 0 (.aload_n 0) 1 = true := by decide +kernel
theorem dX0_burnsOf_1 : gdc cX0_burnsOf 1 (.getfield 37) 3 = true := by decide +kernel
theorem dX0_burnsOf_4 : gdc cX0_burnsOf 4 (.iconst 0) 1 = true := by decide +kernel
theorem dX0_burnsOf_5 : gdc cX0_burnsOf 5 (.iaload) 1 = true := by decide +kernel
theorem dX0_burnsOf_6 : gdc cX0_burnsOf 6 (.istore_n 2) 1 = true := by decide +kernel
theorem dX0_burnsOf_7 : gdc cX0_burnsOf 7 (.iconst 5) 1 = true := by decide +kernel
theorem dX0_burnsOf_8 : gdc cX0_burnsOf 8 (.istore_n 3) 1 = true := by decide +kernel
theorem dX0_burnsOf_9 : gdc cX0_burnsOf 9 (.iload_n 2) 1 = true := by decide +kernel
theorem dX0_burnsOf_10 : gdc cX0_burnsOf 10 (.ifCond .lt 38) 3 = true := by decide +kernel
theorem dX0_burnsOf_13 : gdc cX0_burnsOf 13 (.aload_n 0) 1 = true := by decide +kernel
theorem dX0_burnsOf_14 : gdc cX0_burnsOf 14 (.getfield 9) 3 = true := by decide +kernel
theorem dX0_burnsOf_17 : gdc cX0_burnsOf 17 (.iload_n 2) 1 = true := by decide +kernel
theorem dX0_burnsOf_18 : gdc cX0_burnsOf 18 (.aload_n 0) 1 = true := by decide +kernel
theorem dX0_burnsOf_19 : gdc cX0_burnsOf 19 (.getfield 22) 3 = true := by decide +kernel
theorem dX0_burnsOf_22 : gdc cX0_burnsOf 22 (.iload_n 1) 1 = true := by decide +kernel
theorem dX0_burnsOf_23 : gdc cX0_burnsOf 23 (.iaload) 1 = true := by decide +kernel
theorem dX0_burnsOf_24 : gdc cX0_burnsOf 24 (.aload_n 0) 1 = true := by decide +kernel
theorem dX0_burnsOf_25 : gdc cX0_burnsOf 25 (.getfield 28) 3 = true := by decide +kernel
theorem dX0_burnsOf_28 : gdc cX0_burnsOf 28 (.aload_n 0) 1 = true := by decide +kernel
theorem dX0_burnsOf_29 : gdc cX0_burnsOf 29 (.getfield 19) 3 = true := by decide +kernel
theorem dX0_burnsOf_32 : gdc cX0_burnsOf 32 (.iload_n 1) 1 = true := by decide +kernel
theorem dX0_burnsOf_33 : gdc cX0_burnsOf 33 (.iaload) 1 = true := by decide +kernel
theorem dX0_burnsOf_34 : gdc cX0_burnsOf 34 (.iaload) 1 = true := by decide +kernel
theorem dX0_burnsOf_35 : gdc cX0_burnsOf 35 (.aload_n 0) 1 = true := by decide +kernel
theorem dX0_burnsOf_36 : gdc cX0_burnsOf 36 (.getfield 80) 3 = true := by decide +kernel
theorem dX0_burnsOf_39 : gdc cX0_burnsOf 39 (.invokevirtual 95) 3 = true := by decide +kernel
theorem dX0_burnsOf_42 : gdc cX0_burnsOf 42 (.bipush 99) 2 = true := by decide +kernel
theorem dX0_burnsOf_44 : gdc cX0_burnsOf 44 (.invokestatic 100) 3 = true := by decide +kernel
theorem dX0_burnsOf_47 : gdc cX0_burnsOf 47 (.istore_n 3) 1 = true := by decide +kernel
theorem dX0_burnsOf_48 : gdc cX0_burnsOf 48 (.aload_n 0) 1 = true := by decide +kernel
theorem dX0_burnsOf_49 : gdc cX0_burnsOf 49 (.getfield 15) 3 = true := by decide +kernel
theorem dX0_burnsOf_52 : gdc cX0_burnsOf 52 (.iload_n 1) 1 = true := by decide +kernel
theorem dX0_burnsOf_53 : gdc cX0_burnsOf 53 (.iaload) 1 = true := by decide +kernel
theorem dX0_burnsOf_54 : gdc cX0_burnsOf 54 (.iload_n 3) 1 = true := by decide +kernel
theorem dX0_burnsOf_55 : gdc cX0_burnsOf 55 (.invokestatic 103) 3 = true := by decide +kernel
theorem dX0_burnsOf_58 : gdc cX0_burnsOf 58 (.ireturn) 1 = true := by decide +kernel
theorem dX0_passMinute_0 : gdc cX0_passMinute 0 (.aload_n 0) 1 = true := by decide +kernel
theorem dX0_passMinute_1 : gdc cX0_passMinute 1 (.invokevirtual 108) 3 = true := by decide +kernel
theorem dX0_passMinute_4 : gdc cX0_passMinute 4 (.aload_n 0) 1 = true := by decide +kernel
theorem dX0_passMinute_5 : gdc cX0_passMinute 5 (.invokevirtual 111) 3 = true := by decide +kernel
theorem dX0_passMinute_8 : gdc cX0_passMinute 8 (.aload_n 0) 1 = true := by decide +kernel
theorem dX0_passMinute_9 : gdc cX0_passMinute 9 (.invokevirtual 114) 3 = true := by decide +kernel
theorem dX0_passMinute_12 : gdc cX0_passMinute 12 (.aload_n 0) 1 = true := by decide +kernel
theorem dX0_passMinute_13 : gdc cX0_passMinute 13 (.invokevirtual 117) 3 = true := by decide +kernel
theorem dX0_passMinute_16 : gdc cX0_passMinute 16 (.aload_n 0) 1 = true := by decide +kernel
theorem dX0_passMinute_17 : gdc cX0_passMinute 17 (.invokevirtual 120) 3 = true := by decide +kernel
theorem dX0_passMinute_20 : gdc cX0_passMinute 20 (.aload_n 0) 1 = true := by decide +kernel
theorem dX0_passMinute_21 : gdc cX0_passMinute 21 (.dup) 1 = true := by decide +kernel
theorem dX0_passMinute_22 : gdc cX0_passMinute 22 (.getfield 80) 3 = true := by decide +kernel
theorem dX0_passMinute_25 : gdc cX0_passMinute 25 (.iconst 1) 1 = true := by decide +kernel
theorem dX0_passMinute_26 : gdc cX0_passMinute 26 (.iadd) 1 = true := by decide +kernel
theorem dX0_passMinute_27 : gdc cX0_passMinute 27 (.putfield 80) 3 = true := by decide +kernel
theorem dX0_passMinute_30 : gdc cX0_passMinute 30 (.return_) 1 = true := by decide +kernel
theorem dX0_burnThings_0 : gdc cX0_burnThings 0 (.iconst 0) 1 = true := by decide +kernel
theorem dX0_burnThings_1 : gdc cX0_burnThings 1 (.istore_n 1) 1 = true := by decide +kernel
theorem dX0_burnThings_2 : gdc cX0_burnThings 2 (.iload_n 1) 1 = true := by decide +kernel
theorem dX0_burnThings_3 : gdc cX0_burnThings 3 (.aload_n 0) 1 = true := by decide +kernel
theorem dX0_burnThings_4 : gdc cX0_burnThings 4 (.getfield 62) 3 = true := by decide +kernel
theorem dX0_burnThings_7 : gdc cX0_burnThings 7 (.if_icmp .ge 115) 3 = true := by decide +kernel
theorem dX0_burnThings_10 : gdc cX0_burnThings 10 (.aload_n 0) 1 = true := by decide +kernel
theorem dX0_burnThings_11 : gdc cX0_burnThings 11 (.getfield 25) 3 = true := by decide +kernel
theorem dX0_burnThings_14 : gdc cX0_burnThings 14 (.iload_n 1) 1 = true := by decide +kernel
theorem dX0_burnThings_15 : gdc cX0_burnThings 15 (.iaload) 1 = true := by decide +kernel
theorem dX0_burnThings_16 : gdc cX0_burnThings 16 (.iconst 1) 1 = true := by decide +kernel
theorem dX0_burnThings_17 : gdc cX0_burnThings 17 (.if_icmp .ne 99) 3 = true := by decide +kernel
theorem dX0_burnThings_20 : gdc cX0_burnThings 20 (.aload_n 0) 1 = true := by decide +kernel
theorem dX0_burnThings_21 : gdc cX0_burnThings 21 (.getfield 22) 3 = true := by decide +kernel
theorem dX0_burnThings_24 : gdc cX0_burnThings 24 (.iload_n 1) 1 = true := by decide +kernel
theorem dX0_burnThings_25 : gdc cX0_burnThings 25 (.iaload) 1 = true := by decide +kernel
theorem dX0_burnThings_26 : gdc cX0_burnThings 26 (.aload_n 0) 1 = true := by decide +kernel
theorem dX0_burnThings_27 : gdc cX0_burnThings 27 (.iload_n 1) 1 = true := by decide +kernel
theorem dX0_burnThings_28 : gdc cX0_burnThings 28 (.invokevirtual 123) 3 = true := by decide +kernel
theorem dX0_burnThings_31 : gdc cX0_burnThings 31 (.invokestatic 127) 3 = true := by decide +kernel
theorem dX0_burnThings_34 : gdc cX0_burnThings 34 (.istore_n 2) 1 = true := by decide +kernel
theorem dX0_burnThings_35 : gdc cX0_burnThings 35 (.aload_n 0) 1 = true := by decide +kernel
theorem dX0_burnThings_36 : gdc cX0_burnThings 36 (.getfield 19) 3 = true := by decide +kernel
theorem dX0_burnThings_39 : gdc cX0_burnThings 39 (.iload_n 1) 1 = true := by decide +kernel
theorem dX0_burnThings_40 : gdc cX0_burnThings 40 (.iaload) 1 = true := by decide +kernel
theorem dX0_burnThings_41 : gdc cX0_burnThings 41 (.istore_n 3) 1 = true := by decide +kernel
theorem dX0_burnThings_42 : gdc cX0_burnThings 42 (.aload_n 0) 1 = true := by decide +kernel
theorem dX0_burnThings_43 : gdc cX0_burnThings 43 (.getfield 22) 3 = true := by decide +kernel
theorem dX0_burnThings_46 : gdc cX0_burnThings 46 (.iload_n 1) 1 = true := by decide +kernel
theorem dX0_burnThings_47 : gdc cX0_burnThings 47 (.dup2) 1 = true := by decide +kernel
theorem dX0_burnThings_48 : gdc cX0_burnThings 48 (.iaload) 1 = true := by decide +kernel
theorem dX0_burnThings_49 : gdc cX0_burnThings 49 (.iload_n 2) 1 = true := by decide +kernel
theorem dX0_burnThings_50 : gdc cX0_burnThings 50 (.isub) 1 = true := by decide +kernel
theorem dX0_burnThings_51 : gdc cX0_burnThings 51 (.iastore) 1 = true := by decide +kernel
theorem dX0_burnThings_52 : gdc cX0_burnThings 52 (.aload_n 0) 1 = true := by decide +kernel
theorem dX0_burnThings_53 : gdc cX0_burnThings 53 (.dup) 1 = true := by decide +kernel
theorem dX0_burnThings_54 : gdc cX0_burnThings 54 (.getfield 71) 3 = true := by decide +kernel
theorem dX0_burnThings_57 : gdc cX0_burnThings 57 (.iload_n 2) 1 = true := by decide +kernel
theorem dX0_burnThings_58 : gdc cX0_burnThings 58 (.iadd) 1 = true := by decide +kernel
theorem dX0_burnThings_59 : gdc cX0_burnThings 59 (.putfield 71) 3 = true := by decide +kernel
theorem dX0_burnThings_62 : gdc cX0_burnThings 62 (.aload_n 0) 1 = true := by decide +kernel
theorem dX0_burnThings_63 : gdc cX0_burnThings 63 (.getfield 28) 3 = true := by decide +kernel
theorem dX0_burnThings_66 : gdc cX0_burnThings 66 (.iload_n 3) 1 = true := by decide +kernel
theorem dX0_burnThings_67 : gdc cX0_burnThings 67 (.bipush 99) 2 = true := by decide +kernel
theorem dX0_burnThings_69 : gdc cX0_burnThings 69 (.aload_n 0) 1 = true := by decide +kernel
theorem dX0_burnThings_70 : gdc cX0_burnThings 70 (.getfield 28) 3 = true := by decide +kernel
theorem dX0_burnThings_73 : gdc cX0_burnThings 73 (.iload_n 3) 1 = true := by decide +kernel
theorem dX0_burnThings_74 : gdc cX0_burnThings 74 (.iaload) 1 = true := by decide +kernel
theorem dX0_burnThings_75 : gdc cX0_burnThings 75 (.aload_n 0) 1 = true := by decide +kernel
theorem dX0_burnThings_76 : gdc cX0_burnThings 76 (.getfield 15) 3 = true := by decide +kernel
theorem dX0_burnThings_79 : gdc cX0_burnThings 79 (.iload_n 1) 1 = true := by decide +kernel
theorem dX0_burnThings_80 : gdc cX0_burnThings 80 (.iaload) 1 = true := by decide +kernel
theorem dX0_burnThings_81 : gdc cX0_burnThings 81 (.iload_n 2) 1 = true := by decide +kernel
theorem dX0_burnThings_82 : gdc cX0_burnThings 82 (.invokestatic 132) 3 = true := by decide +kernel
theorem dX0_burnThings_85 : gdc cX0_burnThings 85 (.iadd) 1 = true := by decide +kernel
theorem dX0_burnThings_86 : gdc cX0_burnThings 86 (.invokestatic 127) 3 = true := by decide +kernel
theorem dX0_burnThings_89 : gdc cX0_burnThings 89 (.iastore) 1 = true := by decide +kernel
theorem dX0_burnThings_90 : gdc cX0_burnThings 90 (.aload_n 0) 1 = true := by decide +kernel
theorem dX0_burnThings_91 : gdc cX0_burnThings 91 (.getfield 22) 3 = true := by decide +kernel
theorem dX0_burnThings_94 : gdc cX0_burnThings 94 (.iload_n 1) 1 = true := by decide +kernel
theorem dX0_burnThings_95 : gdc cX0_burnThings 95 (.iaload) 1 = true := by decide +kernel
theorem dX0_burnThings_96 : gdc cX0_burnThings 96 (.ifCond .ne 20) 3 = true := by decide +kernel
theorem dX0_burnThings_99 : gdc cX0_burnThings 99 (.aload_n 0) 1 = true := by decide +kernel
theorem dX0_burnThings_100 : gdc cX0_burnThings 100 (.getfield 25) 3 = true := by decide +kernel
theorem dX0_burnThings_103 : gdc cX0_burnThings 103 (.iload_n 1) 1 = true := by decide +kernel
theorem dX0_burnThings_104 : gdc cX0_burnThings 104 (.iconst 0) 1 = true := by decide +kernel
theorem dX0_burnThings_105 : gdc cX0_burnThings 105 (.iastore) 1 = true := by decide +kernel
theorem dX0_burnThings_106 : gdc cX0_burnThings 106 (.aload_n 0) 1 = true := by decide +kernel
theorem dX0_burnThings_107 : gdc cX0_burnThings 107 (.dup) 1 = true := by decide +kernel
theorem dX0_burnThings_108 : gdc cX0_burnThings 108 (.getfield 74) 3 = true := by decide +kernel
theorem dX0_burnThings_111 : gdc cX0_burnThings 111 (.iconst 1) 1 = true := by decide +kernel
theorem dX0_burnThings_112 : gdc cX0_burnThings 112 (.iadd) 1 = true := by decide +kernel
theorem dX0_burnThings_113 : gdc cX0_burnThings 113 (.putfield 74) 3 = true := by decide +kernel
theorem dX0_burnThings_116 : gdc cX0_burnThings 116 (.iinc 1 1) 3 = true := by decide +kernel
theorem dX0_burnThings_119 : gdc cX0_burnThings 119 (.goto (-117)) 3 = true := by decide +kernel
theorem dX0_burnThings_122 : gdc cX0_burnThings 122 (.return_) 1 = true := by decide +kernel
theorem dX0_spreadHeat_0 : gdc cX0_spreadHeat 0 (.iconst 0) 1 = true := by decide +kernel
theorem dX0_spreadHeat_1 : gdc cX0_spreadHeat 1 (.istore_n 1) 1 = true := by decide +kernel
theorem dX0_spreadHeat_2 : gdc cX0_spreadHeat 2 (.iload_n 1) 1 = true := by decide +kernel
theorem dX0_spreadHeat_3 : gdc cX0_spreadHeat 3 (.bipush 8) 2 = true := by decide +kernel
theorem dX0_spreadHeat_5 : gdc cX0_spreadHeat 5 (.if_icmp .ge 76) 3 = true := by decide +kernel
theorem dX0_spreadHeat_8 : gdc cX0_spreadHeat 8 (.iload_n 1) 1 = true := by decide +kernel
theorem dX0_spreadHeat_9 : gdc cX0_spreadHeat 9 (.iconst 1) 1 = true := by decide +kernel
theorem dX0_spreadHeat_10 : gdc cX0_spreadHeat 10 (.iadd) 1 = true := by decide +kernel
theorem dX0_spreadHeat_11 : gdc cX0_spreadHeat 11 (.istore_n 2) 1 = true := by decide +kernel
theorem dX0_spreadHeat_12 : gdc cX0_spreadHeat 12 (.iload_n 2) 1 = true := by decide +kernel
theorem dX0_spreadHeat_13 : gdc cX0_spreadHeat 13 (.bipush 8) 2 = true := by decide +kernel
theorem dX0_spreadHeat_15 : gdc cX0_spreadHeat 15 (.if_icmp .ge 60) 3 = true := by decide +kernel
theorem dX0_spreadHeat_18 : gdc cX0_spreadHeat 18 (.aload_n 0) 1 = true := by decide +kernel
theorem dX0_spreadHeat_19 : gdc cX0_spreadHeat 19 (.getfield 31) 3 = true := by decide +kernel
theorem dX0_spreadHeat_22 : gdc cX0_spreadHeat 22 (.iload_n 1) 1 = true := by decide +kernel
theorem dX0_spreadHeat_23 : gdc cX0_spreadHeat 23 (.bipush 8) 2 = true := by decide +kernel
theorem dX0_spreadHeat_25 : gdc cX0_spreadHeat 25 (.imul) 1 = true := by decide +kernel
theorem dX0_spreadHeat_26 : gdc cX0_spreadHeat 26 (.iload_n 2) 1 = true := by decide +kernel
theorem dX0_spreadHeat_27 : gdc cX0_spreadHeat 27 (.iadd) 1 = true := by decide +kernel
theorem dX0_spreadHeat_28 : gdc cX0_spreadHeat 28 (.iaload) 1 = true := by decide +kernel
theorem dX0_spreadHeat_29 : gdc cX0_spreadHeat 29 (.iconst 2) 1 = true := by decide +kernel
theorem dX0_spreadHeat_30 : gdc cX0_spreadHeat 30 (.if_icmp .ne 39) 3 = true := by decide +kernel
theorem dX0_spreadHeat_33 : gdc cX0_spreadHeat 33 (.aload_n 0) 1 = true := by decide +kernel
theorem dX0_spreadHeat_34 : gdc cX0_spreadHeat 34 (.getfield 28) 3 = true := by decide +kernel
theorem dX0_spreadHeat_37 : gdc cX0_spreadHeat 37 (.iload_n 1) 1 = true := by decide +kernel
theorem dX0_spreadHeat_38 : gdc cX0_spreadHeat 38 (.iaload) 1 = true := by decide +kernel
theorem dX0_spreadHeat_39 : gdc cX0_spreadHeat 39 (.aload_n 0) 1 = true := by decide +kernel
theorem dX0_spreadHeat_40 : gdc cX0_spreadHeat 40 (.getfield 28) 3 = true := by decide +kernel
theorem dX0_spreadHeat_43 : gdc cX0_spreadHeat 43 (.iload_n 2) 1 = true := by decide +kernel
theorem dX0_spreadHeat_44 : gdc cX0_spreadHeat 44 (.iaload) 1 = true := by decide +kernel
theorem dX0_spreadHeat_45 : gdc cX0_spreadHeat 45 (.isub) 1 = true := by decide +kernel
theorem dX0_spreadHeat_46 : gdc cX0_spreadHeat 46 (.iconst 4) 1 = true := by decide +kernel
theorem dX0_spreadHeat_47 : gdc cX0_spreadHeat 47 (.idiv) 1 = true := by decide +kernel
theorem dX0_spreadHeat_48 : gdc cX0_spreadHeat 48 (.istore_n 3) 1 = true := by decide +kernel
theorem dX0_spreadHeat_49 : gdc cX0_spreadHeat 49 (.aload_n 0) 1 = true := by decide +kernel
theorem dX0_spreadHeat_50 : gdc cX0_spreadHeat 50 (.getfield 28) 3 = true := by decide +kernel
theorem dX0_spreadHeat_53 : gdc cX0_spreadHeat 53 (.iload_n 1) 1 = true := by decide +kernel
theorem dX0_spreadHeat_54 : gdc cX0_spreadHeat 54 (.dup2) 1 = true := by decide +kernel
theorem dX0_spreadHeat_55 : gdc cX0_spreadHeat 55 (.iaload) 1 = true := by decide +kernel
theorem dX0_spreadHeat_56 : gdc cX0_spreadHeat 56 (.iload_n 3) 1 = true := by decide +kernel
theorem dX0_spreadHeat_57 : gdc cX0_spreadHeat 57 (.isub) 1 = true := by decide +kernel
theorem dX0_spreadHeat_58 : gdc cX0_spreadHeat 58 (.iastore) 1 = true := by decide +kernel
theorem dX0_spreadHeat_59 : gdc cX0_spreadHeat 59 (.aload_n 0) 1 = true := by decide +kernel
theorem dX0_spreadHeat_60 : gdc cX0_spreadHeat 60 (.getfield 28) 3 = true := by decide +kernel
theorem dX0_spreadHeat_63 : gdc cX0_spreadHeat 63 (.iload_n 2) 1 = true := by decide +kernel
theorem dX0_spreadHeat_64 : gdc cX0_spreadHeat 64 (.dup2) 1 = true := by decide +kernel
theorem dX0_spreadHeat_65 : gdc cX0_spreadHeat 65 (.iaload) 1 = true := by decide +kernel
theorem dX0_spreadHeat_66 : gdc cX0_spreadHeat 66 (.iload_n 3) 1 = true := by decide +kernel
theorem dX0_spreadHeat_67 : gdc cX0_spreadHeat 67 (.iadd) 1 = true := by decide +kernel
theorem dX0_spreadHeat_68 : gdc cX0_spreadHeat 68 (.iastore) 1 = true := by decide +kernel
theorem dX0_spreadHeat_69 : gdc cX0_spreadHeat 69 (.iinc 2 1) 3 = true := by decide +kernel
theorem dX0_spreadHeat_72 : gdc cX0_spreadHeat 72 (.goto (-60)) 3 = true := by decide +kernel
theorem dX0_spreadHeat_75 : gdc cX0_spreadHeat 75 (.iinc 1 1) 3 = true := by decide +kernel
theorem dX0_spreadHeat_78 : gdc cX0_spreadHeat 78 (.goto (-76)) 3 = true := by decide +kernel
theorem dX0_spreadHeat_81 : gdc cX0_spreadHeat 81 (.return_) 1 = true := by decide +kernel
theorem dX0_coolRooms_0 : gdc cX0_coolRooms 0 (.iconst 0) 1 = true := by decide +kernel
theorem dX0_coolRooms_1 : gdc cX0_coolRooms 1 (.istore_n 1) 1 = true := by decide +kernel
theorem dX0_coolRooms_2 : gdc cX0_coolRooms 2 (.iload_n 1) 1 = true := by decide +kernel
theorem dX0_coolRooms_3 : gdc cX0_coolRooms 3 (.bipush 8) 2 = true := by decide +kernel
theorem dX0_coolRooms_5 : gdc cX0_coolRooms 5 (.if_icmp .ge 30) 3 = true := by decide +kernel
theorem dX0_coolRooms_8 : gdc cX0_coolRooms 8 (.aload_n 0) 1 = true := by decide +kernel
theorem dX0_coolRooms_9 : gdc cX0_coolRooms 9 (.getfield 28) 3 = true := by decide +kernel
theorem dX0_coolRooms_12 : gdc cX0_coolRooms 12 (.iload_n 1) 1 = true := by decide +kernel
theorem dX0_coolRooms_13 : gdc cX0_coolRooms 13 (.iconst 0) 1 = true := by decide +kernel
theorem dX0_coolRooms_14 : gdc cX0_coolRooms 14 (.aload_n 0) 1 = true := by decide +kernel
theorem dX0_coolRooms_15 : gdc cX0_coolRooms 15 (.getfield 28) 3 = true := by decide +kernel
theorem dX0_coolRooms_18 : gdc cX0_coolRooms 18 (.iload_n 1) 1 = true := by decide +kernel
theorem dX0_coolRooms_19 : gdc cX0_coolRooms 19 (.iaload) 1 = true := by decide +kernel
theorem dX0_coolRooms_20 : gdc cX0_coolRooms 20 (.aload_n 0) 1 = true := by decide +kernel
theorem dX0_coolRooms_21 : gdc cX0_coolRooms 21 (.getfield 50) 3 = true := by decide +kernel
theorem dX0_coolRooms_24 : gdc cX0_coolRooms 24 (.isub) 1 = true := by decide +kernel
theorem dX0_coolRooms_25 : gdc cX0_coolRooms 25 (.invokestatic 135) 3 = true := by decide +kernel
theorem dX0_coolRooms_28 : gdc cX0_coolRooms 28 (.iastore) 1 = true := by decide +kernel
theorem dX0_coolRooms_29 : gdc cX0_coolRooms 29 (.iinc 1 1) 3 = true := by decide +kernel
theorem dX0_coolRooms_32 : gdc cX0_coolRooms 32 (.goto (-30)) 3 = true := by decide +kernel
theorem dX0_coolRooms_35 : gdc cX0_coolRooms 35 (.return_) 1 = true := by decide +kernel
theorem dX0_lightThings_0 : gdc cX0_lightThings 0 (.iconst 0) 1 = true := by decide +kernel
theorem dX0_lightThings_1 : gdc cX0_lightThings 1 (.istore_n 1) 1 = true := by decide +kernel
theorem dX0_lightThings_2 : gdc cX0_lightThings 2 (.iload_n 1) 1 = true := by decide +kernel
theorem dX0_lightThings_3 : gdc cX0_lightThings 3 (.aload_n 0) 1 = true := by decide +kernel
theorem dX0_lightThings_4 : gdc cX0_lightThings 4 (.getfield 62) 3 = true := by decide +kernel
theorem dX0_lightThings_7 : gdc cX0_lightThings 7 (.if_icmp .ge 57) 3 = true := by decide +kernel
theorem dX0_lightThings_10 : gdc cX0_lightThings 10 (.aload_n 0) 1 = true := by decide +kernel
theorem dX0_lightThings_11 : gdc cX0_lightThings 11 (.getfield 25) 3 = true := by decide +kernel
theorem dX0_lightThings_14 : gdc cX0_lightThings 14 (.iload_n 1) 1 = true := by decide +kernel
theorem dX0_lightThings_15 : gdc cX0_lightThings 15 (.iaload) 1 = true := by decide +kernel
theorem dX0_lightThings_16 : gdc cX0_lightThings 16 (.ifCond .ne 42) 3 = true := by decide +kernel
theorem dX0_lightThings_19 : gdc cX0_lightThings 19 (.aload_n 0) 1 = true := by decide +kernel
theorem dX0_lightThings_20 : gdc cX0_lightThings 20 (.getfield 22) 3 = true := by decide +kernel
theorem dX0_lightThings_23 : gdc cX0_lightThings 23 (.iload_n 1) 1 = true := by decide +kernel
theorem dX0_lightThings_24 : gdc cX0_lightThings 24 (.iaload) 1 = true := by decide +kernel
theorem dX0_lightThings_25 : gdc cX0_lightThings 25 (.ifCond .le 33) 3 = true := by decide +kernel
theorem dX0_lightThings_28 : gdc cX0_lightThings 28 (.aload_n 0) 1 = true := by decide +kernel
theorem dX0_lightThings_29 : gdc cX0_lightThings 29 (.getfield 28) 3 = true := by decide +kernel
theorem dX0_lightThings_32 : gdc cX0_lightThings 32 (.aload_n 0) 1 = true := by decide +kernel
theorem dX0_lightThings_33 : gdc cX0_lightThings 33 (.getfield 19) 3 = true := by decide +kernel
theorem dX0_lightThings_36 : gdc cX0_lightThings 36 (.iload_n 1) 1 = true := by decide +kernel
theorem dX0_lightThings_37 : gdc cX0_lightThings 37 (.iaload) 1 = true := by decide +kernel
theorem dX0_lightThings_38 : gdc cX0_lightThings 38 (.iaload) 1 = true := by decide +kernel
theorem dX0_lightThings_39 : gdc cX0_lightThings 39 (.aload_n 0) 1 = true := by decide +kernel
theorem dX0_lightThings_40 : gdc cX0_lightThings 40 (.getfield 15) 3 = true := by decide +kernel
theorem dX0_lightThings_43 : gdc cX0_lightThings 43 (.iload_n 1) 1 = true := by decide +kernel
theorem dX0_lightThings_44 : gdc cX0_lightThings 44 (.iaload) 1 = true := by decide +kernel
theorem dX0_lightThings_45 : gdc cX0_lightThings 45 (.invokestatic 138) 3 = true := by decide +kernel
theorem dX0_lightThings_48 : gdc cX0_lightThings 48 (.if_icmp .lt 10) 3 = true := by decide +kernel
theorem dX0_lightThings_51 : gdc cX0_lightThings 51 (.aload_n 0) 1 = true := by decide +kernel
theorem dX0_lightThings_52 : gdc cX0_lightThings 52 (.getfield 25) 3 = true := by decide +kernel
theorem dX0_lightThings_55 : gdc cX0_lightThings 55 (.iload_n 1) 1 = true := by decide +kernel
theorem dX0_lightThings_56 : gdc cX0_lightThings 56 (.iconst 1) 1 = true := by decide +kernel
theorem dX0_lightThings_57 : gdc cX0_lightThings 57 (.iastore) 1 = true := by decide +kernel
theorem dX0_lightThings_58 : gdc cX0_lightThings 58 (.iinc 1 1) 3 = true := by decide +kernel
theorem dX0_lightThings_61 : gdc cX0_lightThings 61 (.goto (-59)) 3 = true := by decide +kernel
theorem dX0_lightThings_64 : gdc cX0_lightThings 64 (.return_) 1 = true := by decide +kernel
theorem dX0_blowWind_0 : gdc cX0_blowWind 0 (.aload_n 0) 1 = true := by decide +kernel
theorem dX0_blowWind_1 : gdc cX0_blowWind 1 (.invokevirtual 83) 3 = true := by decide +kernel
theorem dX0_blowWind_4 : gdc cX0_blowWind 4 (.bipush 100) 2 = true := by decide +kernel
theorem dX0_blowWind_6 : gdc cX0_blowWind 6 (.irem) 1 = true := by decide +kernel
theorem dX0_blowWind_7 : gdc cX0_blowWind 7 (.aload_n 0) 1 = true := by decide +kernel
theorem dX0_blowWind_8 : gdc cX0_blowWind 8 (.getfield 46) 3 = true := by decide +kernel
theorem dX0_blowWind_11 : gdc cX0_blowWind 11 (.if_icmp .lt 4) 3 = true := by decide +kernel
theorem dX0_blowWind_14 : gdc cX0_blowWind 14 (.return_) 1 = true := by decide +kernel
theorem dX0_blowWind_15 : gdc cX0_blowWind 15 (.aload_n 0) 1 = true := by decide +kernel
theorem dX0_blowWind_16 : gdc cX0_blowWind 16 (.invokevirtual 83) 3 = true := by decide +kernel
theorem dX0_blowWind_19 : gdc cX0_blowWind 19 (.bipush 8) 2 = true := by decide +kernel
theorem dX0_blowWind_21 : gdc cX0_blowWind 21 (.irem) 1 = true := by decide +kernel
theorem dX0_blowWind_22 : gdc cX0_blowWind 22 (.istore_n 1) 1 = true := by decide +kernel
theorem dX0_blowWind_23 : gdc cX0_blowWind 23 (.aload_n 0) 1 = true := by decide +kernel
theorem dX0_blowWind_24 : gdc cX0_blowWind 24 (.invokevirtual 83) 3 = true := by decide +kernel
theorem dX0_blowWind_27 : gdc cX0_blowWind 27 (.bipush 8) 2 = true := by decide +kernel
theorem dX0_blowWind_29 : gdc cX0_blowWind 29 (.irem) 1 = true := by decide +kernel
theorem dX0_blowWind_30 : gdc cX0_blowWind 30 (.istore_n 2) 1 = true := by decide +kernel
theorem dX0_blowWind_31 : gdc cX0_blowWind 31 (.aload_n 0) 1 = true := by decide +kernel
theorem dX0_blowWind_32 : gdc cX0_blowWind 32 (.iload_n 1) 1 = true := by decide +kernel
theorem dX0_blowWind_33 : gdc cX0_blowWind 33 (.iload_n 2) 1 = true := by decide +kernel
theorem dX0_blowWind_34 : gdc cX0_blowWind 34 (.invokevirtual 91) 3 = true := by decide +kernel
theorem dX0_blowWind_37 : gdc cX0_blowWind 37 (.istore_n 3) 1 = true := by decide +kernel
theorem dX0_blowWind_38 : gdc cX0_blowWind 38 (.iload_n 1) 1 = true := by decide +kernel
theorem dX0_blowWind_39 : gdc cX0_blowWind 39 (.iload_n 2) 1 = true := by decide +kernel
theorem dX0_blowWind_40 : gdc cX0_blowWind 40 (.if_icmp .eq 33) 3 = true := by decide +kernel
theorem dX0_blowWind_43 : gdc cX0_blowWind 43 (.iload_n 3) 1 = true := by decide +kernel
theorem dX0_blowWind_44 : gdc cX0_blowWind 44 (.ifCond .eq 29) 3 = true := by decide +kernel
theorem dX0_blowWind_47 : gdc cX0_blowWind 47 (.aload_n 0) 1 = true := by decide +kernel
theorem dX0_blowWind_48 : gdc cX0_blowWind 48 (.iload_n 1) 1 = true := by decide +kernel
theorem dX0_blowWind_49 : gdc cX0_blowWind 49 (.iload_n 2) 1 = true := by decide +kernel
theorem dX0_blowWind_50 : gdc cX0_blowWind 50 (.iload_n 3) 1 = true := by decide +kernel
theorem dX0_blowWind_51 : gdc cX0_blowWind 51 (.iconst 1) 1 = true := by decide +kernel
theorem dX0_blowWind_52 : gdc cX0_blowWind 52 (.if_icmp .ne 7) 3 = true := by decide +kernel
theorem dX0_blowWind_55 : gdc cX0_blowWind 55 (.iconst 2) 1 = true := by decide +kernel
theorem dX0_blowWind_56 : gdc cX0_blowWind 56 (.goto 4) 3 = true := by decide +kernel
theorem dX0_blowWind_59 : gdc cX0_blowWind 59 (.iconst 1) 1 = true := by decide +kernel
theorem dX0_blowWind_60 : gdc cX0_blowWind 60 (.invokevirtual 141) 3 = true := by decide +kernel
theorem dX0_blowWind_63 : gdc cX0_blowWind 63 (.aload_n 0) 1 = true := by decide +kernel
theorem dX0_blowWind_64 : gdc cX0_blowWind 64 (.dup) 1 = true := by decide +kernel
theorem dX0_blowWind_65 : gdc cX0_blowWind 65 (.getfield 77) 3 = true := by decide +kernel
theorem dX0_blowWind_68 : gdc cX0_blowWind 68 (.iconst 1) 1 = true := by decide +kernel
theorem dX0_blowWind_69 : gdc cX0_blowWind 69 (.iadd) 1 = true := by decide +kernel
theorem dX0_blowWind_70 : gdc cX0_blowWind 70 (.putfield 77) 3 = true := by decide +kernel
theorem dX0_blowWind_73 : gdc cX0_blowWind 73 (.return_) 1 = true := by decide +kernel
theorem dX0_draw_0 : gdc cX0_draw 0 (.aload_n 0) 1 = true := by decide +kernel
theorem dX0_draw_1 : gdc cX0_draw 1 (.aload_n 0) 1 = true := by decide +kernel
theorem dX0_draw_2 : gdc cX0_draw 2 (.getfield 53) 3 = true := by decide +kernel
theorem dX0_draw_5 : gdc cX0_draw 5 (.ldc 145) 2 = true := by decide +kernel
theorem dX0_draw_7 : gdc cX0_draw 7 (.imul) 1 = true := by decide +kernel
theorem dX0_draw_8 : gdc cX0_draw 8 (.sipush 12345) 3 = true := by decide +kernel
theorem dX0_draw_11 : gdc cX0_draw 11 (.iadd) 1 = true := by decide +kernel
theorem dX0_draw_12 : gdc cX0_draw 12 (.putfield 53) 3 = true := by decide +kernel
theorem dX0_draw_15 : gdc cX0_draw 15 (.aload_n 0) 1 = true := by decide +kernel
theorem dX0_draw_16 : gdc cX0_draw 16 (.getfield 53) 3 = true := by decide +kernel
theorem dX0_draw_19 : gdc cX0_draw 19 (.bipush 8) 2 = true := by decide +kernel
theorem dX0_draw_21 : gdc cX0_draw 21 (.iushr) 1 = true := by decide +kernel
theorem dX0_draw_22 : gdc cX0_draw 22 (.ireturn) 1 = true := by decide +kernel
end
section
def gtb (cc : ByteArray) (t : List (Nat × Instr × Nat)) : Bool := t.all (fun q => gdc cc q.1 q.2.1 q.2.2)
theorem tb_cX0_init : gtb cX0_init [(0, .aload_n 0, 1), (1, .invokespecial 3, 3), (4, .aload_n 0, 1), (5, .aload_n 1, 1), (6, .putfield 9, 3), (9, .aload_n 0, 1), (10, .bipush 12, 2), (12, .newarray .int, 2), (14, .putfield 15, 3), (17, .aload_n 0, 1), (18, .bipush 12, 2), (20, .newarray .int, 2), (22, .putfield 19, 3), (25, .aload_n 0, 1), (26, .bipush 12, 2), (28, .newarray .int, 2), (30, .putfield 22, 3), (33, .aload_n 0, 1), (34, .bipush 12, 2), (36, .newarray .int, 2), (38, .putfield 25, 3), (41, .aload_n 0, 1), (42, .bipush 8, 2), (44, .newarray .int, 2), (46, .putfield 28, 3), (49, .aload_n 0, 1), (50, .bipush 64, 2), (52, .newarray .int, 2), (54, .putfield 31, 3), (57, .aload_n 0, 1), (58, .bipush 6, 2), (60, .newarray .int, 2), (62, .putfield 34, 3), (65, .aload_n 0, 1), (66, .iconst 3, 1), (67, .newarray .int, 2), (69, .putfield 37, 3), (72, .aload_n 0, 1), (73, .getfield 37, 3), (76, .iconst (-1), 1), (77, .invokestatic 40, 3), (80, .aload_n 0, 1), (81, .bipush 20, 2), (83, .putfield 46, 3), (86, .aload_n 0, 1), (87, .iconst 2, 1), (88, .putfield 50, 3), (91, .aload_n 0, 1), (92, .iconst 1, 1), (93, .putfield 53, 3), (96, .return_, 1)] = true := by decide +kernel
theorem tb_cX0_becomeAs : gtb cX0_becomeAs [(0, .aload_n 1, 1), (1, .getfield 15, 3), (4, .iconst 0, 1), (5, .aload_n 0, 1), (6, .getfield 15, 3), (9, .iconst 0, 1), (10, .bipush 12, 2), (12, .invokestatic 56, 3), (15, .aload_n 1, 1), (16, .getfield 19, 3), (19, .iconst 0, 1), (20, .aload_n 0, 1), (21, .getfield 19, 3), (24, .iconst 0, 1), (25, .bipush 12, 2), (27, .invokestatic 56, 3), (30, .aload_n 1, 1), (31, .getfield 22, 3), (34, .iconst 0, 1), (35, .aload_n 0, 1), (36, .getfield 22, 3), (39, .iconst 0, 1), (40, .bipush 12, 2), (42, .invokestatic 56, 3), (45, .aload_n 1, 1), (46, .getfield 25, 3), (49, .iconst 0, 1), (50, .aload_n 0, 1), (51, .getfield 25, 3), (54, .iconst 0, 1), (55, .bipush 12, 2), (57, .invokestatic 56, 3), (60, .aload_n 1, 1), (61, .getfield 28, 3), (64, .iconst 0, 1), (65, .aload_n 0, 1), (66, .getfield 28, 3), (69, .iconst 0, 1), (70, .bipush 8, 2), (72, .invokestatic 56, 3), (75, .aload_n 1, 1), (76, .getfield 31, 3), (79, .iconst 0, 1), (80, .aload_n 0, 1), (81, .getfield 31, 3), (84, .iconst 0, 1), (85, .bipush 64, 2), (87, .invokestatic 56, 3), (90, .aload_n 1, 1), (91, .getfield 34, 3), (94, .iconst 0, 1), (95, .aload_n 0, 1), (96, .getfield 34, 3), (99, .iconst 0, 1), (100, .bipush 6, 2), (102, .invokestatic 56, 3), (105, .aload_n 1, 1), (106, .getfield 37, 3), (109, .iconst 0, 1), (110, .aload_n 0, 1), (111, .getfield 37, 3), (114, .iconst 0, 1), (115, .iconst 3, 1), (116, .invokestatic 56, 3), (119, .aload_n 0, 1), (120, .aload_n 1, 1), (121, .getfield 62, 3), (124, .putfield 62, 3), (127, .aload_n 0, 1), (128, .aload_n 1, 1), (129, .getfield 65, 3), (132, .putfield 65, 3), (135, .aload_n 0, 1), (136, .aload_n 1, 1), (137, .getfield 68, 3), (140, .putfield 68, 3), (143, .aload_n 0, 1), (144, .aload_n 1, 1), (145, .getfield 46, 3), (148, .putfield 46, 3), (151, .aload_n 0, 1), (152, .aload_n 1, 1), (153, .getfield 50, 3), (156, .putfield 50, 3), (159, .aload_n 0, 1), (160, .aload_n 1, 1), (161, .getfield 71, 3), (164, .putfield 71, 3), (167, .aload_n 0, 1), (168, .aload_n 1, 1), (169, .getfield 74, 3), (172, .putfield 74, 3), (175, .aload_n 0, 1), (176, .aload_n 1, 1), (177, .getfield 77, 3), (180, .putfield 77, 3), (183, .aload_n 0, 1), (184, .aload_n 1, 1), (185, .getfield 80, 3), (188, .putfield 80, 3), (191, .aload_n 0, 1), (192, .aload_n 1, 1), (193, .getfield 53, 3), (196, .putfield 53, 3), (199, .return_, 1)] = true := by decide +kernel
theorem tb_cX0_addThing : gtb cX0_addThing [(0, .aload_n 0, 1), (1, .getfield 15, 3), (4, .aload_n 0, 1), (5, .getfield 62, 3), (8, .iload_n 1, 1), (9, .iastore, 1), (10, .aload_n 0, 1), (11, .getfield 19, 3), (14, .aload_n 0, 1), (15, .getfield 62, 3), (18, .iload_n 2, 1), (19, .iastore, 1), (20, .aload_n 0, 1), (21, .getfield 22, 3), (24, .aload_n 0, 1), (25, .getfield 62, 3), (28, .iload_n 3, 1), (29, .iastore, 1), (30, .aload_n 0, 1), (31, .getfield 25, 3), (34, .aload_n 0, 1), (35, .getfield 62, 3), (38, .iload 4, 2), (40, .iastore, 1), (41, .aload_n 0, 1), (42, .dup, 1), (43, .getfield 62, 3), (46, .iconst 1, 1), (47, .iadd, 1), (48, .putfield 62, 3), (51, .aload_n 0, 1), (52, .getfield 62, 3), (55, .iconst 1, 1), (56, .isub, 1), (57, .ireturn, 1)] = true := by decide +kernel
theorem tb_cX0_drawThing : gtb cX0_drawThing [(0, .aload_n 0, 1), (1, .invokevirtual 83, 3), (4, .bipush 6, 2), (6, .irem, 1), (7, .istore_n 1, 1), (8, .aload_n 0, 1), (9, .invokevirtual 83, 3), (12, .bipush 8, 2), (14, .irem, 1), (15, .istore_n 2, 1), (16, .aload_n 0, 1), (17, .invokevirtual 83, 3), (20, .bipush 60, 2), (22, .irem, 1), (23, .istore_n 3, 1), (24, .aload_n 0, 1), (25, .invokevirtual 83, 3), (28, .iconst 4, 1), (29, .irem, 1), (30, .ifCond .ne 7, 3), (33, .iconst 1, 1), (34, .goto 4, 3), (37, .iconst 0, 1), (38, .istore 4, 2), (40, .aload_n 0, 1), (41, .iload_n 1, 1), (42, .iload_n 2, 1), (43, .iload_n 3, 1), (44, .iload 4, 2), (46, .invokevirtual 87, 3), (49, .pop, 1), (50, .return_, 1)] = true := by decide +kernel
theorem tb_cX0_doorBetween : gtb cX0_doorBetween [(0, .aload_n 0, 1), (1, .getfield 31, 3), (4, .iload_n 1, 1), (5, .bipush 8, 2), (7, .imul, 1), (8, .iload_n 2, 1), (9, .iadd, 1), (10, .iaload, 1), (11, .ireturn, 1)] = true := by decide +kernel
theorem tb_cX0_putDoor : gtb cX0_putDoor [(0, .aload_n 0, 1), (1, .getfield 31, 3), (4, .iload_n 1, 1), (5, .bipush 8, 2), (7, .imul, 1), (8, .iload_n 2, 1), (9, .iadd, 1), (10, .iload_n 3, 1), (11, .iastore, 1), (12, .aload_n 0, 1), (13, .getfield 31, 3), (16, .iload_n 2, 1), (17, .bipush 8, 2), (19, .imul, 1), (20, .iload_n 1, 1), (21, .iadd, 1), (22, .iload_n 3, 1), (23, .iastore, 1), (24, .return_, 1)] = true := by decide +kernel
theorem tb_cX0_reachedNext : gtb cX0_reachedNext [(0, .iload_n 1, 1), (1, .istore_n 2, 1), (2, .iconst 0, 1), (3, .istore_n 3, 1), (4, .iload_n 3, 1), (5, .bipush 8, 2), (7, .if_icmp .ge 52, 3), (10, .iconst 0, 1), (11, .istore 4, 2), (13, .iload 4, 2), (15, .bipush 8, 2), (17, .if_icmp .ge 36, 3), (20, .iload_n 1, 1), (21, .iload_n 3, 1), (22, .ishr, 1), (23, .iconst 1, 1), (24, .iand, 1), (25, .iconst 1, 1), (26, .if_icmp .ne 21, 3), (29, .aload_n 0, 1), (30, .iload_n 3, 1), (31, .iload 4, 2), (33, .invokevirtual 91, 3), (36, .iconst 2, 1), (37, .if_icmp .ne 10, 3), (40, .iload_n 2, 1), (41, .iconst 1, 1), (42, .iload 4, 2), (44, .ishl, 1), (45, .ior, 1), (46, .istore_n 2, 1), (47, .iinc 4 1, 3), (50, .goto (-37), 3), (53, .iinc 3 1, 3), (56, .goto (-52), 3), (59, .iload_n 2, 1), (60, .ireturn, 1)] = true := by decide +kernel
theorem tb_cX0_litSet : gtb cX0_litSet [(0, .iconst 0, 1), (1, .istore_n 1, 1), (2, .iconst 0, 1), (3, .istore_n 2, 1), (4, .iload_n 2, 1), (5, .aload_n 0, 1), (6, .getfield 62, 3), (9, .if_icmp .ge 20, 3), (12, .iload_n 1, 1), (13, .aload_n 0, 1), (14, .getfield 25, 3), (17, .iload_n 2, 1), (18, .iaload, 1), (19, .iload_n 2, 1), (20, .ishl, 1), (21, .ior, 1), (22, .istore_n 1, 1), (23, .iinc 2 1, 3), (26, .goto (-22), 3), (29, .iload_n 1, 1), (30, .ireturn, 1)] = true := by decide +kernel
theorem tb_cX0_heatTogether : gtb cX0_heatTogether [(0, .iconst 0, 1), (1, .istore_n 1, 1), (2, .iconst 0, 1), (3, .istore_n 2, 1), (4, .iload_n 2, 1), (5, .bipush 8, 2), (7, .if_icmp .ge 18, 3), (10, .iload_n 1, 1), (11, .aload_n 0, 1), (12, .getfield 28, 3), (15, .iload_n 2, 1), (16, .iaload, 1), (17, .iadd, 1), (18, .istore_n 1, 1), (19, .iinc 2 1, 3), (22, .goto (-18), 3), (25, .iload_n 1, 1), (26, .ireturn, 1)] = true := by decide +kernel
theorem tb_cX0_burnsOf : gtb cX0_burnsOf [(0, .aload_n 0, 1), (1, .getfield 37, 3), (4, .iconst 0, 1), (5, .iaload, 1), (6, .istore_n 2, 1), (7, .iconst 5, 1), (8, .istore_n 3, 1), (9, .iload_n 2, 1), (10, .ifCond .lt 38, 3), (13, .aload_n 0, 1), (14, .getfield 9, 3), (17, .iload_n 2, 1), (18, .aload_n 0, 1), (19, .getfield 22, 3), (22, .iload_n 1, 1), (23, .iaload, 1), (24, .aload_n 0, 1), (25, .getfield 28, 3), (28, .aload_n 0, 1), (29, .getfield 19, 3), (32, .iload_n 1, 1), (33, .iaload, 1), (34, .iaload, 1), (35, .aload_n 0, 1), (36, .getfield 80, 3), (39, .invokevirtual 95, 3), (42, .bipush 99, 2), (44, .invokestatic 100, 3), (47, .istore_n 3, 1), (48, .aload_n 0, 1), (49, .getfield 15, 3), (52, .iload_n 1, 1), (53, .iaload, 1), (54, .iload_n 3, 1), (55, .invokestatic 103, 3), (58, .ireturn, 1)] = true := by decide +kernel
theorem tb_cX0_passMinute : gtb cX0_passMinute [(0, .aload_n 0, 1), (1, .invokevirtual 108, 3), (4, .aload_n 0, 1), (5, .invokevirtual 111, 3), (8, .aload_n 0, 1), (9, .invokevirtual 114, 3), (12, .aload_n 0, 1), (13, .invokevirtual 117, 3), (16, .aload_n 0, 1), (17, .invokevirtual 120, 3), (20, .aload_n 0, 1), (21, .dup, 1), (22, .getfield 80, 3), (25, .iconst 1, 1), (26, .iadd, 1), (27, .putfield 80, 3), (30, .return_, 1)] = true := by decide +kernel
theorem tb_cX0_burnThings : gtb cX0_burnThings [(0, .iconst 0, 1), (1, .istore_n 1, 1), (2, .iload_n 1, 1), (3, .aload_n 0, 1), (4, .getfield 62, 3), (7, .if_icmp .ge 115, 3), (10, .aload_n 0, 1), (11, .getfield 25, 3), (14, .iload_n 1, 1), (15, .iaload, 1), (16, .iconst 1, 1), (17, .if_icmp .ne 99, 3), (20, .aload_n 0, 1), (21, .getfield 22, 3), (24, .iload_n 1, 1), (25, .iaload, 1), (26, .aload_n 0, 1), (27, .iload_n 1, 1), (28, .invokevirtual 123, 3), (31, .invokestatic 127, 3), (34, .istore_n 2, 1), (35, .aload_n 0, 1), (36, .getfield 19, 3), (39, .iload_n 1, 1), (40, .iaload, 1), (41, .istore_n 3, 1), (42, .aload_n 0, 1), (43, .getfield 22, 3), (46, .iload_n 1, 1), (47, .dup2, 1), (48, .iaload, 1), (49, .iload_n 2, 1), (50, .isub, 1), (51, .iastore, 1), (52, .aload_n 0, 1), (53, .dup, 1), (54, .getfield 71, 3), (57, .iload_n 2, 1), (58, .iadd, 1), (59, .putfield 71, 3), (62, .aload_n 0, 1), (63, .getfield 28, 3), (66, .iload_n 3, 1), (67, .bipush 99, 2), (69, .aload_n 0, 1), (70, .getfield 28, 3), (73, .iload_n 3, 1), (74, .iaload, 1), (75, .aload_n 0, 1), (76, .getfield 15, 3), (79, .iload_n 1, 1), (80, .iaload, 1), (81, .iload_n 2, 1), (82, .invokestatic 132, 3), (85, .iadd, 1), (86, .invokestatic 127, 3), (89, .iastore, 1), (90, .aload_n 0, 1), (91, .getfield 22, 3), (94, .iload_n 1, 1), (95, .iaload, 1), (96, .ifCond .ne 20, 3), (99, .aload_n 0, 1), (100, .getfield 25, 3), (103, .iload_n 1, 1), (104, .iconst 0, 1), (105, .iastore, 1), (106, .aload_n 0, 1), (107, .dup, 1), (108, .getfield 74, 3), (111, .iconst 1, 1), (112, .iadd, 1), (113, .putfield 74, 3), (116, .iinc 1 1, 3), (119, .goto (-117), 3), (122, .return_, 1)] = true := by decide +kernel
theorem tb_cX0_spreadHeat : gtb cX0_spreadHeat [(0, .iconst 0, 1), (1, .istore_n 1, 1), (2, .iload_n 1, 1), (3, .bipush 8, 2), (5, .if_icmp .ge 76, 3), (8, .iload_n 1, 1), (9, .iconst 1, 1), (10, .iadd, 1), (11, .istore_n 2, 1), (12, .iload_n 2, 1), (13, .bipush 8, 2), (15, .if_icmp .ge 60, 3), (18, .aload_n 0, 1), (19, .getfield 31, 3), (22, .iload_n 1, 1), (23, .bipush 8, 2), (25, .imul, 1), (26, .iload_n 2, 1), (27, .iadd, 1), (28, .iaload, 1), (29, .iconst 2, 1), (30, .if_icmp .ne 39, 3), (33, .aload_n 0, 1), (34, .getfield 28, 3), (37, .iload_n 1, 1), (38, .iaload, 1), (39, .aload_n 0, 1), (40, .getfield 28, 3), (43, .iload_n 2, 1), (44, .iaload, 1), (45, .isub, 1), (46, .iconst 4, 1), (47, .idiv, 1), (48, .istore_n 3, 1), (49, .aload_n 0, 1), (50, .getfield 28, 3), (53, .iload_n 1, 1), (54, .dup2, 1), (55, .iaload, 1), (56, .iload_n 3, 1), (57, .isub, 1), (58, .iastore, 1), (59, .aload_n 0, 1), (60, .getfield 28, 3), (63, .iload_n 2, 1), (64, .dup2, 1), (65, .iaload, 1), (66, .iload_n 3, 1), (67, .iadd, 1), (68, .iastore, 1), (69, .iinc 2 1, 3), (72, .goto (-60), 3), (75, .iinc 1 1, 3), (78, .goto (-76), 3), (81, .return_, 1)] = true := by decide +kernel
theorem tb_cX0_coolRooms : gtb cX0_coolRooms [(0, .iconst 0, 1), (1, .istore_n 1, 1), (2, .iload_n 1, 1), (3, .bipush 8, 2), (5, .if_icmp .ge 30, 3), (8, .aload_n 0, 1), (9, .getfield 28, 3), (12, .iload_n 1, 1), (13, .iconst 0, 1), (14, .aload_n 0, 1), (15, .getfield 28, 3), (18, .iload_n 1, 1), (19, .iaload, 1), (20, .aload_n 0, 1), (21, .getfield 50, 3), (24, .isub, 1), (25, .invokestatic 135, 3), (28, .iastore, 1), (29, .iinc 1 1, 3), (32, .goto (-30), 3), (35, .return_, 1)] = true := by decide +kernel
theorem tb_cX0_lightThings : gtb cX0_lightThings [(0, .iconst 0, 1), (1, .istore_n 1, 1), (2, .iload_n 1, 1), (3, .aload_n 0, 1), (4, .getfield 62, 3), (7, .if_icmp .ge 57, 3), (10, .aload_n 0, 1), (11, .getfield 25, 3), (14, .iload_n 1, 1), (15, .iaload, 1), (16, .ifCond .ne 42, 3), (19, .aload_n 0, 1), (20, .getfield 22, 3), (23, .iload_n 1, 1), (24, .iaload, 1), (25, .ifCond .le 33, 3), (28, .aload_n 0, 1), (29, .getfield 28, 3), (32, .aload_n 0, 1), (33, .getfield 19, 3), (36, .iload_n 1, 1), (37, .iaload, 1), (38, .iaload, 1), (39, .aload_n 0, 1), (40, .getfield 15, 3), (43, .iload_n 1, 1), (44, .iaload, 1), (45, .invokestatic 138, 3), (48, .if_icmp .lt 10, 3), (51, .aload_n 0, 1), (52, .getfield 25, 3), (55, .iload_n 1, 1), (56, .iconst 1, 1), (57, .iastore, 1), (58, .iinc 1 1, 3), (61, .goto (-59), 3), (64, .return_, 1)] = true := by decide +kernel
theorem tb_cX0_blowWind : gtb cX0_blowWind [(0, .aload_n 0, 1), (1, .invokevirtual 83, 3), (4, .bipush 100, 2), (6, .irem, 1), (7, .aload_n 0, 1), (8, .getfield 46, 3), (11, .if_icmp .lt 4, 3), (14, .return_, 1), (15, .aload_n 0, 1), (16, .invokevirtual 83, 3), (19, .bipush 8, 2), (21, .irem, 1), (22, .istore_n 1, 1), (23, .aload_n 0, 1), (24, .invokevirtual 83, 3), (27, .bipush 8, 2), (29, .irem, 1), (30, .istore_n 2, 1), (31, .aload_n 0, 1), (32, .iload_n 1, 1), (33, .iload_n 2, 1), (34, .invokevirtual 91, 3), (37, .istore_n 3, 1), (38, .iload_n 1, 1), (39, .iload_n 2, 1), (40, .if_icmp .eq 33, 3), (43, .iload_n 3, 1), (44, .ifCond .eq 29, 3), (47, .aload_n 0, 1), (48, .iload_n 1, 1), (49, .iload_n 2, 1), (50, .iload_n 3, 1), (51, .iconst 1, 1), (52, .if_icmp .ne 7, 3), (55, .iconst 2, 1), (56, .goto 4, 3), (59, .iconst 1, 1), (60, .invokevirtual 141, 3), (63, .aload_n 0, 1), (64, .dup, 1), (65, .getfield 77, 3), (68, .iconst 1, 1), (69, .iadd, 1), (70, .putfield 77, 3), (73, .return_, 1)] = true := by decide +kernel
theorem tb_cX0_draw : gtb cX0_draw [(0, .aload_n 0, 1), (1, .aload_n 0, 1), (2, .getfield 53, 3), (5, .ldc 145, 2), (7, .imul, 1), (8, .sipush 12345, 3), (11, .iadd, 1), (12, .putfield 53, 3), (15, .aload_n 0, 1), (16, .getfield 53, 3), (19, .bipush 8, 2), (21, .iushr, 1), (22, .ireturn, 1)] = true := by decide +kernel
end
section
theorem zz : True := trivial
end
