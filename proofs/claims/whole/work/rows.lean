section
-- ===== PART A: goes FIRST, ahead of the names: the tables' words, and 'selects' of the private methods out of them =====
/-- a private method of a class that the tables say can be made, by its rows of tables_1 -/
def lw_okq (q : MethodName × Nat) : Prop := (q.1.cls ≠ "java/lang/invoke/MethodHandle" ∧ q.1.cls ≠ "java/lang/invoke/VarHandle") ∧ Cond.instantiable q.1.cls q.2 ∈ tables_1 ∧ Cond.privateMethod q.1 ∈ tables_1 ∧ Cond.instanceMethod q.1 ∈ tables_1
theorem lw_p0 : lw_okq (⟨"CopiedFire", "isThing", "(I)Z"⟩, 13) := ⟨⟨by decide +kernel, by decide +kernel⟩, List.mem_of_getElem? (i := 22) (by decide +kernel), List.mem_of_getElem? (i := 309) (by decide +kernel), List.mem_of_getElem? (i := 310) (by decide +kernel)⟩
theorem lw_p1 : lw_okq (⟨"CopiedFire$Laws", "has", "(I)Z"⟩, 2) := ⟨⟨by decide +kernel, by decide +kernel⟩, List.mem_of_getElem? (i := 30) (by decide +kernel), List.mem_of_getElem? (i := 321) (by decide +kernel), List.mem_of_getElem? (i := 322) (by decide +kernel)⟩
theorem lw_p2 : lw_okq (⟨"CopiedFire$House", "draw", "()I"⟩, 19) := ⟨⟨by decide +kernel, by decide +kernel⟩, List.mem_of_getElem? (i := 46) (by decide +kernel), List.mem_of_getElem? (i := 380) (by decide +kernel), List.mem_of_getElem? (i := 381) (by decide +kernel)⟩
theorem lw_p3 : lw_okq (⟨"CopiedFire", "isVisitor", "(I)Z"⟩, 13) := ⟨⟨by decide +kernel, by decide +kernel⟩, List.mem_of_getElem? (i := 22) (by decide +kernel), List.mem_of_getElem? (i := 429) (by decide +kernel), List.mem_of_getElem? (i := 430) (by decide +kernel)⟩
theorem lw_p4 : lw_okq (⟨"CopiedFire$Seating", "gatherLikes", "(LCopiedFire$House;)V"⟩, 2) := ⟨⟨by decide +kernel, by decide +kernel⟩, List.mem_of_getElem? (i := 133) (by decide +kernel), List.mem_of_getElem? (i := 441) (by decide +kernel), List.mem_of_getElem? (i := 442) (by decide +kernel)⟩
theorem lw_p5 : lw_okq (⟨"CopiedFire$Seating", "mostSeated", "(III)I"⟩, 2) := ⟨⟨by decide +kernel, by decide +kernel⟩, List.mem_of_getElem? (i := 133) (by decide +kernel), List.mem_of_getElem? (i := 445) (by decide +kernel), List.mem_of_getElem? (i := 446) (by decide +kernel)⟩
theorem lw_p6 : lw_okq (⟨"CopiedFire$Seating", "leastRoom", "(IIII)I"⟩, 2) := ⟨⟨by decide +kernel, by decide +kernel⟩, List.mem_of_getElem? (i := 133) (by decide +kernel), List.mem_of_getElem? (i := 456) (by decide +kernel), List.mem_of_getElem? (i := 457) (by decide +kernel)⟩
theorem lw_p7 : lw_okq (⟨"CopiedFire$House", "burnThings", "()V"⟩, 19) := ⟨⟨by decide +kernel, by decide +kernel⟩, List.mem_of_getElem? (i := 46) (by decide +kernel), List.mem_of_getElem? (i := 479) (by decide +kernel), List.mem_of_getElem? (i := 480) (by decide +kernel)⟩
theorem lw_p8 : lw_okq (⟨"CopiedFire$House", "spreadHeat", "()V"⟩, 19) := ⟨⟨by decide +kernel, by decide +kernel⟩, List.mem_of_getElem? (i := 46) (by decide +kernel), List.mem_of_getElem? (i := 486) (by decide +kernel), List.mem_of_getElem? (i := 487) (by decide +kernel)⟩
theorem lw_p9 : lw_okq (⟨"CopiedFire$House", "coolRooms", "()V"⟩, 19) := ⟨⟨by decide +kernel, by decide +kernel⟩, List.mem_of_getElem? (i := 46) (by decide +kernel), List.mem_of_getElem? (i := 490) (by decide +kernel), List.mem_of_getElem? (i := 491) (by decide +kernel)⟩
theorem lw_p10 : lw_okq (⟨"CopiedFire$House", "lightThings", "()V"⟩, 19) := ⟨⟨by decide +kernel, by decide +kernel⟩, List.mem_of_getElem? (i := 46) (by decide +kernel), List.mem_of_getElem? (i := 495) (by decide +kernel), List.mem_of_getElem? (i := 496) (by decide +kernel)⟩
theorem lw_p11 : lw_okq (⟨"CopiedFire$House", "blowWind", "()V"⟩, 19) := ⟨⟨by decide +kernel, by decide +kernel⟩, List.mem_of_getElem? (i := 46) (by decide +kernel), List.mem_of_getElem? (i := 500) (by decide +kernel), List.mem_of_getElem? (i := 501) (by decide +kernel)⟩
theorem lw_p12 : lw_okq (⟨"CopiedFire", "thinkOn", "(II)I"⟩, 13) := ⟨⟨by decide +kernel, by decide +kernel⟩, List.mem_of_getElem? (i := 22) (by decide +kernel), List.mem_of_getElem? (i := 529) (by decide +kernel), List.mem_of_getElem? (i := 530) (by decide +kernel)⟩
theorem lw_p13 : lw_okq (⟨"CopiedFire", "canHaveBegunBy", "(ILCopiedFire$Sheet;)Z"⟩, 13) := ⟨⟨by decide +kernel, by decide +kernel⟩, List.mem_of_getElem? (i := 22) (by decide +kernel), List.mem_of_getElem? (i := 565) (by decide +kernel), List.mem_of_getElem? (i := 566) (by decide +kernel)⟩
theorem lw_p14 : lw_okq (⟨"CopiedFire", "sumDifferences", "(LCopiedFire$Sheet;)V"⟩, 13) := ⟨⟨by decide +kernel, by decide +kernel⟩, List.mem_of_getElem? (i := 22) (by decide +kernel), List.mem_of_getElem? (i := 585) (by decide +kernel), List.mem_of_getElem? (i := 586) (by decide +kernel)⟩
theorem lw_p15 : lw_okq (⟨"CopiedFire$Reader", "goOn", "()V"⟩, 9) := ⟨⟨by decide +kernel, by decide +kernel⟩, List.mem_of_getElem? (i := 163) (by decide +kernel), List.mem_of_getElem? (i := 621) (by decide +kernel), List.mem_of_getElem? (i := 622) (by decide +kernel)⟩
def lw_privs_1 : List (MethodName × Nat) := [(⟨"CopiedFire", "isThing", "(I)Z"⟩, 13), (⟨"CopiedFire$Laws", "has", "(I)Z"⟩, 2), (⟨"CopiedFire$House", "draw", "()I"⟩, 19), (⟨"CopiedFire", "isVisitor", "(I)Z"⟩, 13), (⟨"CopiedFire$Seating", "gatherLikes", "(LCopiedFire$House;)V"⟩, 2), (⟨"CopiedFire$Seating", "mostSeated", "(III)I"⟩, 2), (⟨"CopiedFire$Seating", "leastRoom", "(IIII)I"⟩, 2), (⟨"CopiedFire$House", "burnThings", "()V"⟩, 19), (⟨"CopiedFire$House", "spreadHeat", "()V"⟩, 19), (⟨"CopiedFire$House", "coolRooms", "()V"⟩, 19), (⟨"CopiedFire$House", "lightThings", "()V"⟩, 19), (⟨"CopiedFire$House", "blowWind", "()V"⟩, 19), (⟨"CopiedFire", "thinkOn", "(II)I"⟩, 13), (⟨"CopiedFire", "canHaveBegunBy", "(ILCopiedFire$Sheet;)Z"⟩, 13), (⟨"CopiedFire", "sumDifferences", "(LCopiedFire$Sheet;)V"⟩, 13), (⟨"CopiedFire$Reader", "goOn", "()V"⟩, 9)]
theorem lw_r1 : ∀ q ∈ lw_privs_1, lw_okq q := List.forall_mem_cons.mpr ⟨lw_p0, List.forall_mem_cons.mpr ⟨lw_p1, List.forall_mem_cons.mpr ⟨lw_p2, List.forall_mem_cons.mpr ⟨lw_p3, List.forall_mem_cons.mpr ⟨lw_p4, List.forall_mem_cons.mpr ⟨lw_p5, List.forall_mem_cons.mpr ⟨lw_p6, List.forall_mem_cons.mpr ⟨lw_p7, List.forall_mem_cons.mpr ⟨lw_p8, List.forall_mem_cons.mpr ⟨lw_p9, List.forall_mem_cons.mpr ⟨lw_p10, List.forall_mem_cons.mpr ⟨lw_p11, List.forall_mem_cons.mpr ⟨lw_p12, List.forall_mem_cons.mpr ⟨lw_p13, List.forall_mem_cons.mpr ⟨lw_p14, List.forall_mem_cons.mpr ⟨lw_p15, fun _ h => absurd h List.not_mem_nil⟩⟩⟩⟩⟩⟩⟩⟩⟩⟩⟩⟩⟩⟩⟩⟩
theorem lw_p16 : lw_okq (⟨"CopiedFire$Reader", "endOfRow", "(III)I"⟩, 9) := ⟨⟨by decide +kernel, by decide +kernel⟩, List.mem_of_getElem? (i := 163) (by decide +kernel), List.mem_of_getElem? (i := 625) (by decide +kernel), List.mem_of_getElem? (i := 626) (by decide +kernel)⟩
theorem lw_p17 : lw_okq (⟨"CopiedFire$Reader", "keyRead", "()I"⟩, 9) := ⟨⟨by decide +kernel, by decide +kernel⟩, List.mem_of_getElem? (i := 163) (by decide +kernel), List.mem_of_getElem? (i := 630) (by decide +kernel), List.mem_of_getElem? (i := 631) (by decide +kernel)⟩
theorem lw_p18 : lw_okq (⟨"CopiedFire$Reader", "isWord", "(Ljava/lang/String;)Z"⟩, 9) := ⟨⟨by decide +kernel, by decide +kernel⟩, List.mem_of_getElem? (i := 163) (by decide +kernel), List.mem_of_getElem? (i := 635) (by decide +kernel), List.mem_of_getElem? (i := 636) (by decide +kernel)⟩
theorem lw_p19 : lw_okq (⟨"CopiedFire$Reader", "stop", "()V"⟩, 9) := ⟨⟨by decide +kernel, by decide +kernel⟩, List.mem_of_getElem? (i := 163) (by decide +kernel), List.mem_of_getElem? (i := 689) (by decide +kernel), List.mem_of_getElem? (i := 690) (by decide +kernel)⟩
theorem lw_p20 : lw_okq (⟨"CopiedFire$Reader", "readLevel", "(III)V"⟩, 9) := ⟨⟨by decide +kernel, by decide +kernel⟩, List.mem_of_getElem? (i := 163) (by decide +kernel), List.mem_of_getElem? (i := 693) (by decide +kernel), List.mem_of_getElem? (i := 694) (by decide +kernel)⟩
theorem lw_p21 : lw_okq (⟨"CopiedFire$Reader", "readPiece", "(II)V"⟩, 9) := ⟨⟨by decide +kernel, by decide +kernel⟩, List.mem_of_getElem? (i := 163) (by decide +kernel), List.mem_of_getElem? (i := 697) (by decide +kernel), List.mem_of_getElem? (i := 698) (by decide +kernel)⟩
theorem lw_p22 : lw_okq (⟨"CopiedFire$Reader", "nameRead", "()I"⟩, 9) := ⟨⟨by decide +kernel, by decide +kernel⟩, List.mem_of_getElem? (i := 163) (by decide +kernel), List.mem_of_getElem? (i := 701) (by decide +kernel), List.mem_of_getElem? (i := 702) (by decide +kernel)⟩
theorem lw_p23 : lw_okq (⟨"CopiedFire$Reader", "addOperand", "(I)V"⟩, 9) := ⟨⟨by decide +kernel, by decide +kernel⟩, List.mem_of_getElem? (i := 163) (by decide +kernel), List.mem_of_getElem? (i := 763) (by decide +kernel), List.mem_of_getElem? (i := 764) (by decide +kernel)⟩
theorem lw_p24 : lw_okq (⟨"CopiedFire$Reader", "addStep", "(I)V"⟩, 9) := ⟨⟨by decide +kernel, by decide +kernel⟩, List.mem_of_getElem? (i := 163) (by decide +kernel), List.mem_of_getElem? (i := 767) (by decide +kernel), List.mem_of_getElem? (i := 768) (by decide +kernel)⟩
theorem lw_p25 : lw_okq (⟨"CopiedFire$Reader", "numberRead", "()I"⟩, 9) := ⟨⟨by decide +kernel, by decide +kernel⟩, List.mem_of_getElem? (i := 163) (by decide +kernel), List.mem_of_getElem? (i := 771) (by decide +kernel), List.mem_of_getElem? (i := 772) (by decide +kernel)⟩
theorem lw_p26 : lw_okq (⟨"CopiedFire$Reader", "isSignOf", "(I)Z"⟩, 9) := ⟨⟨by decide +kernel, by decide +kernel⟩, List.mem_of_getElem? (i := 163) (by decide +kernel), List.mem_of_getElem? (i := 775) (by decide +kernel), List.mem_of_getElem? (i := 776) (by decide +kernel)⟩
theorem lw_p27 : lw_okq (⟨"CopiedFire", "findingFor", "(II)I"⟩, 13) := ⟨⟨by decide +kernel, by decide +kernel⟩, List.mem_of_getElem? (i := 22) (by decide +kernel), List.mem_of_getElem? (i := 888) (by decide +kernel), List.mem_of_getElem? (i := 889) (by decide +kernel)⟩
theorem lw_p28 : lw_okq (⟨"CopiedFireModel", "comes", "(IIII)I"⟩, 37) := ⟨⟨by decide +kernel, by decide +kernel⟩, List.mem_of_getElem? (i := 921) (by decide +kernel), List.mem_of_getElem? (i := 1056) (by decide +kernel), List.mem_of_getElem? (i := 1057) (by decide +kernel)⟩
theorem lw_p29 : lw_okq (⟨"CopiedFireModel", "put", "(III)V"⟩, 37) := ⟨⟨by decide +kernel, by decide +kernel⟩, List.mem_of_getElem? (i := 921) (by decide +kernel), List.mem_of_getElem? (i := 1060) (by decide +kernel), List.mem_of_getElem? (i := 1061) (by decide +kernel)⟩
theorem lw_p30 : lw_okq (⟨"CopiedFireModel", "isThing", "(I)Z"⟩, 37) := ⟨⟨by decide +kernel, by decide +kernel⟩, List.mem_of_getElem? (i := 921) (by decide +kernel), List.mem_of_getElem? (i := 1068) (by decide +kernel), List.mem_of_getElem? (i := 1069) (by decide +kernel)⟩
theorem lw_p31 : lw_okq (⟨"CopiedFireModel", "of", "(II)I"⟩, 37) := ⟨⟨by decide +kernel, by decide +kernel⟩, List.mem_of_getElem? (i := 921) (by decide +kernel), List.mem_of_getElem? (i := 1072) (by decide +kernel), List.mem_of_getElem? (i := 1073) (by decide +kernel)⟩
def lw_privs_2 : List (MethodName × Nat) := [(⟨"CopiedFire$Reader", "endOfRow", "(III)I"⟩, 9), (⟨"CopiedFire$Reader", "keyRead", "()I"⟩, 9), (⟨"CopiedFire$Reader", "isWord", "(Ljava/lang/String;)Z"⟩, 9), (⟨"CopiedFire$Reader", "stop", "()V"⟩, 9), (⟨"CopiedFire$Reader", "readLevel", "(III)V"⟩, 9), (⟨"CopiedFire$Reader", "readPiece", "(II)V"⟩, 9), (⟨"CopiedFire$Reader", "nameRead", "()I"⟩, 9), (⟨"CopiedFire$Reader", "addOperand", "(I)V"⟩, 9), (⟨"CopiedFire$Reader", "addStep", "(I)V"⟩, 9), (⟨"CopiedFire$Reader", "numberRead", "()I"⟩, 9), (⟨"CopiedFire$Reader", "isSignOf", "(I)Z"⟩, 9), (⟨"CopiedFire", "findingFor", "(II)I"⟩, 13), (⟨"CopiedFireModel", "comes", "(IIII)I"⟩, 37), (⟨"CopiedFireModel", "put", "(III)V"⟩, 37), (⟨"CopiedFireModel", "isThing", "(I)Z"⟩, 37), (⟨"CopiedFireModel", "of", "(II)I"⟩, 37)]
theorem lw_r2 : ∀ q ∈ lw_privs_2, lw_okq q := List.forall_mem_cons.mpr ⟨lw_p16, List.forall_mem_cons.mpr ⟨lw_p17, List.forall_mem_cons.mpr ⟨lw_p18, List.forall_mem_cons.mpr ⟨lw_p19, List.forall_mem_cons.mpr ⟨lw_p20, List.forall_mem_cons.mpr ⟨lw_p21, List.forall_mem_cons.mpr ⟨lw_p22, List.forall_mem_cons.mpr ⟨lw_p23, List.forall_mem_cons.mpr ⟨lw_p24, List.forall_mem_cons.mpr ⟨lw_p25, List.forall_mem_cons.mpr ⟨lw_p26, List.forall_mem_cons.mpr ⟨lw_p27, List.forall_mem_cons.mpr ⟨lw_p28, List.forall_mem_cons.mpr ⟨lw_p29, List.forall_mem_cons.mpr ⟨lw_p30, List.forall_mem_cons.mpr ⟨lw_p31, fun _ h => absurd h List.not_mem_nil⟩⟩⟩⟩⟩⟩⟩⟩⟩⟩⟩⟩⟩⟩⟩⟩
theorem lw_p32 : lw_okq (⟨"CopiedFireModel", "burnsOf", "(I)I"⟩, 37) := ⟨⟨by decide +kernel, by decide +kernel⟩, List.mem_of_getElem? (i := 921) (by decide +kernel), List.mem_of_getElem? (i := 1076) (by decide +kernel), List.mem_of_getElem? (i := 1077) (by decide +kernel)⟩
theorem lw_p33 : lw_okq (⟨"CopiedFireModel", "counts", "(I)I"⟩, 37) := ⟨⟨by decide +kernel, by decide +kernel⟩, List.mem_of_getElem? (i := 921) (by decide +kernel), List.mem_of_getElem? (i := 1080) (by decide +kernel), List.mem_of_getElem? (i := 1081) (by decide +kernel)⟩
theorem lw_p34 : lw_okq (⟨"CopiedFireModel", "worksOut", "(I)I"⟩, 37) := ⟨⟨by decide +kernel, by decide +kernel⟩, List.mem_of_getElem? (i := 921) (by decide +kernel), List.mem_of_getElem? (i := 1084) (by decide +kernel), List.mem_of_getElem? (i := 1085) (by decide +kernel)⟩
theorem lw_p35 : lw_okq (⟨"CopiedFireModel", "givesOf", "(II)I"⟩, 37) := ⟨⟨by decide +kernel, by decide +kernel⟩, List.mem_of_getElem? (i := 921) (by decide +kernel), List.mem_of_getElem? (i := 1094) (by decide +kernel), List.mem_of_getElem? (i := 1095) (by decide +kernel)⟩
theorem lw_p36 : lw_okq (⟨"CopiedFireModel", "catchesOf", "(I)I"⟩, 37) := ⟨⟨by decide +kernel, by decide +kernel⟩, List.mem_of_getElem? (i := 921) (by decide +kernel), List.mem_of_getElem? (i := 1098) (by decide +kernel), List.mem_of_getElem? (i := 1099) (by decide +kernel)⟩
theorem lw_p37 : lw_okq (⟨"CopiedFireModel", "worthOf", "(I)I"⟩, 37) := ⟨⟨by decide +kernel, by decide +kernel⟩, List.mem_of_getElem? (i := 921) (by decide +kernel), List.mem_of_getElem? (i := 1102) (by decide +kernel), List.mem_of_getElem? (i := 1103) (by decide +kernel)⟩
theorem lw_p38 : lw_okq (⟨"CopiedFireModel", "swaps", "(II)I"⟩, 37) := ⟨⟨by decide +kernel, by decide +kernel⟩, List.mem_of_getElem? (i := 921) (by decide +kernel), List.mem_of_getElem? (i := 1118) (by decide +kernel), List.mem_of_getElem? (i := 1119) (by decide +kernel)⟩
theorem lw_p39 : lw_okq (⟨"CopiedFireModel", "draw", "()I"⟩, 37) := ⟨⟨by decide +kernel, by decide +kernel⟩, List.mem_of_getElem? (i := 921) (by decide +kernel), List.mem_of_getElem? (i := 1130) (by decide +kernel), List.mem_of_getElem? (i := 1131) (by decide +kernel)⟩
theorem lw_p40 : lw_okq (⟨"CopiedFireModel", "leaves", "(III)I"⟩, 37) := ⟨⟨by decide +kernel, by decide +kernel⟩, List.mem_of_getElem? (i := 921) (by decide +kernel), List.mem_of_getElem? (i := 1154) (by decide +kernel), List.mem_of_getElem? (i := 1155) (by decide +kernel)⟩
theorem lw_p41 : lw_okq (⟨"CopiedFireModel", "gives", "(III)V"⟩, 37) := ⟨⟨by decide +kernel, by decide +kernel⟩, List.mem_of_getElem? (i := 921) (by decide +kernel), List.mem_of_getElem? (i := 1178) (by decide +kernel), List.mem_of_getElem? (i := 1179) (by decide +kernel)⟩
theorem lw_p42 : lw_okq (⟨"CopiedFireModel", "goesOn", "(I)V"⟩, 37) := ⟨⟨by decide +kernel, by decide +kernel⟩, List.mem_of_getElem? (i := 921) (by decide +kernel), List.mem_of_getElem? (i := 1191) (by decide +kernel), List.mem_of_getElem? (i := 1192) (by decide +kernel)⟩
theorem lw_p43 : lw_okq (⟨"CopiedFireModel", "minute", "()V"⟩, 37) := ⟨⟨by decide +kernel, by decide +kernel⟩, List.mem_of_getElem? (i := 921) (by decide +kernel), List.mem_of_getElem? (i := 1195) (by decide +kernel), List.mem_of_getElem? (i := 1196) (by decide +kernel)⟩
theorem lw_p44 : lw_okq (⟨"CopiedFireModel", "burns", "(I)V"⟩, 37) := ⟨⟨by decide +kernel, by decide +kernel⟩, List.mem_of_getElem? (i := 921) (by decide +kernel), List.mem_of_getElem? (i := 1199) (by decide +kernel), List.mem_of_getElem? (i := 1200) (by decide +kernel)⟩
theorem lw_p45 : lw_okq (⟨"CopiedFireModel", "evens", "()V"⟩, 37) := ⟨⟨by decide +kernel, by decide +kernel⟩, List.mem_of_getElem? (i := 921) (by decide +kernel), List.mem_of_getElem? (i := 1203) (by decide +kernel), List.mem_of_getElem? (i := 1204) (by decide +kernel)⟩
theorem lw_p46 : lw_okq (⟨"CopiedFireModel", "catches", "()V"⟩, 37) := ⟨⟨by decide +kernel, by decide +kernel⟩, List.mem_of_getElem? (i := 921) (by decide +kernel), List.mem_of_getElem? (i := 1207) (by decide +kernel), List.mem_of_getElem? (i := 1208) (by decide +kernel)⟩
theorem lw_p47 : lw_okq (⟨"CopiedFireModel", "blows", "()V"⟩, 37) := ⟨⟨by decide +kernel, by decide +kernel⟩, List.mem_of_getElem? (i := 921) (by decide +kernel), List.mem_of_getElem? (i := 1211) (by decide +kernel), List.mem_of_getElem? (i := 1212) (by decide +kernel)⟩
def lw_privs_3 : List (MethodName × Nat) := [(⟨"CopiedFireModel", "burnsOf", "(I)I"⟩, 37), (⟨"CopiedFireModel", "counts", "(I)I"⟩, 37), (⟨"CopiedFireModel", "worksOut", "(I)I"⟩, 37), (⟨"CopiedFireModel", "givesOf", "(II)I"⟩, 37), (⟨"CopiedFireModel", "catchesOf", "(I)I"⟩, 37), (⟨"CopiedFireModel", "worthOf", "(I)I"⟩, 37), (⟨"CopiedFireModel", "swaps", "(II)I"⟩, 37), (⟨"CopiedFireModel", "draw", "()I"⟩, 37), (⟨"CopiedFireModel", "leaves", "(III)I"⟩, 37), (⟨"CopiedFireModel", "gives", "(III)V"⟩, 37), (⟨"CopiedFireModel", "goesOn", "(I)V"⟩, 37), (⟨"CopiedFireModel", "minute", "()V"⟩, 37), (⟨"CopiedFireModel", "burns", "(I)V"⟩, 37), (⟨"CopiedFireModel", "evens", "()V"⟩, 37), (⟨"CopiedFireModel", "catches", "()V"⟩, 37), (⟨"CopiedFireModel", "blows", "()V"⟩, 37)]
theorem lw_r3 : ∀ q ∈ lw_privs_3, lw_okq q := List.forall_mem_cons.mpr ⟨lw_p32, List.forall_mem_cons.mpr ⟨lw_p33, List.forall_mem_cons.mpr ⟨lw_p34, List.forall_mem_cons.mpr ⟨lw_p35, List.forall_mem_cons.mpr ⟨lw_p36, List.forall_mem_cons.mpr ⟨lw_p37, List.forall_mem_cons.mpr ⟨lw_p38, List.forall_mem_cons.mpr ⟨lw_p39, List.forall_mem_cons.mpr ⟨lw_p40, List.forall_mem_cons.mpr ⟨lw_p41, List.forall_mem_cons.mpr ⟨lw_p42, List.forall_mem_cons.mpr ⟨lw_p43, List.forall_mem_cons.mpr ⟨lw_p44, List.forall_mem_cons.mpr ⟨lw_p45, List.forall_mem_cons.mpr ⟨lw_p46, List.forall_mem_cons.mpr ⟨lw_p47, fun _ h => absurd h List.not_mem_nil⟩⟩⟩⟩⟩⟩⟩⟩⟩⟩⟩⟩⟩⟩⟩⟩
theorem lw_p48 : lw_okq (⟨"CopiedFireModel", "lit", "()I"⟩, 37) := ⟨⟨by decide +kernel, by decide +kernel⟩, List.mem_of_getElem? (i := 921) (by decide +kernel), List.mem_of_getElem? (i := 1219) (by decide +kernel), List.mem_of_getElem? (i := 1220) (by decide +kernel)⟩
theorem lw_p49 : lw_okq (⟨"CopiedFireModel", "allHeat", "()I"⟩, 37) := ⟨⟨by decide +kernel, by decide +kernel⟩, List.mem_of_getElem? (i := 921) (by decide +kernel), List.mem_of_getElem? (i := 1223) (by decide +kernel), List.mem_of_getElem? (i := 1224) (by decide +kernel)⟩
theorem lw_p50 : lw_okq (⟨"CopiedFireModel", "thinks", "()V"⟩, 37) := ⟨⟨by decide +kernel, by decide +kernel⟩, List.mem_of_getElem? (i := 921) (by decide +kernel), List.mem_of_getElem? (i := 1231) (by decide +kernel), List.mem_of_getElem? (i := 1232) (by decide +kernel)⟩
theorem lw_p51 : lw_okq (⟨"CopiedFireModel", "putsBack", "()V"⟩, 37) := ⟨⟨by decide +kernel, by decide +kernel⟩, List.mem_of_getElem? (i := 921) (by decide +kernel), List.mem_of_getElem? (i := 1238) (by decide +kernel), List.mem_of_getElem? (i := 1239) (by decide +kernel)⟩
theorem lw_p52 : lw_okq (⟨"CopiedFireModel", "burntBy", "(I)I"⟩, 37) := ⟨⟨by decide +kernel, by decide +kernel⟩, List.mem_of_getElem? (i := 921) (by decide +kernel), List.mem_of_getElem? (i := 1254) (by decide +kernel), List.mem_of_getElem? (i := 1255) (by decide +kernel)⟩
theorem lw_p53 : lw_okq (⟨"CopiedFireModel", "isSo", "(I)Z"⟩, 37) := ⟨⟨by decide +kernel, by decide +kernel⟩, List.mem_of_getElem? (i := 921) (by decide +kernel), List.mem_of_getElem? (i := 1274) (by decide +kernel), List.mem_of_getElem? (i := 1275) (by decide +kernel)⟩
theorem lw_p54 : lw_okq (⟨"CopiedFireModel", "go", "()V"⟩, 37) := ⟨⟨by decide +kernel, by decide +kernel⟩, List.mem_of_getElem? (i := 921) (by decide +kernel), List.mem_of_getElem? (i := 1305) (by decide +kernel), List.mem_of_getElem? (i := 1306) (by decide +kernel)⟩
theorem lw_p55 : lw_okq (⟨"CopiedFireModel", "isLetter", "(I)Z"⟩, 37) := ⟨⟨by decide +kernel, by decide +kernel⟩, List.mem_of_getElem? (i := 921) (by decide +kernel), List.mem_of_getElem? (i := 1309) (by decide +kernel), List.mem_of_getElem? (i := 1310) (by decide +kernel)⟩
theorem lw_p56 : lw_okq (⟨"CopiedFireModel", "isFigure", "(I)Z"⟩, 37) := ⟨⟨by decide +kernel, by decide +kernel⟩, List.mem_of_getElem? (i := 921) (by decide +kernel), List.mem_of_getElem? (i := 1313) (by decide +kernel), List.mem_of_getElem? (i := 1314) (by decide +kernel)⟩
theorem lw_p57 : lw_okq (⟨"CopiedFireModel", "takesKey", "()Z"⟩, 37) := ⟨⟨by decide +kernel, by decide +kernel⟩, List.mem_of_getElem? (i := 921) (by decide +kernel), List.mem_of_getElem? (i := 1317) (by decide +kernel), List.mem_of_getElem? (i := 1318) (by decide +kernel)⟩
theorem lw_p58 : lw_okq (⟨"CopiedFireModel", "takesE", "()Z"⟩, 37) := ⟨⟨by decide +kernel, by decide +kernel⟩, List.mem_of_getElem? (i := 921) (by decide +kernel), List.mem_of_getElem? (i := 1321) (by decide +kernel), List.mem_of_getElem? (i := 1322) (by decide +kernel)⟩
theorem lw_p59 : lw_okq (⟨"CopiedFireModel", "takesPart", "()Z"⟩, 37) := ⟨⟨by decide +kernel, by decide +kernel⟩, List.mem_of_getElem? (i := 921) (by decide +kernel), List.mem_of_getElem? (i := 1325) (by decide +kernel), List.mem_of_getElem? (i := 1326) (by decide +kernel)⟩
theorem lw_p60 : lw_okq (⟨"CopiedFireModel", "nameOf", "(I)I"⟩, 37) := ⟨⟨by decide +kernel, by decide +kernel⟩, List.mem_of_getElem? (i := 921) (by decide +kernel), List.mem_of_getElem? (i := 1329) (by decide +kernel), List.mem_of_getElem? (i := 1330) (by decide +kernel)⟩
theorem lw_p61 : lw_okq (⟨"CopiedFireModel", "settle", "(I)V"⟩, 37) := ⟨⟨by decide +kernel, by decide +kernel⟩, List.mem_of_getElem? (i := 921) (by decide +kernel), List.mem_of_getElem? (i := 1333) (by decide +kernel), List.mem_of_getElem? (i := 1334) (by decide +kernel)⟩
theorem lw_p62 : lw_okq (⟨"CopiedFireModel", "notsOpen", "()I"⟩, 37) := ⟨⟨by decide +kernel, by decide +kernel⟩, List.mem_of_getElem? (i := 921) (by decide +kernel), List.mem_of_getElem? (i := 1340) (by decide +kernel), List.mem_of_getElem? (i := 1341) (by decide +kernel)⟩
theorem lw_p63 : lw_okq (⟨"CopiedFireModel", "signHere", "()I"⟩, 37) := ⟨⟨by decide +kernel, by decide +kernel⟩, List.mem_of_getElem? (i := 921) (by decide +kernel), List.mem_of_getElem? (i := 1344) (by decide +kernel), List.mem_of_getElem? (i := 1345) (by decide +kernel)⟩
def lw_privs_4 : List (MethodName × Nat) := [(⟨"CopiedFireModel", "lit", "()I"⟩, 37), (⟨"CopiedFireModel", "allHeat", "()I"⟩, 37), (⟨"CopiedFireModel", "thinks", "()V"⟩, 37), (⟨"CopiedFireModel", "putsBack", "()V"⟩, 37), (⟨"CopiedFireModel", "burntBy", "(I)I"⟩, 37), (⟨"CopiedFireModel", "isSo", "(I)Z"⟩, 37), (⟨"CopiedFireModel", "go", "()V"⟩, 37), (⟨"CopiedFireModel", "isLetter", "(I)Z"⟩, 37), (⟨"CopiedFireModel", "isFigure", "(I)Z"⟩, 37), (⟨"CopiedFireModel", "takesKey", "()Z"⟩, 37), (⟨"CopiedFireModel", "takesE", "()Z"⟩, 37), (⟨"CopiedFireModel", "takesPart", "()Z"⟩, 37), (⟨"CopiedFireModel", "nameOf", "(I)I"⟩, 37), (⟨"CopiedFireModel", "settle", "(I)V"⟩, 37), (⟨"CopiedFireModel", "notsOpen", "()I"⟩, 37), (⟨"CopiedFireModel", "signHere", "()I"⟩, 37)]
theorem lw_r4 : ∀ q ∈ lw_privs_4, lw_okq q := List.forall_mem_cons.mpr ⟨lw_p48, List.forall_mem_cons.mpr ⟨lw_p49, List.forall_mem_cons.mpr ⟨lw_p50, List.forall_mem_cons.mpr ⟨lw_p51, List.forall_mem_cons.mpr ⟨lw_p52, List.forall_mem_cons.mpr ⟨lw_p53, List.forall_mem_cons.mpr ⟨lw_p54, List.forall_mem_cons.mpr ⟨lw_p55, List.forall_mem_cons.mpr ⟨lw_p56, List.forall_mem_cons.mpr ⟨lw_p57, List.forall_mem_cons.mpr ⟨lw_p58, List.forall_mem_cons.mpr ⟨lw_p59, List.forall_mem_cons.mpr ⟨lw_p60, List.forall_mem_cons.mpr ⟨lw_p61, List.forall_mem_cons.mpr ⟨lw_p62, List.forall_mem_cons.mpr ⟨lw_p63, fun _ h => absurd h List.not_mem_nil⟩⟩⟩⟩⟩⟩⟩⟩⟩⟩⟩⟩⟩⟩⟩⟩
def lw_privs : List (MethodName × Nat) := lw_privs_1 ++ (lw_privs_2 ++ (lw_privs_3 ++ (lw_privs_4)))
def lw_tbl : List Cond := k2_sels lw_privs ++ tables_1
theorem lw_privs_ok : ∀ q ∈ lw_privs, lw_okq q := by
  show ∀ q ∈ lw_privs_1 ++ (lw_privs_2 ++ (lw_privs_3 ++ (lw_privs_4))), lw_okq q
  exact List.forall_mem_append.mpr ⟨lw_r1, List.forall_mem_append.mpr ⟨lw_r2, List.forall_mem_append.mpr ⟨lw_r3, lw_r4⟩⟩⟩
def RX0 : String := "CopiedFire$House"
def TX0 : u_T := fun k => match k with
  | 0 => ("CopiedFire$House", "laws", "LCopiedFire$Laws;", true)
  | 1 => ("CopiedFire$House", "kinds", "[I", true)
  | 2 => ("CopiedFire$House", "rooms", "[I", true)
  | 3 => ("CopiedFire$House", "fuels", "[I", true)
  | 4 => ("CopiedFire$House", "lits", "[I", true)
  | 5 => ("CopiedFire$House", "heats", "[I", true)
  | 6 => ("CopiedFire$House", "doors", "[I", true)
  | 7 => ("CopiedFire$House", "liked", "[I", true)
  | 8 => ("CopiedFire$House", "counting", "[I", true)
  | 9 => ("CopiedFire$House", "things", "I", false)
  | 10 => ("CopiedFire$House", "visitors", "I", false)
  | 11 => ("CopiedFire$House", "texts", "I", false)
  | 12 => ("CopiedFire$House", "wind", "I", false)
  | 13 => ("CopiedFire$House", "cool", "I", false)
  | 14 => ("CopiedFire$House", "burnt", "I", false)
  | 15 => ("CopiedFire$House", "ashes", "I", false)
  | 16 => ("CopiedFire$House", "slams", "I", false)
  | 17 => ("CopiedFire$House", "minute", "I", false)
  | _ => ("CopiedFire$House", "z", "I", false)
def tyX0 : Nat → FieldType := fun k => match k with
  | 0 => .object "CopiedFire$Laws"
  | 1 => .array .int
  | 2 => .array .int
  | 3 => .array .int
  | 4 => .array .int
  | 5 => .array .int
  | 6 => .array .int
  | 7 => .array .int
  | 8 => .array .int
  | 9 => .int
  | 10 => .int
  | 11 => .int
  | 12 => .int
  | 13 => .int
  | 14 => .int
  | 15 => .int
  | 16 => .int
  | 17 => .int
  | _ => .int
abbrev wsX00 : List Cond := u_ws RX0 TX0 19
theorem nmX0 : ∀ a, a < 19 → ∀ b, b < 19 → a ≠ b → (TX0 a).2.1 ≠ (TX0 b).2.1 := by decide +kernel
theorem tyX0_ok : ∀ k, k < 19 → parseFieldDescriptor (TX0 k).2.2.1 = some (tyX0 k) := by decide +kernel
abbrev cX0_init : ByteArray := prog_2_method_1_code
def yX0_init : MethodName := ⟨RX0, "<init>", "(LCopiedFire$Laws;)V"⟩
abbrev cX0_becomeAs : ByteArray := prog_2_method_2_code
def yX0_becomeAs : MethodName := ⟨RX0, "becomeAs", "(LCopiedFire$House;)V"⟩
abbrev cX0_addThing : ByteArray := prog_2_method_3_code
def yX0_addThing : MethodName := ⟨RX0, "addThing", "(IIII)I"⟩
abbrev cX0_drawThing : ByteArray := prog_2_method_4_code
def yX0_drawThing : MethodName := ⟨RX0, "drawThing", "()V"⟩
abbrev cX0_doorBetween : ByteArray := prog_2_method_5_code
def yX0_doorBetween : MethodName := ⟨RX0, "doorBetween", "(II)I"⟩
abbrev cX0_putDoor : ByteArray := prog_2_method_6_code
def yX0_putDoor : MethodName := ⟨RX0, "putDoor", "(III)V"⟩
abbrev cX0_reachedNext : ByteArray := prog_2_method_7_code
def yX0_reachedNext : MethodName := ⟨RX0, "reachedNext", "(I)I"⟩
abbrev cX0_litSet : ByteArray := prog_2_method_8_code
def yX0_litSet : MethodName := ⟨RX0, "litSet", "()I"⟩
abbrev cX0_heatTogether : ByteArray := prog_2_method_9_code
def yX0_heatTogether : MethodName := ⟨RX0, "heatTogether", "()I"⟩
abbrev cX0_burnsOf : ByteArray := prog_2_method_10_code
def yX0_burnsOf : MethodName := ⟨RX0, "burnsOf", "(I)I"⟩
abbrev cX0_passMinute : ByteArray := prog_2_method_11_code
def yX0_passMinute : MethodName := ⟨RX0, "passMinute", "()V"⟩
abbrev cX0_burnThings : ByteArray := prog_2_method_12_code
def yX0_burnThings : MethodName := ⟨RX0, "burnThings", "()V"⟩
abbrev cX0_spreadHeat : ByteArray := prog_2_method_13_code
def yX0_spreadHeat : MethodName := ⟨RX0, "spreadHeat", "()V"⟩
abbrev cX0_coolRooms : ByteArray := prog_2_method_14_code
def yX0_coolRooms : MethodName := ⟨RX0, "coolRooms", "()V"⟩
abbrev cX0_lightThings : ByteArray := prog_2_method_15_code
def yX0_lightThings : MethodName := ⟨RX0, "lightThings", "()V"⟩
abbrev cX0_blowWind : ByteArray := prog_2_method_16_code
def yX0_blowWind : MethodName := ⟨RX0, "blowWind", "()V"⟩
abbrev cX0_draw : ByteArray := prog_2_method_17_code
def yX0_draw : MethodName := ⟨RX0, "draw", "()I"⟩
def RX1 : String := "CopiedFire$Kinds"
def TX1 : u_T := fun k => match k with
  | _ => ("", "", "", false)
def tyX1 : Nat → FieldType := fun k => match k with
  | _ => .int
abbrev wsX10 : List Cond := u_ws RX1 TX1 0
theorem nmX1 : ∀ a, a < 0 → ∀ b, b < 0 → a ≠ b → (TX1 a).2.1 ≠ (TX1 b).2.1 := by decide +kernel
theorem tyX1_ok : ∀ k, k < 0 → parseFieldDescriptor (TX1 k).2.2.1 = some (tyX1 k) := by decide +kernel
abbrev cX1_isOf : ByteArray := prog_3_method_2_code
def yX1_isOf : MethodName := ⟨RX1, "isOf", "(II)Z"⟩
abbrev cX1_burns : ByteArray := prog_3_method_3_code
def yX1_burns : MethodName := ⟨RX1, "burns", "(II)I"⟩
abbrev cX1_gives : ByteArray := prog_3_method_4_code
def yX1_gives : MethodName := ⟨RX1, "gives", "(II)I"⟩
abbrev cX1_catchesFrom : ByteArray := prog_3_method_5_code
def yX1_catchesFrom : MethodName := ⟨RX1, "catchesFrom", "(I)I"⟩
abbrev cX1_worth : ByteArray := prog_3_method_6_code
def yX1_worth : MethodName := ⟨RX1, "worth", "(II)I"⟩
def RX2 : String := "CopiedFire$Laws"
def TX2 : u_T := fun k => match k with
  | 0 => ("CopiedFire$Laws", "rows", "[LCopiedFire$Text;", true)
  | _ => ("CopiedFire$Laws", "stack", "[I", true)
def tyX2 : Nat → FieldType := fun k => match k with
  | 0 => .array (.object "CopiedFire$Text")
  | _ => .array .int
abbrev wsX20 : List Cond := u_ws RX2 TX2 2
theorem nmX2 : ∀ a, a < 2 → ∀ b, b < 2 → a ≠ b → (TX2 a).2.1 ≠ (TX2 b).2.1 := by decide +kernel
theorem tyX2_ok : ∀ k, k < 2 → parseFieldDescriptor (TX2 k).2.2.1 = some (tyX2 k) := by decide +kernel
abbrev cX2_init : ByteArray := prog_4_method_1_code
def yX2_init : MethodName := ⟨RX2, "<init>", "()V"⟩
abbrev cX2_has : ByteArray := prog_4_method_2_code
def yX2_has : MethodName := ⟨RX2, "has", "(I)Z"⟩
abbrev cX2_put : ByteArray := prog_4_method_3_code
def yX2_put : MethodName := ⟨RX2, "put", "(ILCopiedFire$Text;)V"⟩
abbrev cX2_keyOf : ByteArray := prog_4_method_4_code
def yX2_keyOf : MethodName := ⟨RX2, "keyOf", "(I)I"⟩
abbrev cX2_operandsOf : ByteArray := prog_4_method_5_code
def yX2_operandsOf : MethodName := ⟨RX2, "operandsOf", "(I)I"⟩
abbrev cX2_work : ByteArray := prog_4_method_6_code
def yX2_work : MethodName := ⟨RX2, "work", "(IIII)I"⟩
abbrev cX2_joined : ByteArray := prog_4_method_7_code
def yX2_joined : MethodName := ⟨RX2, "joined", "(III)I"⟩
def RX3 : String := "CopiedFire$Reader"
def TX3 : u_T := fun k => match k with
  | 0 => ("CopiedFire$Reader", "tape", "LCopiedFire$Tape;", true)
  | 1 => ("CopiedFire$Reader", "steps", "[I", true)
  | 2 => ("CopiedFire$Reader", "made", "I", false)
  | 3 => ("CopiedFire$Reader", "operands", "I", false)
  | 4 => ("CopiedFire$Reader", "key", "I", false)
  | 5 => ("CopiedFire$Reader", "token", "I", false)
  | 6 => ("CopiedFire$Reader", "start", "I", false)
  | 7 => ("CopiedFire$Reader", "next", "I", false)
  | _ => ("CopiedFire$Reader", "fault", "I", false)
def tyX3 : Nat → FieldType := fun k => match k with
  | 0 => .object "CopiedFire$Tape"
  | 1 => .array .int
  | 2 => .int
  | 3 => .int
  | 4 => .int
  | 5 => .int
  | 6 => .int
  | 7 => .int
  | _ => .int
abbrev wsX30 : List Cond := u_ws RX3 TX3 9
theorem nmX3 : ∀ a, a < 9 → ∀ b, b < 9 → a ≠ b → (TX3 a).2.1 ≠ (TX3 b).2.1 := by decide +kernel
theorem tyX3_ok : ∀ k, k < 9 → parseFieldDescriptor (TX3 k).2.2.1 = some (tyX3 k) := by decide +kernel
abbrev cX3_init : ByteArray := prog_5_method_1_code
def yX3_init : MethodName := ⟨RX3, "<init>", "(LCopiedFire$Tape;)V"⟩
abbrev cX3_readText : ByteArray := prog_5_method_2_code
def yX3_readText : MethodName := ⟨RX3, "readText", "()V"⟩
abbrev cX3_madeText : ByteArray := prog_5_method_3_code
def yX3_madeText : MethodName := ⟨RX3, "madeText", "()LCopiedFire$Text;"⟩
abbrev cX3_stop : ByteArray := prog_5_method_4_code
def yX3_stop : MethodName := ⟨RX3, "stop", "()V"⟩
abbrev cX3_goOn : ByteArray := prog_5_method_5_code
def yX3_goOn : MethodName := ⟨RX3, "goOn", "()V"⟩
abbrev cX3_endOfRow : ByteArray := prog_5_method_6_code
def yX3_endOfRow : MethodName := ⟨RX3, "endOfRow", "(III)I"⟩
abbrev cX3_keyRead : ByteArray := prog_5_method_7_code
def yX3_keyRead : MethodName := ⟨RX3, "keyRead", "()I"⟩
abbrev cX3_isWord : ByteArray := prog_5_method_8_code
def yX3_isWord : MethodName := ⟨RX3, "isWord", "(Ljava/lang/String;)Z"⟩
abbrev cX3_nameRead : ByteArray := prog_5_method_9_code
def yX3_nameRead : MethodName := ⟨RX3, "nameRead", "()I"⟩
abbrev cX3_numberRead : ByteArray := prog_5_method_10_code
def yX3_numberRead : MethodName := ⟨RX3, "numberRead", "()I"⟩
abbrev cX3_readLevel : ByteArray := prog_5_method_11_code
def yX3_readLevel : MethodName := ⟨RX3, "readLevel", "(III)V"⟩
abbrev cX3_isSignOf : ByteArray := prog_5_method_12_code
def yX3_isSignOf : MethodName := ⟨RX3, "isSignOf", "(I)Z"⟩
abbrev cX3_readPiece : ByteArray := prog_5_method_13_code
def yX3_readPiece : MethodName := ⟨RX3, "readPiece", "(II)V"⟩
abbrev cX3_addOperand : ByteArray := prog_5_method_14_code
def yX3_addOperand : MethodName := ⟨RX3, "addOperand", "(I)V"⟩
abbrev cX3_addStep : ByteArray := prog_5_method_15_code
def yX3_addStep : MethodName := ⟨RX3, "addStep", "(I)V"⟩
def RX4 : String := "CopiedFire$Seating"
def TX4 : u_T := fun k => match k with
  | 0 => ("CopiedFire$Seating", "likedByGroup", "[I", true)
  | _ => ("CopiedFire$Seating", "given", "[I", true)
def tyX4 : Nat → FieldType := fun k => match k with
  | 0 => .array .int
  | _ => .array .int
abbrev wsX40 : List Cond := u_ws RX4 TX4 2
theorem nmX4 : ∀ a, a < 2 → ∀ b, b < 2 → a ≠ b → (TX4 a).2.1 ≠ (TX4 b).2.1 := by decide +kernel
theorem tyX4_ok : ∀ k, k < 2 → parseFieldDescriptor (TX4 k).2.2.1 = some (tyX4 k) := by decide +kernel
abbrev cX4_init : ByteArray := prog_6_method_1_code
def yX4_init : MethodName := ⟨RX4, "<init>", "()V"⟩
abbrev cX4_seatAll : ByteArray := prog_6_method_2_code
def yX4_seatAll : MethodName := ⟨RX4, "seatAll", "(LCopiedFire$House;)I"⟩
abbrev cX4_gatherLikes : ByteArray := prog_6_method_3_code
def yX4_gatherLikes : MethodName := ⟨RX4, "gatherLikes", "(LCopiedFire$House;)V"⟩
abbrev cX4_leastRoom : ByteArray := prog_6_method_4_code
def yX4_leastRoom : MethodName := ⟨RX4, "leastRoom", "(IIII)I"⟩
abbrev cX4_mostSeated : ByteArray := prog_6_method_5_code
def yX4_mostSeated : MethodName := ⟨RX4, "mostSeated", "(III)I"⟩
def RX5 : String := "CopiedFire$Sheet"
def TX5 : u_T := fun k => match k with
  | 0 => ("CopiedFire$Sheet", "places", "[I", true)
  | 1 => ("CopiedFire$Sheet", "sort", "I", false)
  | _ => ("CopiedFire$Sheet", "length", "I", false)
def tyX5 : Nat → FieldType := fun k => match k with
  | 0 => .array .int
  | 1 => .int
  | _ => .int
abbrev wsX50 : List Cond := u_ws RX5 TX5 3
theorem nmX5 : ∀ a, a < 3 → ∀ b, b < 3 → a ≠ b → (TX5 a).2.1 ≠ (TX5 b).2.1 := by decide +kernel
theorem tyX5_ok : ∀ k, k < 3 → parseFieldDescriptor (TX5 k).2.2.1 = some (tyX5 k) := by decide +kernel
abbrev cX5_init : ByteArray := prog_7_method_1_code
def yX5_init : MethodName := ⟨RX5, "<init>", "()V"⟩
abbrev cX5_renew : ByteArray := prog_7_method_2_code
def yX5_renew : MethodName := ⟨RX5, "renew", "(II)V"⟩
abbrev cX5_becomeAs : ByteArray := prog_7_method_3_code
def yX5_becomeAs : MethodName := ⟨RX5, "becomeAs", "(LCopiedFire$Sheet;)V"⟩
abbrev cX5_isMissing : ByteArray := prog_7_method_4_code
def yX5_isMissing : MethodName := ⟨RX5, "isMissing", "()Z"⟩
abbrev cX5_hasPlace : ByteArray := prog_7_method_5_code
def yX5_hasPlace : MethodName := ⟨RX5, "hasPlace", "(I)Z"⟩
abbrev cX5_hasNumber : ByteArray := prog_7_method_6_code
def yX5_hasNumber : MethodName := ⟨RX5, "hasNumber", "(I)Z"⟩
abbrev cX5_hasRow : ByteArray := prog_7_method_7_code
def yX5_hasRow : MethodName := ⟨RX5, "hasRow", "(II)Z"⟩
def RX6 : String := "CopiedFire$Slot"
def TX6 : u_T := fun k => match k with
  | 0 => ("CopiedFire$Slot", "row", "LCopiedFire$Sheet;", true)
  | 1 => ("CopiedFire$Slot", "holds", "I", false)
  | 2 => ("CopiedFire$Slot", "kind", "I", false)
  | 3 => ("CopiedFire$Slot", "fuel", "I", false)
  | _ => ("CopiedFire$Slot", "number", "I", false)
def tyX6 : Nat → FieldType := fun k => match k with
  | 0 => .object "CopiedFire$Sheet"
  | 1 => .int
  | 2 => .int
  | 3 => .int
  | _ => .int
abbrev wsX60 : List Cond := u_ws RX6 TX6 5
theorem nmX6 : ∀ a, a < 5 → ∀ b, b < 5 → a ≠ b → (TX6 a).2.1 ≠ (TX6 b).2.1 := by decide +kernel
theorem tyX6_ok : ∀ k, k < 5 → parseFieldDescriptor (TX6 k).2.2.1 = some (tyX6 k) := by decide +kernel
abbrev cX6_init : ByteArray := prog_8_method_1_code
def yX6_init : MethodName := ⟨RX6, "<init>", "()V"⟩
def RX7 : String := "CopiedFire$Tape"
def TX7 : u_T := fun k => match k with
  | 0 => ("CopiedFire$Tape", "bytes", "[I", true)
  | _ => ("CopiedFire$Tape", "length", "I", false)
def tyX7 : Nat → FieldType := fun k => match k with
  | 0 => .array .int
  | _ => .int
abbrev wsX70 : List Cond := u_ws RX7 TX7 2
theorem nmX7 : ∀ a, a < 2 → ∀ b, b < 2 → a ≠ b → (TX7 a).2.1 ≠ (TX7 b).2.1 := by decide +kernel
theorem tyX7_ok : ∀ k, k < 2 → parseFieldDescriptor (TX7 k).2.2.1 = some (tyX7 k) := by decide +kernel
abbrev cX7_init : ByteArray := prog_9_method_1_code
def yX7_init : MethodName := ⟨RX7, "<init>", "()V"⟩
abbrev cX7_addFour : ByteArray := prog_9_method_2_code
def yX7_addFour : MethodName := ⟨RX7, "addFour", "(I)V"⟩
def RX8 : String := "CopiedFire$Text"
def TX8 : u_T := fun k => match k with
  | 0 => ("CopiedFire$Text", "key", "I", true)
  | 1 => ("CopiedFire$Text", "operands", "I", true)
  | _ => ("CopiedFire$Text", "steps", "[I", true)
def tyX8 : Nat → FieldType := fun k => match k with
  | 0 => .int
  | 1 => .int
  | _ => .array .int
abbrev wsX80 : List Cond := u_ws RX8 TX8 3
theorem nmX8 : ∀ a, a < 3 → ∀ b, b < 3 → a ≠ b → (TX8 a).2.1 ≠ (TX8 b).2.1 := by decide +kernel
theorem tyX8_ok : ∀ k, k < 3 → parseFieldDescriptor (TX8 k).2.2.1 = some (tyX8 k) := by decide +kernel
abbrev cX8_init : ByteArray := prog_10_method_1_code
def yX8_init : MethodName := ⟨RX8, "<init>", "(II[I)V"⟩
def RX9 : String := "CopiedFire"
def TX9 : u_T := fun k => match k with
  | 0 => ("CopiedFire", "laws", "LCopiedFire$Laws;", true)
  | 1 => ("CopiedFire", "now", "LCopiedFire$House;", true)
  | 2 => ("CopiedFire", "image", "LCopiedFire$House;", true)
  | 3 => ("CopiedFire", "thought", "LCopiedFire$House;", true)
  | 4 => ("CopiedFire", "seating", "LCopiedFire$Seating;", true)
  | 5 => ("CopiedFire", "tape", "LCopiedFire$Tape;", true)
  | 6 => ("CopiedFire", "reader", "LCopiedFire$Reader;", true)
  | 7 => ("CopiedFire", "sheets", "[LCopiedFire$Sheet;", true)
  | 8 => ("CopiedFire", "slots", "[LCopiedFire$Slot;", true)
  | 9 => ("CopiedFire", "sums", "[I", true)
  | 10 => ("CopiedFire", "waiting", "[I", true)
  | 11 => ("CopiedFire", "waits", "I", false)
  | _ => ("CopiedFire", "kept", "Z", false)
def tyX9 : Nat → FieldType := fun k => match k with
  | 0 => .object "CopiedFire$Laws"
  | 1 => .object "CopiedFire$House"
  | 2 => .object "CopiedFire$House"
  | 3 => .object "CopiedFire$House"
  | 4 => .object "CopiedFire$Seating"
  | 5 => .object "CopiedFire$Tape"
  | 6 => .object "CopiedFire$Reader"
  | 7 => .array (.object "CopiedFire$Sheet")
  | 8 => .array (.object "CopiedFire$Slot")
  | 9 => .array .int
  | 10 => .array .int
  | 11 => .int
  | _ => .boolean
abbrev wsX90 : List Cond := u_ws RX9 TX9 13
theorem nmX9 : ∀ a, a < 13 → ∀ b, b < 13 → a ≠ b → (TX9 a).2.1 ≠ (TX9 b).2.1 := by decide +kernel
theorem tyX9_ok : ∀ k, k < 13 → parseFieldDescriptor (TX9 k).2.2.1 = some (tyX9 k) := by decide +kernel
abbrev cX9_init : ByteArray := prog_1_method_1_code
def yX9_init : MethodName := ⟨RX9, "<init>", "()V"⟩
abbrev cX9_thing : ByteArray := prog_1_method_2_code
def yX9_thing : MethodName := ⟨RX9, "thing", "(IIII)I"⟩
abbrev cX9_told : ByteArray := prog_1_method_3_code
def yX9_told : MethodName := ⟨RX9, "told", "(II)I"⟩
abbrev cX9_as : ByteArray := prog_1_method_4_code
def yX9_as : MethodName := ⟨RX9, "as", "(II)I"⟩
abbrev cX9_turns : ByteArray := prog_1_method_5_code
def yX9_turns : MethodName := ⟨RX9, "turns", "(II)I"⟩
abbrev cX9_set : ByteArray := prog_1_method_6_code
def yX9_set : MethodName := ⟨RX9, "set", "(III)I"⟩
abbrev cX9_deal : ByteArray := prog_1_method_7_code
def yX9_deal : MethodName := ⟨RX9, "deal", "(I)I"⟩
abbrev cX9_seed : ByteArray := prog_1_method_8_code
def yX9_seed : MethodName := ⟨RX9, "seed", "(I)I"⟩
abbrev cX9_heat : ByteArray := prog_1_method_9_code
def yX9_heat : MethodName := ⟨RX9, "heat", "(I)I"⟩
abbrev cX9_heats : ByteArray := prog_1_method_10_code
def yX9_heats : MethodName := ⟨RX9, "heats", "(II)I"⟩
abbrev cX9_door : ByteArray := prog_1_method_11_code
def yX9_door : MethodName := ⟨RX9, "door", "(III)I"⟩
abbrev cX9_doorTold : ByteArray := prog_1_method_12_code
def yX9_doorTold : MethodName := ⟨RX9, "doorTold", "(II)I"⟩
abbrev cX9_rule : ByteArray := prog_1_method_13_code
def yX9_rule : MethodName := ⟨RX9, "rule", "(II)I"⟩
abbrev cX9_visitor : ByteArray := prog_1_method_14_code
def yX9_visitor : MethodName := ⟨RX9, "visitor", "(I)I"⟩
abbrev cX9_likes : ByteArray := prog_1_method_15_code
def yX9_likes : MethodName := ⟨RX9, "likes", "(II)I"⟩
abbrev cX9_seats : ByteArray := prog_1_method_16_code
def yX9_seats : MethodName := ⟨RX9, "seats", "(I)I"⟩
abbrev cX9_way : ByteArray := prog_1_method_17_code
def yX9_way : MethodName := ⟨RX9, "way", "(II)I"⟩
abbrev cX9_minutes : ByteArray := prog_1_method_18_code
def yX9_minutes : MethodName := ⟨RX9, "minutes", "(I)I"⟩
abbrev cX9_house : ByteArray := prog_1_method_19_code
def yX9_house : MethodName := ⟨RX9, "house", "(I)I"⟩
abbrev cX9_behind : ByteArray := prog_1_method_20_code
def yX9_behind : MethodName := ⟨RX9, "behind", "(II)I"⟩
abbrev cX9_out : ByteArray := prog_1_method_21_code
def yX9_out : MethodName := ⟨RX9, "out", "()I"⟩
abbrev cX9_hot : ByteArray := prog_1_method_22_code
def yX9_hot : MethodName := ⟨RX9, "hot", "(I)I"⟩
abbrev cX9_shut : ByteArray := prog_1_method_23_code
def yX9_shut : MethodName := ⟨RX9, "shut", "(II)I"⟩
abbrev cX9_hired : ByteArray := prog_1_method_24_code
def yX9_hired : MethodName := ⟨RX9, "hired", "(II)I"⟩
abbrev cX9_becomes : ByteArray := prog_1_method_25_code
def yX9_becomes : MethodName := ⟨RX9, "becomes", "(III)I"⟩
abbrev cX9_began : ByteArray := prog_1_method_26_code
def yX9_began : MethodName := ⟨RX9, "began", "(I)I"⟩
abbrev cX9_like : ByteArray := prog_1_method_27_code
def yX9_like : MethodName := ⟨RX9, "like", "(II)I"⟩
abbrev cX9_fee : ByteArray := prog_1_method_28_code
def yX9_fee : MethodName := ⟨RX9, "fee", "()I"⟩
abbrev cX9_fine : ByteArray := prog_1_method_29_code
def yX9_fine : MethodName := ⟨RX9, "fine", "(I)I"⟩
abbrev cX9_feed : ByteArray := prog_1_method_30_code
def yX9_feed : MethodName := ⟨RX9, "feed", "(III)I"⟩
abbrev cX9_trim : ByteArray := prog_1_method_31_code
def yX9_trim : MethodName := ⟨RX9, "trim", "(I)I"⟩
abbrev cX9_text : ByteArray := prog_1_method_32_code
def yX9_text : MethodName := ⟨RX9, "text", "()I"⟩
abbrev cX9_textTold : ByteArray := prog_1_method_33_code
def yX9_textTold : MethodName := ⟨RX9, "textTold", "(II)I"⟩
abbrev cX9_why : ByteArray := prog_1_method_34_code
def yX9_why : MethodName := ⟨RX9, "why", "(I)I"⟩
abbrev cX9_sheet : ByteArray := prog_1_method_35_code
def yX9_sheet : MethodName := ⟨RX9, "sheet", "(III)I"⟩
abbrev cX9_mark : ByteArray := prog_1_method_36_code
def yX9_mark : MethodName := ⟨RX9, "mark", "(III)I"⟩
abbrev cX9_pour : ByteArray := prog_1_method_37_code
def yX9_pour : MethodName := ⟨RX9, "pour", "(I)I"⟩
abbrev cX9_reads : ByteArray := prog_1_method_38_code
def yX9_reads : MethodName := ⟨RX9, "reads", "(I)I"⟩
abbrev cX9_copy : ByteArray := prog_1_method_39_code
def yX9_copy : MethodName := ⟨RX9, "copy", "(IIIII)I"⟩
abbrev cX9_lay : ByteArray := prog_1_method_40_code
def yX9_lay : MethodName := ⟨RX9, "lay", "(III)I"⟩
abbrev cX9_ask : ByteArray := prog_1_method_41_code
def yX9_ask : MethodName := ⟨RX9, "ask", "(II)I"⟩
abbrev cX9_item : ByteArray := prog_1_method_42_code
def yX9_item : MethodName := ⟨RX9, "item", "(II)I"⟩
abbrev cX9_rest : ByteArray := prog_1_method_43_code
def yX9_rest : MethodName := ⟨RX9, "rest", "(II)I"⟩
abbrev cX9_tell : ByteArray := prog_1_method_44_code
def yX9_tell : MethodName := ⟨RX9, "tell", "(I)I"⟩
abbrev cX9_check : ByteArray := prog_1_method_45_code
def yX9_check : MethodName := ⟨RX9, "check", "(I)I"⟩
abbrev cX9_keep : ByteArray := prog_1_method_46_code
def yX9_keep : MethodName := ⟨RX9, "keep", "()I"⟩
abbrev cX9_back : ByteArray := prog_1_method_47_code
def yX9_back : MethodName := ⟨RX9, "back", "()I"⟩
abbrev cX9_count : ByteArray := prog_1_method_48_code
def yX9_count : MethodName := ⟨RX9, "count", "(I)I"⟩
abbrev cX9_within : ByteArray := prog_1_method_49_code
def yX9_within : MethodName := ⟨RX9, "within", "(III)Z"⟩
abbrev cX9_held : ByteArray := prog_1_method_50_code
def yX9_held : MethodName := ⟨RX9, "held", "(II)I"⟩
abbrev cX9_isKind : ByteArray := prog_1_method_51_code
def yX9_isKind : MethodName := ⟨RX9, "isKind", "(I)Z"⟩
abbrev cX9_isRoom : ByteArray := prog_1_method_52_code
def yX9_isRoom : MethodName := ⟨RX9, "isRoom", "(I)Z"⟩
abbrev cX9_areTwoRooms : ByteArray := prog_1_method_53_code
def yX9_areTwoRooms : MethodName := ⟨RX9, "areTwoRooms", "(II)Z"⟩
abbrev cX9_isThing : ByteArray := prog_1_method_54_code
def yX9_isThing : MethodName := ⟨RX9, "isThing", "(I)Z"⟩
abbrev cX9_isVisitor : ByteArray := prog_1_method_55_code
def yX9_isVisitor : MethodName := ⟨RX9, "isVisitor", "(I)Z"⟩
abbrev cX9_isSheet : ByteArray := prog_1_method_56_code
def yX9_isSheet : MethodName := ⟨RX9, "isSheet", "(I)Z"⟩
abbrev cX9_isSlot : ByteArray := prog_1_method_57_code
def yX9_isSlot : MethodName := ⟨RX9, "isSlot", "(I)Z"⟩
abbrev cX9_replaced : ByteArray := prog_1_method_58_code
def yX9_replaced : MethodName := ⟨RX9, "replaced", "([IIII)I"⟩
abbrev cX9_thinkOn : ByteArray := prog_1_method_59_code
def yX9_thinkOn : MethodName := ⟨RX9, "thinkOn", "(II)I"⟩
abbrev cX9_canHaveBegunBy : ByteArray := prog_1_method_60_code
def yX9_canHaveBegunBy : MethodName := ⟨RX9, "canHaveBegunBy", "(ILCopiedFire$Sheet;)Z"⟩
abbrev cX9_sumDifferences : ByteArray := prog_1_method_61_code
def yX9_sumDifferences : MethodName := ⟨RX9, "sumDifferences", "(LCopiedFire$Sheet;)V"⟩
abbrev cX9_findingFor : ByteArray := prog_1_method_62_code
def yX9_findingFor : MethodName := ⟨RX9, "findingFor", "(II)I"⟩
def RX10 : String := "CopiedFireModel"
def TX10 : u_T := fun k => match k with
  | 0 => ("CopiedFireModel", "now", "[I", true)
  | 1 => ("CopiedFireModel", "image", "[I", true)
  | 2 => ("CopiedFireModel", "aside", "[I", true)
  | 3 => ("CopiedFireModel", "hasImage", "Z", false)
  | 4 => ("CopiedFireModel", "seat", "[I", true)
  | 5 => ("CopiedFireModel", "bestSeat", "[I", true)
  | 6 => ("CopiedFireModel", "mostSeats", "I", false)
  | 7 => ("CopiedFireModel", "before", "[I", true)
  | 8 => ("CopiedFireModel", "off", "[I", true)
  | 9 => ("CopiedFireModel", "tape", "[I", true)
  | 10 => ("CopiedFireModel", "taped", "I", false)
  | 11 => ("CopiedFireModel", "next", "I", false)
  | 12 => ("CopiedFireModel", "from", "I", false)
  | 13 => ("CopiedFireModel", "token", "I", false)
  | 14 => ("CopiedFireModel", "value", "I", false)
  | 15 => ("CopiedFireModel", "ended", "I", false)
  | 16 => ("CopiedFireModel", "key", "I", false)
  | 17 => ("CopiedFireModel", "keys", "[C", true)
  | 18 => ("CopiedFireModel", "keyAt", "[I", true)
  | 19 => ("CopiedFireModel", "code", "[I", true)
  | 20 => ("CopiedFireModel", "codes", "I", false)
  | 21 => ("CopiedFireModel", "atoms", "I", false)
  | 22 => ("CopiedFireModel", "waits", "[I", true)
  | 23 => ("CopiedFireModel", "held", "I", false)
  | 24 => ("CopiedFireModel", "tested", "[Z", true)
  | 25 => ("CopiedFireModel", "stack", "[I", true)
  | 26 => ("CopiedFireModel", "facts", "[I", true)
  | 27 => ("CopiedFireModel", "sorts", "[I", true)
  | 28 => ("CopiedFireModel", "sizes", "[I", true)
  | 29 => ("CopiedFireModel", "cells", "[I", true)
  | 30 => ("CopiedFireModel", "holds", "[I", true)
  | 31 => ("CopiedFireModel", "holdsA", "[I", true)
  | 32 => ("CopiedFireModel", "holdsB", "[I", true)
  | 33 => ("CopiedFireModel", "heldCells", "[I", true)
  | 34 => ("CopiedFireModel", "moved", "[I", true)
  | 35 => ("CopiedFireModel", "tells", "[I", true)
  | _ => ("CopiedFireModel", "waiting", "I", false)
def tyX10 : Nat → FieldType := fun k => match k with
  | 0 => .array .int
  | 1 => .array .int
  | 2 => .array .int
  | 3 => .boolean
  | 4 => .array .int
  | 5 => .array .int
  | 6 => .int
  | 7 => .array .int
  | 8 => .array .int
  | 9 => .array .int
  | 10 => .int
  | 11 => .int
  | 12 => .int
  | 13 => .int
  | 14 => .int
  | 15 => .int
  | 16 => .int
  | 17 => .array .char
  | 18 => .array .int
  | 19 => .array .int
  | 20 => .int
  | 21 => .int
  | 22 => .array .int
  | 23 => .int
  | 24 => .array .boolean
  | 25 => .array .int
  | 26 => .array .int
  | 27 => .array .int
  | 28 => .array .int
  | 29 => .array .int
  | 30 => .array .int
  | 31 => .array .int
  | 32 => .array .int
  | 33 => .array .int
  | 34 => .array .int
  | 35 => .array .int
  | _ => .int
abbrev wsX100 : List Cond := u_ws RX10 TX10 37
theorem nmX10 : ∀ a, a < 37 → ∀ b, b < 37 → a ≠ b → (TX10 a).2.1 ≠ (TX10 b).2.1 := by decide +kernel
theorem tyX10_ok : ∀ k, k < 37 → parseFieldDescriptor (TX10 k).2.2.1 = some (tyX10 k) := by decide +kernel
abbrev cX10_init : ByteArray := prog_12_method_1_code
def yX10_init : MethodName := ⟨RX10, "<init>", "()V"⟩
abbrev cX10_in : ByteArray := prog_12_method_2_code
def yX10_in : MethodName := ⟨RX10, "in", "(III)Z"⟩
abbrev cX10_within : ByteArray := prog_12_method_3_code
def yX10_within : MethodName := ⟨RX10, "within", "(III)I"⟩
abbrev cX10_copyAll : ByteArray := prog_12_method_4_code
def yX10_copyAll : MethodName := ⟨RX10, "copyAll", "([I[I)V"⟩
abbrev cX10_isThing : ByteArray := prog_12_method_5_code
def yX10_isThing : MethodName := ⟨RX10, "isThing", "(I)Z"⟩
abbrev cX10_isRoom : ByteArray := prog_12_method_6_code
def yX10_isRoom : MethodName := ⟨RX10, "isRoom", "(I)Z"⟩
abbrev cX10_of : ByteArray := prog_12_method_7_code
def yX10_of : MethodName := ⟨RX10, "of", "(II)I"⟩
abbrev cX10_put : ByteArray := prog_12_method_8_code
def yX10_put : MethodName := ⟨RX10, "put", "(III)V"⟩
abbrev cX10_swaps : ByteArray := prog_12_method_9_code
def yX10_swaps : MethodName := ⟨RX10, "swaps", "(II)I"⟩
abbrev cX10_burnsOf : ByteArray := prog_12_method_10_code
def yX10_burnsOf : MethodName := ⟨RX10, "burnsOf", "(I)I"⟩
abbrev cX10_givesOf : ByteArray := prog_12_method_11_code
def yX10_givesOf : MethodName := ⟨RX10, "givesOf", "(II)I"⟩
abbrev cX10_catchesOf : ByteArray := prog_12_method_12_code
def yX10_catchesOf : MethodName := ⟨RX10, "catchesOf", "(I)I"⟩
abbrev cX10_worthOf : ByteArray := prog_12_method_13_code
def yX10_worthOf : MethodName := ⟨RX10, "worthOf", "(I)I"⟩
abbrev cX10_isOf : ByteArray := prog_12_method_14_code
def yX10_isOf : MethodName := ⟨RX10, "isOf", "(II)Z"⟩
abbrev cX10_comes : ByteArray := prog_12_method_15_code
def yX10_comes : MethodName := ⟨RX10, "comes", "(IIII)I"⟩
abbrev cX10_thing : ByteArray := prog_12_method_16_code
def yX10_thing : MethodName := ⟨RX10, "thing", "(IIII)I"⟩
abbrev cX10_told : ByteArray := prog_12_method_17_code
def yX10_told : MethodName := ⟨RX10, "told", "(II)I"⟩
abbrev cX10_isUnder : ByteArray := prog_12_method_18_code
def yX10_isUnder : MethodName := ⟨RX10, "isUnder", "(II)Z"⟩
abbrev cX10_as : ByteArray := prog_12_method_19_code
def yX10_as : MethodName := ⟨RX10, "as", "(II)I"⟩
abbrev cX10_turns : ByteArray := prog_12_method_20_code
def yX10_turns : MethodName := ⟨RX10, "turns", "(II)I"⟩
abbrev cX10_set : ByteArray := prog_12_method_21_code
def yX10_set : MethodName := ⟨RX10, "set", "(III)I"⟩
abbrev cX10_draw : ByteArray := prog_12_method_22_code
def yX10_draw : MethodName := ⟨RX10, "draw", "()I"⟩
abbrev cX10_deal : ByteArray := prog_12_method_23_code
def yX10_deal : MethodName := ⟨RX10, "deal", "(I)I"⟩
abbrev cX10_seed : ByteArray := prog_12_method_24_code
def yX10_seed : MethodName := ⟨RX10, "seed", "(I)I"⟩
abbrev cX10_heat : ByteArray := prog_12_method_25_code
def yX10_heat : MethodName := ⟨RX10, "heat", "(I)I"⟩
abbrev cX10_heats : ByteArray := prog_12_method_26_code
def yX10_heats : MethodName := ⟨RX10, "heats", "(II)I"⟩
abbrev cX10_areTwo : ByteArray := prog_12_method_27_code
def yX10_areTwo : MethodName := ⟨RX10, "areTwo", "(II)Z"⟩
abbrev cX10_leaves : ByteArray := prog_12_method_28_code
def yX10_leaves : MethodName := ⟨RX10, "leaves", "(III)I"⟩
abbrev cX10_door : ByteArray := prog_12_method_29_code
def yX10_door : MethodName := ⟨RX10, "door", "(III)I"⟩
abbrev cX10_doorTold : ByteArray := prog_12_method_30_code
def yX10_doorTold : MethodName := ⟨RX10, "doorTold", "(II)I"⟩
abbrev cX10_rule : ByteArray := prog_12_method_31_code
def yX10_rule : MethodName := ⟨RX10, "rule", "(II)I"⟩
abbrev cX10_visitor : ByteArray := prog_12_method_32_code
def yX10_visitor : MethodName := ⟨RX10, "visitor", "(I)I"⟩
abbrev cX10_likes : ByteArray := prog_12_method_33_code
def yX10_likes : MethodName := ⟨RX10, "likes", "(II)I"⟩
abbrev cX10_gives : ByteArray := prog_12_method_34_code
def yX10_gives : MethodName := ⟨RX10, "gives", "(III)V"⟩
abbrev cX10_seats : ByteArray := prog_12_method_35_code
def yX10_seats : MethodName := ⟨RX10, "seats", "(I)I"⟩
abbrev cX10_way : ByteArray := prog_12_method_36_code
def yX10_way : MethodName := ⟨RX10, "way", "(II)I"⟩
abbrev cX10_burns : ByteArray := prog_12_method_37_code
def yX10_burns : MethodName := ⟨RX10, "burns", "(I)V"⟩
abbrev cX10_evens : ByteArray := prog_12_method_38_code
def yX10_evens : MethodName := ⟨RX10, "evens", "()V"⟩
abbrev cX10_catches : ByteArray := prog_12_method_39_code
def yX10_catches : MethodName := ⟨RX10, "catches", "()V"⟩
abbrev cX10_blows : ByteArray := prog_12_method_40_code
def yX10_blows : MethodName := ⟨RX10, "blows", "()V"⟩
abbrev cX10_minute : ByteArray := prog_12_method_41_code
def yX10_minute : MethodName := ⟨RX10, "minute", "()V"⟩
abbrev cX10_goesOn : ByteArray := prog_12_method_42_code
def yX10_goesOn : MethodName := ⟨RX10, "goesOn", "(I)V"⟩
abbrev cX10_allHeat : ByteArray := prog_12_method_43_code
def yX10_allHeat : MethodName := ⟨RX10, "allHeat", "()I"⟩
abbrev cX10_lit : ByteArray := prog_12_method_44_code
def yX10_lit : MethodName := ⟨RX10, "lit", "()I"⟩
abbrev cX10_bits : ByteArray := prog_12_method_45_code
def yX10_bits : MethodName := ⟨RX10, "bits", "(I)I"⟩
abbrev cX10_minutes : ByteArray := prog_12_method_46_code
def yX10_minutes : MethodName := ⟨RX10, "minutes", "(I)I"⟩
abbrev cX10_house : ByteArray := prog_12_method_47_code
def yX10_house : MethodName := ⟨RX10, "house", "(I)I"⟩
abbrev cX10_thinks : ByteArray := prog_12_method_48_code
def yX10_thinks : MethodName := ⟨RX10, "thinks", "()V"⟩
abbrev cX10_putsBack : ByteArray := prog_12_method_49_code
def yX10_putsBack : MethodName := ⟨RX10, "putsBack", "()V"⟩
abbrev cX10_behind : ByteArray := prog_12_method_50_code
def yX10_behind : MethodName := ⟨RX10, "behind", "(II)I"⟩
abbrev cX10_out : ByteArray := prog_12_method_51_code
def yX10_out : MethodName := ⟨RX10, "out", "()I"⟩
abbrev cX10_hot : ByteArray := prog_12_method_52_code
def yX10_hot : MethodName := ⟨RX10, "hot", "(I)I"⟩
abbrev cX10_burntBy : ByteArray := prog_12_method_53_code
def yX10_burntBy : MethodName := ⟨RX10, "burntBy", "(I)I"⟩
abbrev cX10_shut : ByteArray := prog_12_method_54_code
def yX10_shut : MethodName := ⟨RX10, "shut", "(II)I"⟩
abbrev cX10_hired : ByteArray := prog_12_method_55_code
def yX10_hired : MethodName := ⟨RX10, "hired", "(II)I"⟩
abbrev cX10_becomes : ByteArray := prog_12_method_56_code
def yX10_becomes : MethodName := ⟨RX10, "becomes", "(III)I"⟩
abbrev cX10_isSo : ByteArray := prog_12_method_57_code
def yX10_isSo : MethodName := ⟨RX10, "isSo", "(I)Z"⟩
abbrev cX10_began : ByteArray := prog_12_method_58_code
def yX10_began : MethodName := ⟨RX10, "began", "(I)I"⟩
abbrev cX10_like : ByteArray := prog_12_method_59_code
def yX10_like : MethodName := ⟨RX10, "like", "(II)I"⟩
abbrev cX10_fee : ByteArray := prog_12_method_60_code
def yX10_fee : MethodName := ⟨RX10, "fee", "()I"⟩
abbrev cX10_fine : ByteArray := prog_12_method_61_code
def yX10_fine : MethodName := ⟨RX10, "fine", "(I)I"⟩
abbrev cX10_feed : ByteArray := prog_12_method_62_code
def yX10_feed : MethodName := ⟨RX10, "feed", "(III)I"⟩
abbrev cX10_trim : ByteArray := prog_12_method_63_code
def yX10_trim : MethodName := ⟨RX10, "trim", "(I)I"⟩
abbrev cX10_isLetter : ByteArray := prog_12_method_64_code
def yX10_isLetter : MethodName := ⟨RX10, "isLetter", "(I)Z"⟩
abbrev cX10_isFigure : ByteArray := prog_12_method_65_code
def yX10_isFigure : MethodName := ⟨RX10, "isFigure", "(I)Z"⟩
abbrev cX10_go : ByteArray := prog_12_method_66_code
def yX10_go : MethodName := ⟨RX10, "go", "()V"⟩
abbrev cX10_takesKey : ByteArray := prog_12_method_67_code
def yX10_takesKey : MethodName := ⟨RX10, "takesKey", "()Z"⟩
abbrev cX10_nameOf : ByteArray := prog_12_method_68_code
def yX10_nameOf : MethodName := ⟨RX10, "nameOf", "(I)I"⟩
abbrev cX10_rank : ByteArray := prog_12_method_69_code
def yX10_rank : MethodName := ⟨RX10, "rank", "(I)I"⟩
abbrev cX10_settle : ByteArray := prog_12_method_70_code
def yX10_settle : MethodName := ⟨RX10, "settle", "(I)V"⟩
abbrev cX10_signHere : ByteArray := prog_12_method_71_code
def yX10_signHere : MethodName := ⟨RX10, "signHere", "()I"⟩
abbrev cX10_takesPart : ByteArray := prog_12_method_72_code
def yX10_takesPart : MethodName := ⟨RX10, "takesPart", "()Z"⟩
abbrev cX10_takesE : ByteArray := prog_12_method_73_code
def yX10_takesE : MethodName := ⟨RX10, "takesE", "()Z"⟩
abbrev cX10_notsOpen : ByteArray := prog_12_method_74_code
def yX10_notsOpen : MethodName := ⟨RX10, "notsOpen", "()I"⟩
abbrev cX10_text : ByteArray := prog_12_method_75_code
def yX10_text : MethodName := ⟨RX10, "text", "()I"⟩
abbrev cX10_textTold : ByteArray := prog_12_method_76_code
def yX10_textTold : MethodName := ⟨RX10, "textTold", "(II)I"⟩
abbrev cX10_counts : ByteArray := prog_12_method_77_code
def yX10_counts : MethodName := ⟨RX10, "counts", "(I)I"⟩
abbrev cX10_why : ByteArray := prog_12_method_78_code
def yX10_why : MethodName := ⟨RX10, "why", "(I)I"⟩
abbrev cX10_two : ByteArray := prog_12_method_79_code
def yX10_two : MethodName := ⟨RX10, "two", "(III)I"⟩
abbrev cX10_worksOut : ByteArray := prog_12_method_80_code
def yX10_worksOut : MethodName := ⟨RX10, "worksOut", "(I)I"⟩
abbrev cX10_isSheet : ByteArray := prog_12_method_81_code
def yX10_isSheet : MethodName := ⟨RX10, "isSheet", "(I)Z"⟩
abbrev cX10_isSlot : ByteArray := prog_12_method_82_code
def yX10_isSlot : MethodName := ⟨RX10, "isSlot", "(I)Z"⟩
abbrev cX10_sheet : ByteArray := prog_12_method_83_code
def yX10_sheet : MethodName := ⟨RX10, "sheet", "(III)I"⟩
abbrev cX10_mark : ByteArray := prog_12_method_84_code
def yX10_mark : MethodName := ⟨RX10, "mark", "(III)I"⟩
abbrev cX10_pour : ByteArray := prog_12_method_85_code
def yX10_pour : MethodName := ⟨RX10, "pour", "(I)I"⟩
abbrev cX10_reads : ByteArray := prog_12_method_86_code
def yX10_reads : MethodName := ⟨RX10, "reads", "(I)I"⟩
abbrev cX10_copy : ByteArray := prog_12_method_87_code
def yX10_copy : MethodName := ⟨RX10, "copy", "(IIIII)I"⟩
abbrev cX10_lay : ByteArray := prog_12_method_88_code
def yX10_lay : MethodName := ⟨RX10, "lay", "(III)I"⟩
abbrev cX10_ask : ByteArray := prog_12_method_89_code
def yX10_ask : MethodName := ⟨RX10, "ask", "(II)I"⟩
abbrev cX10_item : ByteArray := prog_12_method_90_code
def yX10_item : MethodName := ⟨RX10, "item", "(II)I"⟩
abbrev cX10_rest : ByteArray := prog_12_method_91_code
def yX10_rest : MethodName := ⟨RX10, "rest", "(II)I"⟩
abbrev cX10_tell : ByteArray := prog_12_method_92_code
def yX10_tell : MethodName := ⟨RX10, "tell", "(I)I"⟩
abbrev cX10_check : ByteArray := prog_12_method_93_code
def yX10_check : MethodName := ⟨RX10, "check", "(I)I"⟩
abbrev cX10_keep : ByteArray := prog_12_method_94_code
def yX10_keep : MethodName := ⟨RX10, "keep", "()I"⟩
abbrev cX10_back : ByteArray := prog_12_method_95_code
def yX10_back : MethodName := ⟨RX10, "back", "()I"⟩
abbrev cX10_count : ByteArray := prog_12_method_96_code
def yX10_count : MethodName := ⟨RX10, "count", "(I)I"⟩
def RL : String := "CopiedFireLaw"
abbrev cL_law : ByteArray := code
def yL_law : MethodName := ⟨RL, "law", "([I)Z"⟩
abbrev vwCl : List vw_C := [(RX0, TX0, 19), (RX2, TX2, 2), (RX3, TX3, 9), (RX4, TX4, 2), (RX5, TX5, 3), (RX6, TX6, 5), (RX7, TX7, 2), (RX8, TX8, 3), (RX9, TX9, 13), (RX10, TX10, 37)]
end
section
/-! ===== the abstract judgement: one world of all cells, states of numbers, one rule an instruction ===== -/
def TB : List Cond := lw_tbl.filter goodWord
theorem TBm {w : Cond} (h : w ∈ lw_tbl) (g : goodWord w = true) : w ∈ TB := List.mem_filter.mpr ⟨h, g⟩
theorem TBg {y : MethodName} {cc : ByteArray} {n : Nat} {r : Option FieldType} (h : Cond.code y cc n r ∈ TB) : GoodIn TB (Cond.code y cc n r :: TB) := by
  intro w hw
  have hw : w ∈ TB := by
    rcases List.mem_cons.mp hw with rfl | hw
    · exact h
    · exact hw
  exact ⟨hw, good_of_word (List.mem_filter.mp hw).2⟩
def gNst : Cond → Bool
  | .fieldLinkNest .. => true
  | .methodLinkNest .. => true
  | _ => false
def NW : List Cond := lw_tbl.filter gNst
theorem NWm {w : Cond} (h : w ∈ lw_tbl) (g : gNst w = true) : w ∈ NW := List.mem_filter.mpr ⟨h, g⟩
def gNw (U : State) : Prop := ∀ w ∈ NW, va_Nw w U
theorem gNw.warm {s U : State} (hW : s.WarmedH U.vm) (h : gNw s) : gNw U := by
  intro w hw
  have h1 := h w hw
  have h2 := (List.mem_filter.mp hw).2
  cases w <;> first | exact va_Nw.warmF hW h1 | exact va_Nw.warmM hW h1 | (simp [gNst] at h2)
theorem gNw.same {s U : State} (hv : s.vm = U.vm) (h : gNw s) : gNw U := by
  intro w hw
  have h1 := h w hw
  have h2 := (List.mem_filter.mp hw).2
  cases w <;> first | (simp [gNst] at h2; done) | exact va_Nw.same rfl hv h1
theorem gNw.use {s : State} (h : gNw s) {w : Cond} (hw : w ∈ NW) (args : Array Value) : w.before args s = true := by
  have h1 := h w hw
  have h2 := (List.mem_filter.mp hw).2
  cases w <;> first | (simp [gNst] at h2; done) | exact va_Nw.use rfl h1
/-- a state: cell, slot, number -/
abbrev gS : Type := Nat → Nat → Int32
def gu (σ : gS) (i k : Nat) (v : Int32) : gS := fun a => if a = i then upd (σ i) k v else σ a
/-- a shape: an object (its class's number, its slots: a number, or a reference to a cell or to none), or an array (its type's number, its length; references) -/
abbrev gH : Type := (Nat × List (Option (Option Nat))) ⊕ (Nat × Nat × Option (Nat → Option Nat))
def gV (ad : Nat → Nat) (f : Nat → Int32) (k : Nat) (o : Option (Option Nat)) : Value := match o with
  | none => .int (f k)
  | some r => va_rf (r.map ad)
def gE (cy : Nat → ClassId) (ad : Nat → Nat) (h : gH) (f : Nat → Int32) : va_E := match h with
  | .inl (ci, fs) => .inr (ci, fs.mapIdx (gV ad f))
  | .inr (t, n, none) => .inl (cy t, n, .inl f)
  | .inr (t, n, some rs) => .inl (cy t, n, .inr (.inr (.inr (.inr (fun k => (rs k).map ad)))))
def gCell (cy : Nat → ClassId) (ad : Nat → Nat) (σ : gS) (i : Nat) (h : gH) : Nat × va_E := (ad i, gE cy ad h (σ i))
def gW (cy : Nat → ClassId) (Z : List gH) (ad : Nat → Nat) (σ : gS) : va_W := Z.mapIdx (gCell cy ad σ)
theorem gW_at {cy : Nat → ClassId} {Z : List gH} {ad : Nat → Nat} {σ : gS} {i : Nat} {h : gH} (hl : Z[i]? = some h) : (gW cy Z ad σ)[i]? = some (ad i, gE cy ad h (σ i)) := by
  unfold gW
  rw [List.getElem?_mapIdx, hl]
  rfl
theorem gu_same (σ : gS) (i k : Nat) (v : Int32) : gu σ i k v i = upd (σ i) k v := by simp [gu]
theorem gu_ne (σ : gS) {i a : Nat} (k : Nat) (v : Int32) (h : a ≠ i) : gu σ i k v a = σ a := by simp [gu, h]
/-- one cell's numbers become others -/
def gp (σ : gS) (i : Nat) (f : Nat → Int32) : gS := fun a => if a = i then f else σ a
theorem gu_gp (σ : gS) (i k : Nat) (v : Int32) : gu σ i k v = gp σ i (upd (σ i) k v) := rfl
theorem gW_setp {cy : Nat → ClassId} {Z : List gH} {ad : Nat → Nat} {σ : gS} {i : Nat} {f : Nat → Int32} {h : gH} (hl : Z[i]? = some h) {e : Nat × va_E} (he : e = (ad i, gE cy ad h f)) : (gW cy Z ad σ).set i e = gW cy Z ad (gp σ i f) := by
  have hi : i < Z.length := (List.getElem?_eq_some_iff.mp hl).1
  unfold gW
  apply List.ext_getElem?
  intro j
  rw [List.getElem?_set, List.getElem?_mapIdx, List.getElem?_mapIdx]
  by_cases hj : i = j
  · subst hj
    rw [hl, if_pos rfl, if_pos (by simpa using hi), he]
    simp [gCell, gp]
  · simp only [hj, if_false]
    cases hq : Z[j]? with
    | none => rfl
    | some q => simp [gCell, gp, Ne.symm hj]
theorem gW_set {cy : Nat → ClassId} {Z : List gH} {ad : Nat → Nat} {σ : gS} {i k : Nat} {v : Int32} {h : gH} (hl : Z[i]? = some h) {e : Nat × va_E} (he : e = (ad i, gE cy ad h (upd (σ i) k v))) : (gW cy Z ad σ).set i e = gW cy Z ad (gu σ i k v) := gW_setp hl he
theorem gV_set {ad : Nat → Nat} {f : Nat → Int32} {fs : List (Option (Option Nat))} {k : Nat} {v : Int32} (h : fs[k]? = some none) : (fs.mapIdx (gV ad f)).set k (.int v) = fs.mapIdx (gV ad (upd f k v)) := by
  have hk : k < fs.length := (List.getElem?_eq_some_iff.mp h).1
  apply List.ext_getElem?
  intro j
  rw [List.getElem?_set, List.getElem?_mapIdx, List.getElem?_mapIdx]
  by_cases hj : k = j
  · subst hj
    rw [h, if_pos rfl, if_pos (by simpa using hk)]
    simp [gV, upd]
  · simp only [hj, if_false]
    cases hq : fs[j]? with
    | none => rfl
    | some q => cases q <;> simp [gV, upd, Ne.symm hj]
theorem gV_at {ad : Nat → Nat} {f : Nat → Int32} {fs : List (Option (Option Nat))} {k : Nat} {o : Option (Option Nat)} (h : fs[k]? = some o) : (fs.mapIdx (gV ad f))[k]? = some (gV ad f k o) := by
  rw [List.getElem?_mapIdx, h]; rfl
/-- the addresses of a world are its layout's -/
theorem gW_fst {cy : Nat → ClassId} {Z : List gH} {ad : Nat → Nat} {σ σ' : gS} : (gW cy Z ad σ).map (·.1) = (gW cy Z ad σ').map (·.1) := by
  unfold gW
  apply List.ext_getElem?
  intro j
  rw [List.getElem?_map, List.getElem?_map, List.getElem?_mapIdx, List.getElem?_mapIdx]
  cases Z[j]? <;> rfl
theorem gD_iff {A : Nat → Prop} {ws : va_W} : va_D A ws ↔ (ws.map (·.1)).Nodup ∧ ∀ a ∈ ws.map (·.1), A a := by
  constructor
  · intro h
    refine ⟨?_, fun a ha => ?_⟩
    · unfold List.Nodup
      rw [List.pairwise_iff_getElem]
      intro i j hi hj hij heq
      rw [List.length_map] at hi hj
      rw [List.getElem_map, List.getElem_map] at heq
      have := h.1 i j _ _ (List.getElem?_eq_getElem hi) (List.getElem?_eq_getElem hj) heq
      omega
    · obtain ⟨q, hq, rfl⟩ := List.mem_map.mp ha
      obtain ⟨k, hk⟩ := List.getElem?_of_mem hq
      exact h.2 k q hk
  · rintro ⟨h1, h2⟩
    refine ⟨fun i j p q hi hj e => ?_, fun k q hk => h2 _ (List.mem_map.mpr ⟨q, List.mem_of_getElem? hk, rfl⟩)⟩
    unfold List.Nodup at h1
    rw [List.pairwise_iff_getElem] at h1
    obtain ⟨li, ei⟩ := List.getElem?_eq_some_iff.mp hi
    obtain ⟨lj, ej⟩ := List.getElem?_eq_some_iff.mp hj
    rcases Nat.lt_trichotomy i j with h | h | h
    · exact absurd (by rw [List.getElem_map, List.getElem_map, ei, ej]; exact e) (h1 i j (by simpa using li) (by simpa using lj) h)
    · exact h
    · exact absurd (by rw [List.getElem_map, List.getElem_map, ei, ej]; exact e.symm) (h1 j i (by simpa using lj) (by simpa using li) h)
theorem gD_fst {A : Nat → Prop} {ws ws' : va_W} (h : ws.map (·.1) = ws'.map (·.1)) (hD : va_D A ws) : va_D A ws' := by
  rw [gD_iff] at hD ⊢
  rw [← h]
  exact hD
theorem gD_perm {A : Nat → Prop} {ws ws' : va_W} (h : ws.Perm ws') (hD : va_D A ws) : va_D A ws' := by
  rw [gD_iff] at hD ⊢
  have hp := h.map (fun q : Nat × va_E => q.1)
  exact ⟨hp.nodup_iff.mp hD.1, fun a ha => hD.2 a (hp.mem_iff.mpr ha)⟩
theorem gP_perm {D : va_G} {cl : List vw_C} {ws ws' : va_W} {H : Heap} (h : ws.Perm ws') (hP : va_P D cl ws H) : va_P D cl ws' H := by
  intro k q hk
  have hq : q ∈ ws := h.mem_iff.mpr (List.mem_of_getElem? hk)
  obtain ⟨j, hj⟩ := List.getElem?_of_mem hq
  exact hP j q hj
theorem gA_iff {ws : va_W} {sz q : Nat} : va_A ws sz q ↔ q ∈ ws.map (·.1) ∨ sz ≤ q := by
  unfold va_A
  constructor
  · rintro (⟨k, e, h⟩ | h)
    · exact Or.inl (List.mem_map.mpr ⟨(q, e), List.mem_of_getElem? h, rfl⟩)
    · exact Or.inr h
  · rintro (h | h)
    · obtain ⟨⟨a, e⟩, hm, rfl⟩ := List.mem_map.mp h
      obtain ⟨k, hk⟩ := List.getElem?_of_mem hm
      exact Or.inl ⟨k, e, hk⟩
    · exact Or.inr h
-- the judgement
def gTy (cy : Nat → ClassId) : List (ClassId × FieldType) := [(cy 0, .int), (cy 1, .char), (cy 2, .boolean), (cy 3, .object "CopiedFire$Sheet"), (cy 4, .object "CopiedFire$Slot"), (cy 5, .object "CopiedFire$Text")]
/-- what is kept beside the world: nest words, a static array, two statics, six text constants -/
def kab (j : Nat) : Int32 := ([0, 0, 0, 1, 2, 0] : List Int32).getD j 0
def sLen : List Nat := [4, 3, 4, 3, 2, 2]
def sByt : List (List Int32) := [[98, 117, 114, 110], [102, 101, 101], [102, 105, 110, 101], [102, 104, 110], [98, 97], [102, 114]]
def sIx : List Nat := [82, 88, 90, 100, 102, 104]
def sTx : List String := ["burn", "fee", "fine", "fhn", "ba", "fr"]
def gY (A : Nat → Prop) (ad : Nat → Nat) (U : State) : Prop := gNw U ∧ va_Z "CopiedFire" "KIND_ABOVE" "[I" (.ref (ad 1200)) A U U.heap ∧ va_T .int (ad 1200) 6 (fun j => .int (kab j)) A U U.heap ∧ va_Z "java/lang/String" "COMPACT_STRINGS" "Z" (.int 1) A U U.heap ∧ va_Zq "jdk/internal/util/Preconditions" "SIOOBE_FORMATTER" "Ljava/util/function/BiFunction;" A U U.heap ∧ vk_S 6 sLen sByt (fun i => ad (1000 + i)) (fun i => ad (1100 + i)) A U U.heap ∧ ∀ i, i < 6 → vk_R "CopiedFire$Reader" (sIx.getD i 0) (sTx.getD i "") (ad (1000 + i)) U
theorem gY.nw {A : Nat → Prop} {ad : Nat → Nat} {U : State} (h : gY A ad U) : gNw U := h.1
theorem gY.use {A : Nat → Prop} {ad : Nat → Nat} {U : State} (h : gY A ad U) {w : Cond} (hw : w ∈ NW) (args : Array Value) : w.before args U = true := h.nw.use hw args
theorem gY.weaken {A B : Nat → Prop} {ad : Nat → Nat} {U : State} (hAB : ∀ q, B q → A q) (h : gY A ad U) : gY B ad U := by
  obtain ⟨h1, h2, h3, h4, h5, h6, h7⟩ := h
  exact ⟨h1, h2.narrow hAB, h3.narrow hAB, h4.narrow hAB, h5.narrow hAB, h6.narrow hAB, h7⟩
theorem gY.moved {A : Nat → Prop} {ad : Nat → Nat} {U V : State} {H : Heap} {locs : List Loc} (hW : U.WarmedH V.vm) (hS : va_S A U.heap H locs) (hH : V.heap = H) (h : gY A ad U) : gY A ad V := by
  obtain ⟨h1, h2, h3, h4, h5, h6, h7⟩ := h
  subst hH
  exact ⟨gNw.warm hW h1, (h2.moved hW.alike).kept hS.2.1, (h3.moved hW.alike).kept hS.2.1, (h4.moved hW.alike).kept hS.2.1, (h5.moved hW.alike).kept hS.2.1, (h6.moved hW.alike).kept hS.2.1, fun i hi => (h7 i hi).warm hW⟩
theorem gY.same {A : Nat → Prop} {ad : Nat → Nat} {U V : State} (hv : U.vm = V.vm) (hH : U.heap = V.heap) (h : gY A ad U) : gY A ad V := by
  obtain ⟨h1, h2, h3, h4, h5, h6, h7⟩ := h
  have ha : U.vm.Alike V.vm := hv ▸ Vm.Alike.refl U.vm
  rw [hH] at h2 h3 h4 h5 h6
  exact ⟨gNw.same hv h1, h2.moved ha, h3.moved ha, h4.moved ha, h5.moved ha, h6.moved ha, fun i hi => (h7 i hi).same hv.symm⟩
def gPre (D : va_G) (cy : Nat → ClassId) (ad : Nat → Nat) (ws : va_W) (A : Nat → Prop) (U : State) : Prop := va_P D vwCl ws U.heap ∧ va_K D vwCl (gTy cy) U ∧ va_D (fun _ => True) ws ∧ gY A ad U
def gB (D : va_G) (cy : Nat → ClassId) (Z : List gH) (ad : Nat → Nat) (σ : gS) (t : State) : Prop := va_P D vwCl (gW cy Z ad σ) t.heap
def gQ (rt : Option FieldType) (B : gS → State → Prop) (A : Nat → Prop) (z : Int32 × gS) : Array Value → State → Outcome → State → Prop := match rt with
  | none => va_Qv (fun u : gS => u = z.2) B A
  | some _ => va_Qi (fun (r : Int32) (u : gS) => (r, u) = z) B A
/-- the room of a method of height L that makes nothing -/
def gR (L : Nat) : Room := { frames := L, cells := 0, slots := 0, locals := 64 * L }
/-- the contract of a method that makes nothing: what F gives, the bytecode does -/
def gMet (y : MethodName) (cc : ByteArray) (nL : Nat) (rt : Option FieldType) (L : Nat) (Z : List gH) (av : (Nat → Nat) → List Value) (F : gS → Option (Int32 × gS)) : Prop :=
  ∀ (l : Launch) (D : va_G) (cy : Nat → ClassId) (ad : Nat → Nat) (sz : Nat) (σ : gS) (z : Int32 × gS), F σ = some z →
    Met l y (Cond.code y cc nL rt :: TB) (gR L) (va_Pc (av ad) (fun U => U.heap.size = sz ∧ gPre D cy ad (gW cy Z ad σ) (va_A (gW cy Z ad σ) sz) U)) (gQ rt (gB D cy Z ad) (va_A (gW cy Z ad σ) sz) z) 0 0 (va_A (gW cy Z ad σ) sz)
def gJ (p : Program) (l : Launch) (e : Env) (R : Room) (s : State) (m : MethodId) (args : Array Value) (below : List Frame) (meth : Method) (c : Code) (Q : State → Prop) (A : Nat → Prop) (nL : Nat) (D : va_G) (cy : Nat → ClassId) (Z : List gH) (ad : Nat → Nat) (nc ns : Nat) (pc : Nat) (ls : List (Nat × Value)) (st : List Value) (σ : gS) : Prop :=
  ∀ (H : Heap) (locs : List Loc) (la : Array Slot), va_P D vwCl (gW cy Z ad σ) H → va_D A (gW cy Z ad σ) → va_S A s.heap H locs → lv_has la nL ls → W p l e R s m args below meth c H locs nc ns Q (F0 m pc la st)
/-- g is a good judgement of a method's body: its instructions, class, layout, room; Q is the end -/
def gOkQ (g : Nat → List (Nat × Value) → List Value → gS → Prop) (T : List (Nat × Instr × Nat)) (own : String) (nL : Nat) (rt : Option FieldType) (R : Room) (Z : List gH) (ad : Nat → Nat) (nc ns : Nat) (E : (p : Program) → (l : Launch) → (e : Env) → (s : State) → (m : MethodId) → (args : Array Value) → (below : List Frame) → (meth : Method) → (c : Code) → (A : Nat → Prop) → (D : va_G) → (cy : Nat → ClassId) → (Q : State → Prop) → Prop) : Prop :=
  ∃ (p : Program) (l : Launch) (e : Env) (s : State) (m : MethodId) (args : Array Value) (below : List Frame) (meth : Method) (c : Code) (A : Nat → Prop) (D : va_G) (cy : Nat → ClassId) (Q : State → Prop),
    p.tables.exec = Jvm.exec ∧ (∀ (j pc : Nat) (i : Instr) (n : Nat), T[j]? = some (pc, i, n) → decode c.code pc = .ok (i, n)) ∧ meth.sig.returnType = rt ∧ c.maxLocals = nL ∧ s.vm.findClass own = some m.cls ∧ (∀ w ∈ TB, w.before args s = true) ∧ meth.locks = false ∧ va_K D vwCl (gTy cy) s ∧ (∀ q, s.heap.size ≤ q → A q) ∧ gY A ad s ∧ E p l e s m args below meth c A D cy Q ∧ nc ≤ R.cells ∧ ns ≤ R.slots ∧
    g = gJ p l e R s m args below meth c Q A nL D cy Z ad nc ns
abbrev gOk (g : Nat → List (Nat × Value) → List Value → gS → Prop) (T : List (Nat × Instr × Nat)) (own : String) (nL : Nat) (rt : Option FieldType) (L : Nat) (Z : List gH) (ad : Nat → Nat) (z : Int32 × gS) : Prop :=
  gOkQ g T own nL rt (gR L) Z ad 0 0 (fun _ _ _ s _ args below _ _ A D cy Q => Q = MQ below (gQ rt (gB D cy Z ad) A z) args s 0 0 A)
def gTb (cc : ByteArray) (T : List (Nat × Instr × Nat)) : Bool := T.all (fun q => decide (decode cc q.1 = .ok q.2))
theorem gTb_ok {cc : ByteArray} {T : List (Nat × Instr × Nat)} (h : gTb cc T = true) (j pc : Nat) (i : Instr) (n : Nat) (hj : T[j]? = some (pc, i, n)) : decode cc pc = .ok (i, n) :=
  of_decide_eq_true (List.all_eq_true.mp h (pc, i, n) (List.mem_of_getElem? hj))
theorem gMet_intro {y : MethodName} {cc : ByteArray} {nL : Nat} {rt : Option FieldType} {L : Nat} {Z : List gH} {av : (Nat → Nat) → List Value} {F : gS → Option (Int32 × gS)} (T : List (Nat × Instr × Nat)) (hT : gTb cc T = true) (hy : plainName y.cls = true) (hn : ∀ ad, (lg_sl (av ad)).length ≤ nL)
    (body : ∀ (g : Nat → List (Nat × Value) → List Value → gS → Prop) (ad : Nat → Nat) (σ : gS) (z : Int32 × gS), gOk g T y.cls nL rt L Z ad z → F σ = some z → g 0 (lv_args 0 (av ad)) [] σ) : gMet y cc nL rt L Z av F := by
  intro l D cy ad sz σ z hF
  refine Met.ofW (cc := cc) (maxL := nL) (ret := rt) hy rfl ?_
  intro p e s m args below meth c s₁ B hml hv
  obtain ⟨rfl, hsz, hP, hK, hD0, hY⟩ := hv
  subst hsz
  have hts := atoms_spec (ws := Cond.code y cc nL rt :: TB) B.pre
  have hown : s.vm.findClass y.cls = some m.cls := findClass_of_methodNamed B.named
  have hD := hD0.self (sz := s.heap.size)
  have hl := lv_entry (av ad) (n := nL) (hn ad)
  rw [lg_entry_eq]
  have hTT : ∀ (j pc : Nat) (i : Instr) (n : Nat), T[j]? = some (pc, i, n) → decode c.code pc = .ok (i, n) := by
    rw [B.bytes]; exact gTb_ok hT
  exact body _ ad σ z ⟨p, l, e, s, m, _, below, meth, c, va_A (gW cy Z ad σ) s.heap.size, D, cy, _, B.exec, hTT, B.returns, hml, hown, fun w hw => hts w (List.mem_cons_of_mem _ hw), B.notSynchronized, hK, fun q h => Or.inr h, hY, rfl, Nat.le_refl _, Nat.le_refl _, rfl⟩ hF _ _ _ hP hD va_S.rf hl
end
section
/-! ===== words of the functions that a program writes out of the bytecode ===== -/
abbrev nn (x : Int32) : Nat := x.toNatClampNeg
def mIn {α : Type} (n : Nat) (x : Int32) (a : Option α) : Option α := if ¬ (x < 0 ∨ n ≤ nn x) then a else none
def mLet {α β : Type} (a : α) (f : α → β) : β := f a
def mCall {α β : Type} (a : Option (β × gS)) (f : β → gS → Option α) : Option α := match a with
  | none => none
  | some q => f q.1 q.2
def mNz {α : Type} (y : Int32) (a : Option α) : Option α := if y = 0 then none else a
def mZ (v : Int32) (σ : gS) : Option (Int32 × gS) := if v = 0 ∨ v = 1 then some (v, σ) else none
def mRem (x y : Int32) : Int32 := x - x / y * y
def mUsr (x y : Int32) : Int32 := (x.toUInt32 >>> (y.toUInt32 &&& Int32.toUInt32 31)).toInt32
def mMin (x y : Int32) : Int32 := if y < x then y else x
def mMax (x y : Int32) : Int32 := if x < y then y else x
def mAbs (x : Int32) : Int32 := if 0 ≤ x then x else 0 - x
def mSome {α β : Type} (o : Option β) (f : β → Option α) : Option α := match o with
  | none => none
  | some c => f c
/-- System.arraycopy of ints, from the cell a (length n0) to the cell b (length n1) -/
def mCopy {α : Type} (n0 n1 : Nat) (σ : gS) (a : Nat) (sp : Int32) (b : Nat) (dp n : Int32) (f : gS → Option α) : Option α :=
  if ¬ sp < 0 ∧ ¬ dp < 0 ∧ ¬ n < 0 ∧ nn sp + nn n ≤ n0 ∧ nn dp + nn n ≤ n1 then f (gp σ b (va_cpy (σ a) (σ b) (nn sp) (nn dp) (nn n))) else none
/-- a field reference of the class own: the class number and the slot; its link stands among the words -/
def gFl (own : String) (index ci k : Nat) : Prop := ∃ (C : String) (T : u_T) (N : Nat), vwCl[ci]? = some (C, T, N) ∧ k < N ∧ (∀ w ∈ u_ws C T N, w ∈ TB) ∧ (Cond.fieldLink own index (T k).1 (T k).2.1 (T k).2.2.1 ∈ TB ∨ ∃ host, Cond.fieldLinkNest own index (T k).1 (T k).2.1 (T k).2.2.1 host ∈ NW)
def gFp (own : String) (index ci k : Nat) (ty : FieldType) : Prop := ∃ (C : String) (T : u_T) (N : Nat), vwCl[ci]? = some (C, T, N) ∧ k < N ∧ (∀ w ∈ u_ws C T N, w ∈ TB) ∧ (∃ ty0 : Nat → FieldType, ∀ k, k < N → parseFieldDescriptor (T k).2.2.1 = some (ty0 k)) ∧ (∀ a, a < N → ∀ b, b < N → a ≠ b → (T a).2.1 ≠ (T b).2.1) ∧ (T k).2.2.2 = false ∧ parseFieldDescriptor (T k).2.2.1 = some ty ∧ (Cond.fieldLink own index (T k).1 (T k).2.1 (T k).2.2.1 ∈ TB ∨ ∃ host, Cond.fieldLinkNest own index (T k).1 (T k).2.1 (T k).2.2.1 host ∈ NW)
/-- a method's words, and those of a link to it -/
def gCw (y : MethodName) (cc : ByteArray) (nL : Nat) (rt : Option FieldType) (n : Nat) : Prop := Cond.code y cc nL rt ∈ TB ∧ Cond.initialized y.cls ∈ TB ∧ (y.cls ≠ "java/lang/invoke/MethodHandle" ∧ y.cls ≠ "java/lang/invoke/VarHandle" ∧ (parseMethodDescriptor y.desc).map (fun d => d.parameters.length) = some n)
def gCi (y : MethodName) : Prop := Cond.instanceMethod y ∈ TB ∧ Cond.selects y.cls y y ∈ TB
def gCs (y : MethodName) : Prop := Cond.static y ∈ TB
def gCn (own : String) (index : Nat) (y : MethodName) : Prop := Cond.methodLink own index y ∈ TB ∨ ∃ host, Cond.methodLinkNest own index y host ∈ NW
theorem h_in {α : Type} {x : Int32} {n : Nat} {a : Option α} {z : α} (h : mIn n x a = some z) : vp_in x n ∧ a = some z := by
  unfold mIn at h
  by_cases hc : ¬ (x < 0 ∨ n ≤ nn x)
  · rw [if_pos hc] at h
    exact ⟨hc, h⟩
  · rw [if_neg hc] at h
    cases h
section
variable {g : Nat → List (Nat × Value) → List Value → gS → Prop} {T : List (Nat × Instr × Nat)} {own : String} {nL : Nat} {rt : Option FieldType} {R : Room} {Z : List gH} {ad : Nat → Nat} {nc ns : Nat} {E : (p : Program) → (l : Launch) → (e : Env) → (s : State) → (m : MethodId) → (args : Array Value) → (below : List Frame) → (meth : Method) → (c : Code) → (A : Nat → Prop) → (D : va_G) → (cy : Nat → ClassId) → (Q : State → Prop) → Prop} {pc : Nat} {ls : List (Nat × Value)} {st : List Value} {σ : gS} {α : Type} {z : α}
theorem g_iconst (C : gOkQ g T own nL rt R Z ad nc ns E) (j : Nat) {n : Int} {v : Int32} (hd : T[j]? = some (pc, .iconst n, 1)) (hv : Int32.ofInt n = v) (k : g (pc + 1) ls (.int v :: st) σ) : g pc ls st σ := by
  obtain ⟨p, l, e, s, m, args, below, meth, c, A, D, cy, Q, hx, hT, hr, hml, hown, hts, hlk, hK, hA, hY, hE, hnc, hns, rfl⟩ := C
  intro H locs la hP hD hS hl
  exact lv_iconst hx rfl (hT j _ _ _ hd) hv (k H locs la hP hD hS hl)
theorem g_bipush (C : gOkQ g T own nL rt R Z ad nc ns E) (j : Nat) {n : Int} {v : Int32} (hd : T[j]? = some (pc, .bipush n, 2)) (hv : (Int8.ofInt n).toInt32 = v) (k : g (pc + 2) ls (.int v :: st) σ) : g pc ls st σ := by
  obtain ⟨p, l, e, s, m, args, below, meth, c, A, D, cy, Q, hx, hT, hr, hml, hown, hts, hlk, hK, hA, hY, hE, hnc, hns, rfl⟩ := C
  intro H locs la hP hD hS hl
  exact lv_bipush hx rfl (hT j _ _ _ hd) hv (k H locs la hP hD hS hl)
theorem g_sipush (C : gOkQ g T own nL rt R Z ad nc ns E) (j : Nat) {n : Int} {v : Int32} (hd : T[j]? = some (pc, .sipush n, 3)) (hv : (Int16.ofInt n).toInt32 = v) (k : g (pc + 3) ls (.int v :: st) σ) : g pc ls st σ := by
  obtain ⟨p, l, e, s, m, args, below, meth, c, A, D, cy, Q, hx, hT, hr, hml, hown, hts, hlk, hK, hA, hY, hE, hnc, hns, rfl⟩ := C
  intro H locs la hP hD hS hl
  exact lv_sipush hx rfl (hT j _ _ _ hd) hv (k H locs la hP hD hS hl)
theorem g_ldc (C : gOkQ g T own nL rt R Z ad nc ns E) (j : Nat) {index : Nat} {v : Int32} (hd : T[j]? = some (pc, .ldc index, 2)) (hw : Cond.constant own index v ∈ TB) (k : g (pc + 2) ls (.int v :: st) σ) : g pc ls st σ := by
  obtain ⟨p, l, e, s, m, args, below, meth, c, A, D, cy, Q, hx, hT, hr, hml, hown, hts, hlk, hK, hA, hY, hE, hnc, hns, rfl⟩ := C
  intro H locs la hP hD hS hl
  exact lv_ldc hx rfl hown (hts _ hw) (hT j _ _ _ hd) (k H locs la hP hD hS hl)
theorem g_ldcw (C : gOkQ g T own nL rt R Z ad nc ns E) (j : Nat) {index : Nat} {v : Int32} (hd : T[j]? = some (pc, .ldc_w index, 3)) (hw : Cond.constant own index v ∈ TB) (k : g (pc + 3) ls (.int v :: st) σ) : g pc ls st σ := by
  obtain ⟨p, l, e, s, m, args, below, meth, c, A, D, cy, Q, hx, hT, hr, hml, hown, hts, hlk, hK, hA, hY, hE, hnc, hns, rfl⟩ := C
  intro H locs la hP hD hS hl
  exact lv_ldcw hx rfl hown (hts _ hw) (hT j _ _ _ hd) (k H locs la hP hD hS hl)
theorem g_iload (C : gOkQ g T own nL rt R Z ad nc ns E) (j : Nat) {i : Nat} {x : Int32} (q : Nat) (hd : T[j]? = some (pc, .iload i, 2)) (hj : ls[q]? = some (i, .int x)) (k : g (pc + 2) ls (.int x :: st) σ) : g pc ls st σ := by
  obtain ⟨p, l, e, s, m, args, below, meth, c, A, D, cy, Q, hx, hT, hr, hml, hown, hts, hlk, hK, hA, hY, hE, hnc, hns, rfl⟩ := C
  intro H locs la hP hD hS hl
  exact lv_iload hx rfl (hT j _ _ _ hd) (lv_at hl q hj) (k H locs la hP hD hS hl)
theorem g_iload_n (C : gOkQ g T own nL rt R Z ad nc ns E) (j : Nat) {i : Fin 4} {x : Int32} (q : Nat) (hd : T[j]? = some (pc, .iload_n i, 1)) (hj : ls[q]? = some (i.val, .int x)) (k : g (pc + 1) ls (.int x :: st) σ) : g pc ls st σ := by
  obtain ⟨p, l, e, s, m, args, below, meth, c, A, D, cy, Q, hx, hT, hr, hml, hown, hts, hlk, hK, hA, hY, hE, hnc, hns, rfl⟩ := C
  intro H locs la hP hD hS hl
  exact lv_iload_n hx rfl (hT j _ _ _ hd) rfl (lv_at hl q hj) (k H locs la hP hD hS hl)
theorem g_istore (C : gOkQ g T own nL rt R Z ad nc ns E) (j : Nat) {i : Nat} {x : Int32} (ls2 : List (Nat × Value)) (hd : T[j]? = some (pc, .istore i, 2)) (hi : i < nL) (h2 : (i, Value.int x) :: ls.filter (fun q => !(q.1 == i) && !(q.1 + 1 == i && q.2.category == 2)) = ls2) (k : g (pc + 2) ls2 st σ) : g pc ls (.int x :: st) σ := by
  obtain ⟨p, l, e, s, m, args, below, meth, c, A, D, cy, Q, hx, hT, hr, hml, hown, hts, hlk, hK, hA, hY, hE, hnc, hns, rfl⟩ := C
  intro H locs la hP hD hS hl
  exact lv_istore hx rfl (hT j _ _ _ hd) hl hi h2 (fun la2 hl2 => k H locs la2 hP hD hS hl2)
theorem g_istore_n (C : gOkQ g T own nL rt R Z ad nc ns E) (j : Nat) {i : Fin 4} {x : Int32} (ls2 : List (Nat × Value)) (hd : T[j]? = some (pc, .istore_n i, 1)) (hi : i.val < nL) (h2 : (i.val, Value.int x) :: ls.filter (fun q => !(q.1 == i.val) && !(q.1 + 1 == i.val && q.2.category == 2)) = ls2) (k : g (pc + 1) ls2 st σ) : g pc ls (.int x :: st) σ := by
  obtain ⟨p, l, e, s, m, args, below, meth, c, A, D, cy, Q, hx, hT, hr, hml, hown, hts, hlk, hK, hA, hY, hE, hnc, hns, rfl⟩ := C
  intro H locs la hP hD hS hl
  exact lv_istore_n hx rfl (hT j _ _ _ hd) rfl hl hi h2 (fun la2 hl2 => k H locs la2 hP hD hS hl2)
theorem g_aload (C : gOkQ g T own nL rt R Z ad nc ns E) (j : Nat) {i : Nat} {x : Nat} (q : Nat) (hd : T[j]? = some (pc, .aload i, 2)) (hj : ls[q]? = some (i, .ref x)) (k : g (pc + 2) ls (.ref x :: st) σ) : g pc ls st σ := by
  obtain ⟨p, l, e, s, m, args, below, meth, c, A, D, cy, Q, hx, hT, hr, hml, hown, hts, hlk, hK, hA, hY, hE, hnc, hns, rfl⟩ := C
  intro H locs la hP hD hS hl
  exact lv_aload hx rfl (hT j _ _ _ hd) (lv_at hl q hj) (k H locs la hP hD hS hl)
theorem g_aload_n (C : gOkQ g T own nL rt R Z ad nc ns E) (j : Nat) {i : Fin 4} {x : Nat} (q : Nat) (hd : T[j]? = some (pc, .aload_n i, 1)) (hj : ls[q]? = some (i.val, .ref x)) (k : g (pc + 1) ls (.ref x :: st) σ) : g pc ls st σ := by
  obtain ⟨p, l, e, s, m, args, below, meth, c, A, D, cy, Q, hx, hT, hr, hml, hown, hts, hlk, hK, hA, hY, hE, hnc, hns, rfl⟩ := C
  intro H locs la hP hD hS hl
  exact lv_aload_n hx rfl (hT j _ _ _ hd) rfl (lv_at hl q hj) (k H locs la hP hD hS hl)
theorem g_astore (C : gOkQ g T own nL rt R Z ad nc ns E) (j : Nat) {i : Nat} {x : Nat} (ls2 : List (Nat × Value)) (hd : T[j]? = some (pc, .astore i, 2)) (hi : i < nL) (h2 : (i, Value.ref x) :: ls.filter (fun q => !(q.1 == i) && !(q.1 + 1 == i && q.2.category == 2)) = ls2) (k : g (pc + 2) ls2 st σ) : g pc ls (.ref x :: st) σ := by
  obtain ⟨p, l, e, s, m, args, below, meth, c, A, D, cy, Q, hx, hT, hr, hml, hown, hts, hlk, hK, hA, hY, hE, hnc, hns, rfl⟩ := C
  intro H locs la hP hD hS hl
  exact lv_astore hx rfl (hT j _ _ _ hd) hl hi h2 (fun la2 hl2 => k H locs la2 hP hD hS hl2)
theorem g_astore_n (C : gOkQ g T own nL rt R Z ad nc ns E) (j : Nat) {i : Fin 4} {x : Nat} (ls2 : List (Nat × Value)) (hd : T[j]? = some (pc, .astore_n i, 1)) (hi : i.val < nL) (h2 : (i.val, Value.ref x) :: ls.filter (fun q => !(q.1 == i.val) && !(q.1 + 1 == i.val && q.2.category == 2)) = ls2) (k : g (pc + 1) ls2 st σ) : g pc ls (.ref x :: st) σ := by
  obtain ⟨p, l, e, s, m, args, below, meth, c, A, D, cy, Q, hx, hT, hr, hml, hown, hts, hlk, hK, hA, hY, hE, hnc, hns, rfl⟩ := C
  intro H locs la hP hD hS hl
  exact lv_astore_n hx rfl (hT j _ _ _ hd) rfl hl hi h2 (fun la2 hl2 => k H locs la2 hP hD hS hl2)
theorem g_iinc (C : gOkQ g T own nL rt R Z ad nc ns E) (j : Nat) {i : Nat} {n : Int} {x : Int32} (q : Nat) (v : Int32) (ls2 : List (Nat × Value)) (hd : T[j]? = some (pc, .iinc i n, 3)) (hj : ls[q]? = some (i, .int x)) (hi : i < nL) (hv : x + Int32.ofInt n = v) (h2 : (i, Value.int v) :: ls.filter (fun q => !(q.1 == i) && !(q.1 + 1 == i && q.2.category == 2)) = ls2) (k : g (pc + 3) ls2 st σ) : g pc ls st σ := by
  obtain ⟨p, l, e, s, m, args, below, meth, c, A, D, cy, Q, hx, hT, hr, hml, hown, hts, hlk, hK, hA, hY, hE, hnc, hns, rfl⟩ := C
  intro H locs la hP hD hS hl
  exact lv_iinc hx rfl (hT j _ _ _ hd) hl hj hv hi h2 (fun la2 hl2 => k H locs la2 hP hD hS hl2)
theorem g_iadd (C : gOkQ g T own nL rt R Z ad nc ns E) (j : Nat) {x y : Int32} (hd : T[j]? = some (pc, .iadd, 1)) (k : g (pc + 1) ls (.int (x + y) :: st) σ) : g pc ls (.int y :: .int x :: st) σ := by
  obtain ⟨p, l, e, s, m, args, below, meth, c, A, D, cy, Q, hx, hT, hr, hml, hown, hts, hlk, hK, hA, hY, hE, hnc, hns, rfl⟩ := C
  intro H locs la hP hD hS hl
  exact lv_iadd hx rfl (hT j _ _ _ hd) (k H locs la hP hD hS hl)
theorem g_isub (C : gOkQ g T own nL rt R Z ad nc ns E) (j : Nat) {x y : Int32} (hd : T[j]? = some (pc, .isub, 1)) (k : g (pc + 1) ls (.int (x - y) :: st) σ) : g pc ls (.int y :: .int x :: st) σ := by
  obtain ⟨p, l, e, s, m, args, below, meth, c, A, D, cy, Q, hx, hT, hr, hml, hown, hts, hlk, hK, hA, hY, hE, hnc, hns, rfl⟩ := C
  intro H locs la hP hD hS hl
  exact lv_isub hx rfl (hT j _ _ _ hd) (k H locs la hP hD hS hl)
theorem g_imul (C : gOkQ g T own nL rt R Z ad nc ns E) (j : Nat) {x y : Int32} (hd : T[j]? = some (pc, .imul, 1)) (k : g (pc + 1) ls (.int (x * y) :: st) σ) : g pc ls (.int y :: .int x :: st) σ := by
  obtain ⟨p, l, e, s, m, args, below, meth, c, A, D, cy, Q, hx, hT, hr, hml, hown, hts, hlk, hK, hA, hY, hE, hnc, hns, rfl⟩ := C
  intro H locs la hP hD hS hl
  exact lv_imul hx rfl (hT j _ _ _ hd) (k H locs la hP hD hS hl)
theorem g_iand (C : gOkQ g T own nL rt R Z ad nc ns E) (j : Nat) {x y : Int32} (hd : T[j]? = some (pc, .iand, 1)) (k : g (pc + 1) ls (.int (x &&& y) :: st) σ) : g pc ls (.int y :: .int x :: st) σ := by
  obtain ⟨p, l, e, s, m, args, below, meth, c, A, D, cy, Q, hx, hT, hr, hml, hown, hts, hlk, hK, hA, hY, hE, hnc, hns, rfl⟩ := C
  intro H locs la hP hD hS hl
  exact lv_iand hx rfl (hT j _ _ _ hd) (k H locs la hP hD hS hl)
theorem g_ior (C : gOkQ g T own nL rt R Z ad nc ns E) (j : Nat) {x y : Int32} (hd : T[j]? = some (pc, .ior, 1)) (k : g (pc + 1) ls (.int (x ||| y) :: st) σ) : g pc ls (.int y :: .int x :: st) σ := by
  obtain ⟨p, l, e, s, m, args, below, meth, c, A, D, cy, Q, hx, hT, hr, hml, hown, hts, hlk, hK, hA, hY, hE, hnc, hns, rfl⟩ := C
  intro H locs la hP hD hS hl
  exact lv_ior hx rfl (hT j _ _ _ hd) (k H locs la hP hD hS hl)
theorem g_ixor (C : gOkQ g T own nL rt R Z ad nc ns E) (j : Nat) {x y : Int32} (hd : T[j]? = some (pc, .ixor, 1)) (k : g (pc + 1) ls (.int (x ^^^ y) :: st) σ) : g pc ls (.int y :: .int x :: st) σ := by
  obtain ⟨p, l, e, s, m, args, below, meth, c, A, D, cy, Q, hx, hT, hr, hml, hown, hts, hlk, hK, hA, hY, hE, hnc, hns, rfl⟩ := C
  intro H locs la hP hD hS hl
  exact lv_ixor hx rfl (hT j _ _ _ hd) (k H locs la hP hD hS hl)
theorem g_ishl (C : gOkQ g T own nL rt R Z ad nc ns E) (j : Nat) {x y : Int32} (hd : T[j]? = some (pc, .ishl, 1)) (k : g (pc + 1) ls (.int (x <<< (y &&& 31)) :: st) σ) : g pc ls (.int y :: .int x :: st) σ := by
  obtain ⟨p, l, e, s, m, args, below, meth, c, A, D, cy, Q, hx, hT, hr, hml, hown, hts, hlk, hK, hA, hY, hE, hnc, hns, rfl⟩ := C
  intro H locs la hP hD hS hl
  exact lv_ishl hx rfl (hT j _ _ _ hd) (k H locs la hP hD hS hl)
theorem g_ishr (C : gOkQ g T own nL rt R Z ad nc ns E) (j : Nat) {x y : Int32} (hd : T[j]? = some (pc, .ishr, 1)) (k : g (pc + 1) ls (.int (x >>> (y &&& 31)) :: st) σ) : g pc ls (.int y :: .int x :: st) σ := by
  obtain ⟨p, l, e, s, m, args, below, meth, c, A, D, cy, Q, hx, hT, hr, hml, hown, hts, hlk, hK, hA, hY, hE, hnc, hns, rfl⟩ := C
  intro H locs la hP hD hS hl
  exact lv_ishr hx rfl (hT j _ _ _ hd) (k H locs la hP hD hS hl)
theorem g_iushr (C : gOkQ g T own nL rt R Z ad nc ns E) (j : Nat) {x y : Int32} (hd : T[j]? = some (pc, .iushr, 1)) (k : g (pc + 1) ls (.int (mUsr x y) :: st) σ) : g pc ls (.int y :: .int x :: st) σ := by
  obtain ⟨p, l, e, s, m, args, below, meth, c, A, D, cy, Q, hx, hT, hr, hml, hown, hts, hlk, hK, hA, hY, hE, hnc, hns, rfl⟩ := C
  intro H locs la hP hD hS hl
  exact lv_iushr hx rfl (hT j _ _ _ hd) rfl (k H locs la hP hD hS hl)
theorem g_idivK (C : gOkQ g T own nL rt R Z ad nc ns E) (j : Nat) {x y : Int32} (hd : T[j]? = some (pc, .idiv, 1)) (hne : ¬ y = 0) (k : g (pc + 1) ls (.int (x / y) :: st) σ) : g pc ls (.int y :: .int x :: st) σ := by
  obtain ⟨p, l, e, s, m, args, below, meth, c, A, D, cy, Q, hx, hT, hr, hml, hown, hts, hlk, hK, hA, hY, hE, hnc, hns, rfl⟩ := C
  intro H locs la hP hD hS hl
  exact lv_idiv hx rfl (hT j _ _ _ hd) hne (k H locs la hP hD hS hl)
theorem g_iremK (C : gOkQ g T own nL rt R Z ad nc ns E) (j : Nat) {x y : Int32} (hd : T[j]? = some (pc, .irem, 1)) (hne : ¬ y = 0) (k : g (pc + 1) ls (.int (mRem x y) :: st) σ) : g pc ls (.int y :: .int x :: st) σ := by
  obtain ⟨p, l, e, s, m, args, below, meth, c, A, D, cy, Q, hx, hT, hr, hml, hown, hts, hlk, hK, hA, hY, hE, hnc, hns, rfl⟩ := C
  intro H locs la hP hD hS hl
  exact lv_irem hx rfl (hT j _ _ _ hd) hne (k H locs la hP hD hS hl)
theorem g_idiv (C : gOkQ g T own nL rt R Z ad nc ns E) (j : Nat) {x y : Int32} {a : Option α} (hd : T[j]? = some (pc, .idiv, 1)) (h : mNz y a = some z) (k : a = some z → g (pc + 1) ls (.int (x / y) :: st) σ) : g pc ls (.int y :: .int x :: st) σ := by
  obtain ⟨p, l, e, s, m, args, below, meth, c, A, D, cy, Q, hx, hT, hr, hml, hown, hts, hlk, hK, hA, hY, hE, hnc, hns, rfl⟩ := C
  intro H locs la hP hD hS hl
  unfold mNz at h
  by_cases hne : y = 0
  · rw [if_pos hne] at h; cases h
  · rw [if_neg hne] at h
    exact lv_idiv hx rfl (hT j _ _ _ hd) hne (k h H locs la hP hD hS hl)
theorem g_irem (C : gOkQ g T own nL rt R Z ad nc ns E) (j : Nat) {x y : Int32} {a : Option α} (hd : T[j]? = some (pc, .irem, 1)) (h : mNz y a = some z) (k : a = some z → g (pc + 1) ls (.int (mRem x y) :: st) σ) : g pc ls (.int y :: .int x :: st) σ := by
  obtain ⟨p, l, e, s, m, args, below, meth, c, A, D, cy, Q, hx, hT, hr, hml, hown, hts, hlk, hK, hA, hY, hE, hnc, hns, rfl⟩ := C
  intro H locs la hP hD hS hl
  unfold mNz at h
  by_cases hne : y = 0
  · rw [if_pos hne] at h; cases h
  · rw [if_neg hne] at h
    exact lv_irem hx rfl (hT j _ _ _ hd) hne (k h H locs la hP hD hS hl)
theorem g_ineg (C : gOkQ g T own nL rt R Z ad nc ns E) (j : Nat) {x : Int32} (hd : T[j]? = some (pc, .ineg, 1)) (k : g (pc + 1) ls (.int (-x) :: st) σ) : g pc ls (.int x :: st) σ := by
  obtain ⟨p, l, e, s, m, args, below, meth, c, A, D, cy, Q, hx, hT, hr, hml, hown, hts, hlk, hK, hA, hY, hE, hnc, hns, rfl⟩ := C
  intro H locs la hP hD hS hl
  exact lv_ineg hx rfl (hT j _ _ _ hd) (k H locs la hP hD hS hl)
theorem g_i2s (C : gOkQ g T own nL rt R Z ad nc ns E) (j : Nat) {x : Int32} (hd : T[j]? = some (pc, .i2s, 1)) (k : g (pc + 1) ls (.int x.toInt16.toInt32 :: st) σ) : g pc ls (.int x :: st) σ := by
  obtain ⟨p, l, e, s, m, args, below, meth, c, A, D, cy, Q, hx, hT, hr, hml, hown, hts, hlk, hK, hA, hY, hE, hnc, hns, rfl⟩ := C
  intro H locs la hP hD hS hl
  exact lv_i2s hx rfl (hT j _ _ _ hd) rfl (k H locs la hP hD hS hl)
theorem g_i2c (C : gOkQ g T own nL rt R Z ad nc ns E) (j : Nat) {x : Int32} (hd : T[j]? = some (pc, .i2c, 1)) (k : g (pc + 1) ls (.int (x.toUInt32 % 65536).toInt32 :: st) σ) : g pc ls (.int x :: st) σ := by
  obtain ⟨p, l, e, s, m, args, below, meth, c, A, D, cy, Q, hx, hT, hr, hml, hown, hts, hlk, hK, hA, hY, hE, hnc, hns, rfl⟩ := C
  intro H locs la hP hD hS hl
  exact lv_i2c hx rfl (hT j _ _ _ hd) rfl (k H locs la hP hD hS hl)
theorem g_dup (C : gOkQ g T own nL rt R Z ad nc ns E) (j : Nat) {v : Value} (hd : T[j]? = some (pc, .dup, 1)) (hc : v.category = 1) (k : g (pc + 1) ls (v :: v :: st) σ) : g pc ls (v :: st) σ := by
  obtain ⟨p, l, e, s, m, args, below, meth, c, A, D, cy, Q, hx, hT, hr, hml, hown, hts, hlk, hK, hA, hY, hE, hnc, hns, rfl⟩ := C
  intro H locs la hP hD hS hl
  exact lv_dup hx rfl (hT j _ _ _ hd) hc (k H locs la hP hD hS hl)
theorem g_dup2 (C : gOkQ g T own nL rt R Z ad nc ns E) (j : Nat) {v w : Value} (hd : T[j]? = some (pc, .dup2, 1)) (hv : v.category = 1) (hw : w.category = 1) (k : g (pc + 1) ls (v :: w :: v :: w :: st) σ) : g pc ls (v :: w :: st) σ := by
  obtain ⟨p, l, e, s, m, args, below, meth, c, A, D, cy, Q, hx, hT, hr, hml, hown, hts, hlk, hK, hA, hY, hE, hnc, hns, rfl⟩ := C
  intro H locs la hP hD hS hl
  exact lv_dup2_11 hx rfl (hT j _ _ _ hd) hv hw (k H locs la hP hD hS hl)
theorem g_pop (C : gOkQ g T own nL rt R Z ad nc ns E) (j : Nat) {v : Value} (hd : T[j]? = some (pc, .pop, 1)) (hc : v.category = 1) (k : g (pc + 1) ls st σ) : g pc ls (v :: st) σ := by
  obtain ⟨p, l, e, s, m, args, below, meth, c, A, D, cy, Q, hx, hT, hr, hml, hown, hts, hlk, hK, hA, hY, hE, hnc, hns, rfl⟩ := C
  intro H locs la hP hD hS hl
  exact lv_pop hx rfl (hT j _ _ _ hd) hc (k H locs la hP hD hS hl)
theorem g_if_eq (C : gOkQ g T own nL rt R Z ad nc ns E) (j : Nat) {x : Int32} {off : Int} (tgt : Nat) (hd : T[j]? = some (pc, .ifCond .eq off, 3)) (ht : (pc : Int) + off = (tgt : Int)) {a b : Option α} [inst : Decidable (x = 0)] (h : (@ite (Option α) (x = 0) inst a b) = some z) (kt : a = some z → g tgt ls st σ) (kf : b = some z → g (pc + 3) ls st σ) : g pc ls (.int x :: st) σ := by
  obtain ⟨p, l, e, s, m, args, below, meth, c, A, D, cy, Q, hx, hT, hr, hml, hown, hts, hlk, hK, hA, hY, hE, hnc, hns, rfl⟩ := C
  intro H locs la hP hD hS hl
  exact lv_if_eq hx rfl (hT j _ _ _ hd) ht (fun hc => kt (by rw [if_pos hc] at h; exact h) H locs la hP hD hS hl) (fun hc => kf (by rw [if_neg hc] at h; exact h) H locs la hP hD hS hl)
theorem g_icmp_eq (C : gOkQ g T own nL rt R Z ad nc ns E) (j : Nat) {x y : Int32} {off : Int} (tgt : Nat) (hd : T[j]? = some (pc, .if_icmp .eq off, 3)) (ht : (pc : Int) + off = (tgt : Int)) {a b : Option α} [inst : Decidable (x = y)] (h : (@ite (Option α) (x = y) inst a b) = some z) (kt : a = some z → g tgt ls st σ) (kf : b = some z → g (pc + 3) ls st σ) : g pc ls (.int y :: .int x :: st) σ := by
  obtain ⟨p, l, e, s, m, args, below, meth, c, A, D, cy, Q, hx, hT, hr, hml, hown, hts, hlk, hK, hA, hY, hE, hnc, hns, rfl⟩ := C
  intro H locs la hP hD hS hl
  exact lv_icmp_eq hx rfl (hT j _ _ _ hd) ht (fun hc => kt (by rw [if_pos hc] at h; exact h) H locs la hP hD hS hl) (fun hc => kf (by rw [if_neg hc] at h; exact h) H locs la hP hD hS hl)
theorem g_if_ne (C : gOkQ g T own nL rt R Z ad nc ns E) (j : Nat) {x : Int32} {off : Int} (tgt : Nat) (hd : T[j]? = some (pc, .ifCond .ne off, 3)) (ht : (pc : Int) + off = (tgt : Int)) {a b : Option α} [inst : Decidable (x = 0)] (h : (@ite (Option α) (x = 0) inst a b) = some z) (kt : b = some z → g tgt ls st σ) (kf : a = some z → g (pc + 3) ls st σ) : g pc ls (.int x :: st) σ := by
  obtain ⟨p, l, e, s, m, args, below, meth, c, A, D, cy, Q, hx, hT, hr, hml, hown, hts, hlk, hK, hA, hY, hE, hnc, hns, rfl⟩ := C
  intro H locs la hP hD hS hl
  exact lv_if_ne hx rfl (hT j _ _ _ hd) ht (fun hc => kt (by rw [if_neg hc] at h; exact h) H locs la hP hD hS hl) (fun hc => kf (by rw [if_pos (by simpa using hc)] at h; exact h) H locs la hP hD hS hl)
theorem g_icmp_ne (C : gOkQ g T own nL rt R Z ad nc ns E) (j : Nat) {x y : Int32} {off : Int} (tgt : Nat) (hd : T[j]? = some (pc, .if_icmp .ne off, 3)) (ht : (pc : Int) + off = (tgt : Int)) {a b : Option α} [inst : Decidable (x = y)] (h : (@ite (Option α) (x = y) inst a b) = some z) (kt : b = some z → g tgt ls st σ) (kf : a = some z → g (pc + 3) ls st σ) : g pc ls (.int y :: .int x :: st) σ := by
  obtain ⟨p, l, e, s, m, args, below, meth, c, A, D, cy, Q, hx, hT, hr, hml, hown, hts, hlk, hK, hA, hY, hE, hnc, hns, rfl⟩ := C
  intro H locs la hP hD hS hl
  exact lv_icmp_ne hx rfl (hT j _ _ _ hd) ht (fun hc => kt (by rw [if_neg hc] at h; exact h) H locs la hP hD hS hl) (fun hc => kf (by rw [if_pos (by simpa using hc)] at h; exact h) H locs la hP hD hS hl)
theorem g_if_lt (C : gOkQ g T own nL rt R Z ad nc ns E) (j : Nat) {x : Int32} {off : Int} (tgt : Nat) (hd : T[j]? = some (pc, .ifCond .lt off, 3)) (ht : (pc : Int) + off = (tgt : Int)) {a b : Option α} [inst : Decidable (x < 0)] (h : (@ite (Option α) (x < 0) inst a b) = some z) (kt : a = some z → g tgt ls st σ) (kf : b = some z → g (pc + 3) ls st σ) : g pc ls (.int x :: st) σ := by
  obtain ⟨p, l, e, s, m, args, below, meth, c, A, D, cy, Q, hx, hT, hr, hml, hown, hts, hlk, hK, hA, hY, hE, hnc, hns, rfl⟩ := C
  intro H locs la hP hD hS hl
  exact lv_if_lt hx rfl (hT j _ _ _ hd) ht (fun hc => kt (by rw [if_pos hc] at h; exact h) H locs la hP hD hS hl) (fun hc => kf (by rw [if_neg hc] at h; exact h) H locs la hP hD hS hl)
theorem g_icmp_lt (C : gOkQ g T own nL rt R Z ad nc ns E) (j : Nat) {x y : Int32} {off : Int} (tgt : Nat) (hd : T[j]? = some (pc, .if_icmp .lt off, 3)) (ht : (pc : Int) + off = (tgt : Int)) {a b : Option α} [inst : Decidable (x < y)] (h : (@ite (Option α) (x < y) inst a b) = some z) (kt : a = some z → g tgt ls st σ) (kf : b = some z → g (pc + 3) ls st σ) : g pc ls (.int y :: .int x :: st) σ := by
  obtain ⟨p, l, e, s, m, args, below, meth, c, A, D, cy, Q, hx, hT, hr, hml, hown, hts, hlk, hK, hA, hY, hE, hnc, hns, rfl⟩ := C
  intro H locs la hP hD hS hl
  exact lv_icmp_lt hx rfl (hT j _ _ _ hd) ht (fun hc => kt (by rw [if_pos hc] at h; exact h) H locs la hP hD hS hl) (fun hc => kf (by rw [if_neg hc] at h; exact h) H locs la hP hD hS hl)
theorem g_if_ge (C : gOkQ g T own nL rt R Z ad nc ns E) (j : Nat) {x : Int32} {off : Int} (tgt : Nat) (hd : T[j]? = some (pc, .ifCond .ge off, 3)) (ht : (pc : Int) + off = (tgt : Int)) {a b : Option α} [inst : Decidable (0 ≤ x)] (h : (@ite (Option α) (0 ≤ x) inst a b) = some z) (kt : a = some z → g tgt ls st σ) (kf : b = some z → g (pc + 3) ls st σ) : g pc ls (.int x :: st) σ := by
  obtain ⟨p, l, e, s, m, args, below, meth, c, A, D, cy, Q, hx, hT, hr, hml, hown, hts, hlk, hK, hA, hY, hE, hnc, hns, rfl⟩ := C
  intro H locs la hP hD hS hl
  exact lv_if_ge hx rfl (hT j _ _ _ hd) ht (fun hc => kt (by rw [if_pos hc] at h; exact h) H locs la hP hD hS hl) (fun hc => kf (by rw [if_neg hc] at h; exact h) H locs la hP hD hS hl)
theorem g_icmp_ge (C : gOkQ g T own nL rt R Z ad nc ns E) (j : Nat) {x y : Int32} {off : Int} (tgt : Nat) (hd : T[j]? = some (pc, .if_icmp .ge off, 3)) (ht : (pc : Int) + off = (tgt : Int)) {a b : Option α} [inst : Decidable (y ≤ x)] (h : (@ite (Option α) (y ≤ x) inst a b) = some z) (kt : a = some z → g tgt ls st σ) (kf : b = some z → g (pc + 3) ls st σ) : g pc ls (.int y :: .int x :: st) σ := by
  obtain ⟨p, l, e, s, m, args, below, meth, c, A, D, cy, Q, hx, hT, hr, hml, hown, hts, hlk, hK, hA, hY, hE, hnc, hns, rfl⟩ := C
  intro H locs la hP hD hS hl
  exact lv_icmp_ge hx rfl (hT j _ _ _ hd) ht (fun hc => kt (by rw [if_pos hc] at h; exact h) H locs la hP hD hS hl) (fun hc => kf (by rw [if_neg hc] at h; exact h) H locs la hP hD hS hl)
theorem g_if_gt (C : gOkQ g T own nL rt R Z ad nc ns E) (j : Nat) {x : Int32} {off : Int} (tgt : Nat) (hd : T[j]? = some (pc, .ifCond .gt off, 3)) (ht : (pc : Int) + off = (tgt : Int)) {a b : Option α} [inst : Decidable (0 < x)] (h : (@ite (Option α) (0 < x) inst a b) = some z) (kt : a = some z → g tgt ls st σ) (kf : b = some z → g (pc + 3) ls st σ) : g pc ls (.int x :: st) σ := by
  obtain ⟨p, l, e, s, m, args, below, meth, c, A, D, cy, Q, hx, hT, hr, hml, hown, hts, hlk, hK, hA, hY, hE, hnc, hns, rfl⟩ := C
  intro H locs la hP hD hS hl
  exact lv_if_gt hx rfl (hT j _ _ _ hd) ht (fun hc => kt (by rw [if_pos hc] at h; exact h) H locs la hP hD hS hl) (fun hc => kf (by rw [if_neg hc] at h; exact h) H locs la hP hD hS hl)
theorem g_icmp_gt (C : gOkQ g T own nL rt R Z ad nc ns E) (j : Nat) {x y : Int32} {off : Int} (tgt : Nat) (hd : T[j]? = some (pc, .if_icmp .gt off, 3)) (ht : (pc : Int) + off = (tgt : Int)) {a b : Option α} [inst : Decidable (y < x)] (h : (@ite (Option α) (y < x) inst a b) = some z) (kt : a = some z → g tgt ls st σ) (kf : b = some z → g (pc + 3) ls st σ) : g pc ls (.int y :: .int x :: st) σ := by
  obtain ⟨p, l, e, s, m, args, below, meth, c, A, D, cy, Q, hx, hT, hr, hml, hown, hts, hlk, hK, hA, hY, hE, hnc, hns, rfl⟩ := C
  intro H locs la hP hD hS hl
  exact lv_icmp_gt hx rfl (hT j _ _ _ hd) ht (fun hc => kt (by rw [if_pos hc] at h; exact h) H locs la hP hD hS hl) (fun hc => kf (by rw [if_neg hc] at h; exact h) H locs la hP hD hS hl)
theorem g_if_le (C : gOkQ g T own nL rt R Z ad nc ns E) (j : Nat) {x : Int32} {off : Int} (tgt : Nat) (hd : T[j]? = some (pc, .ifCond .le off, 3)) (ht : (pc : Int) + off = (tgt : Int)) {a b : Option α} [inst : Decidable (x ≤ 0)] (h : (@ite (Option α) (x ≤ 0) inst a b) = some z) (kt : a = some z → g tgt ls st σ) (kf : b = some z → g (pc + 3) ls st σ) : g pc ls (.int x :: st) σ := by
  obtain ⟨p, l, e, s, m, args, below, meth, c, A, D, cy, Q, hx, hT, hr, hml, hown, hts, hlk, hK, hA, hY, hE, hnc, hns, rfl⟩ := C
  intro H locs la hP hD hS hl
  exact lv_if_le hx rfl (hT j _ _ _ hd) ht (fun hc => kt (by rw [if_pos hc] at h; exact h) H locs la hP hD hS hl) (fun hc => kf (by rw [if_neg hc] at h; exact h) H locs la hP hD hS hl)
theorem g_icmp_le (C : gOkQ g T own nL rt R Z ad nc ns E) (j : Nat) {x y : Int32} {off : Int} (tgt : Nat) (hd : T[j]? = some (pc, .if_icmp .le off, 3)) (ht : (pc : Int) + off = (tgt : Int)) {a b : Option α} [inst : Decidable (x ≤ y)] (h : (@ite (Option α) (x ≤ y) inst a b) = some z) (kt : a = some z → g tgt ls st σ) (kf : b = some z → g (pc + 3) ls st σ) : g pc ls (.int y :: .int x :: st) σ := by
  obtain ⟨p, l, e, s, m, args, below, meth, c, A, D, cy, Q, hx, hT, hr, hml, hown, hts, hlk, hK, hA, hY, hE, hnc, hns, rfl⟩ := C
  intro H locs la hP hD hS hl
  exact lv_icmp_le hx rfl (hT j _ _ _ hd) ht (fun hc => kt (by rw [if_pos hc] at h; exact h) H locs la hP hD hS hl) (fun hc => kf (by rw [if_neg hc] at h; exact h) H locs la hP hD hS hl)
theorem g_goto (C : gOkQ g T own nL rt R Z ad nc ns E) (j : Nat) {off : Int} (tgt : Nat) (hd : T[j]? = some (pc, .goto off, 3)) (ht : (pc : Int) + off = (tgt : Int)) (k : g tgt ls st σ) : g pc ls st σ := by
  obtain ⟨p, l, e, s, m, args, below, meth, c, A, D, cy, Q, hx, hT, hr, hml, hown, hts, hlk, hK, hA, hY, hE, hnc, hns, rfl⟩ := C
  intro H locs la hP hD hS hl
  exact lv_goto hx rfl (hT j _ _ _ hd) ht (k H locs la hP hD hS hl)
theorem g_tblAt (C : gOkQ g T own nL rt R Z ad nc ns E) (j : Nat) {dflt lo hi : Int} {offs : Array Int} {len : Nat} {x : Int32} {off : Int} (v : Int32) (hxv : x = v) (tgt : Nat) (hd : T[j]? = some (pc, .tableswitch dflt lo hi offs, len)) (h1 : ¬ v.toInt < lo) (h2 : ¬ hi < v.toInt) (ho : offs[(v.toInt - lo).toNat]? = some off) (ht : (pc : Int) + off = (tgt : Int)) (k : g tgt ls st σ) : g pc ls (.int x :: st) σ := by
  obtain ⟨p, l, e, s, m, args, below, meth, c, A, D, cy, Q, hx, hT, hr, hml, hown, hts, hlk, hK, hA, hY, hE, hnc, hns, rfl⟩ := C
  intro H locs la hP hD hS hl
  subst hxv
  exact lv_tableIn hx rfl (hT j _ _ _ hd) h1 h2 ho ht (k H locs la hP hD hS hl)
theorem g_tblOut (C : gOkQ g T own nL rt R Z ad nc ns E) (j : Nat) {dflt lo hi : Int} {offs : Array Int} {len : Nat} {x : Int32} (tgt : Nat) (hd : T[j]? = some (pc, .tableswitch dflt lo hi offs, len)) (h : x.toInt < lo ∨ hi < x.toInt) (ht : (pc : Int) + dflt = (tgt : Int)) (k : g tgt ls st σ) : g pc ls (.int x :: st) σ := by
  obtain ⟨p, l, e, s, m, args, below, meth, c, A, D, cy, Q, hx, hT, hr, hml, hown, hts, hlk, hK, hA, hY, hE, hnc, hns, rfl⟩ := C
  intro H locs la hP hD hS hl
  exact lv_tableOut hx rfl (hT j _ _ _ hd) h ht (k H locs la hP hD hS hl)
theorem g_lookup (C : gOkQ g T own nL rt R Z ad nc ns E) (j : Nat) {dflt : Int} {ps : Array (Int × Int)} {len : Nat} {x : Int32} {off : Int} (tgt : Nat) (hd : T[j]? = some (pc, .lookupswitch dflt ps, len)) (hp : (ps.toList.zip (ps.toList.drop 1)).all (fun (a, next) => a.1 < next.1) = true) (ho : Op.lookupswitch.offset ps.toList dflt x.toInt = off) (ht : (pc : Int) + off = (tgt : Int)) (k : g tgt ls st σ) : g pc ls (.int x :: st) σ := by
  obtain ⟨p, l, e, s, m, args, below, meth, c, A, D, cy, Q, hx, hT, hr, hml, hown, hts, hlk, hK, hA, hY, hE, hnc, hns, rfl⟩ := C
  intro H locs la hP hD hS hl
  exact lv_lookup hx rfl (hT j _ _ _ hd) hp ho ht (k H locs la hP hD hS hl)
theorem g_sub (C : gOkQ g T own nL rt R Z ad nc ns E) (is : List Nat) (ls2 : List (Nat × Value)) (h2 : lv_pick ls is = ls2) (k : g pc ls2 st σ) : g pc ls st σ := by
  obtain ⟨p, l, e, s, m, args, below, meth, c, A, D, cy, Q, hx, hT, hr, hml, hown, hts, hlk, hK, hA, hY, hE, hnc, hns, rfl⟩ := C
  intro H locs la hP hD hS hl
  exact k H locs la hP hD hS (lv_sub hl is h2)
theorem g_geti (C : gOkQ g T own nL rt R Z ad nc ns E) (j : Nat) {index i k ci : Nat} {fs : List (Option (Option Nat))} (hd : T[j]? = some (pc, .getfield index, 3)) (hw : gFl own index ci k) (hc : Z[i]? = some (.inl (ci, fs))) (hf : fs[k]? = some none) (kk : g (pc + 3) ls (.int (σ i k) :: st) σ) : g pc ls (.ref (ad i) :: st) σ := by
  obtain ⟨p, l, e, s, m, args, below, meth, c, A, D, cy, Q, hx, hT, hr, hml, hown, hts, hlk, hK, hA, hY, hE, hnc, hns, rfl⟩ := C
  intro H locs la hP hD hS hl
  obtain ⟨CN, TN, N, hcl, hk, hin, hw⟩ := hw
  have he := gW_at (cy := cy) (ad := ad) (σ := σ) hc
  rcases hw with hw | ⟨host, hw⟩
  · exact va_get hx rfl hts hin hown hK hP i he hcl k hk (hts _ hw) (fun _ h => h) (gV_at hf) (hT j _ _ _ hd) (kk H locs la hP hD hS hl)
  · exact va_getN hx rfl hts hin hown hK hP i he hcl k hk (hY.use hw args) (fun _ h => h) (gV_at hf) (hT j _ _ _ hd) (kk H locs la hP hD hS hl)
theorem g_getr (C : gOkQ g T own nL rt R Z ad nc ns E) (j : Nat) {index i k ci b : Nat} {fs : List (Option (Option Nat))} (hd : T[j]? = some (pc, .getfield index, 3)) (hw : gFl own index ci k) (hc : Z[i]? = some (.inl (ci, fs))) (hf : fs[k]? = some (some (some b))) (kk : g (pc + 3) ls (.ref (ad b) :: st) σ) : g pc ls (.ref (ad i) :: st) σ := by
  obtain ⟨p, l, e, s, m, args, below, meth, c, A, D, cy, Q, hx, hT, hr, hml, hown, hts, hlk, hK, hA, hY, hE, hnc, hns, rfl⟩ := C
  intro H locs la hP hD hS hl
  obtain ⟨CN, TN, N, hcl, hk, hin, hw⟩ := hw
  have he := gW_at (cy := cy) (ad := ad) (σ := σ) hc
  rcases hw with hw | ⟨host, hw⟩
  · exact va_get hx rfl hts hin hown hK hP i he hcl k hk (hts _ hw) (fun _ h => h) (gV_at hf) (hT j _ _ _ hd) (kk H locs la hP hD hS hl)
  · exact va_getN hx rfl hts hin hown hK hP i he hcl k hk (hY.use hw args) (fun _ h => h) (gV_at hf) (hT j _ _ _ hd) (kk H locs la hP hD hS hl)
theorem g_put (C : gOkQ g T own nL rt R Z ad nc ns E) (j : Nat) {index i k ci : Nat} {fs : List (Option (Option Nat))} {v : Int32} {ty : FieldType} {f : gS → Option α} (hd : T[j]? = some (pc, .putfield index, 3)) (hw : gFp own index ci k ty) (hc : Z[i]? = some (.inl (ci, fs))) (hf : fs[k]? = some none) (hn : narrow ty (.int v) = .int v) (hfit : fits ty (.int v) = true) (h : mLet (gu σ i k v) f = some z) (kk : ∀ σ1, f σ1 = some z → g (pc + 3) ls st σ1) : g pc ls (.int v :: .ref (ad i) :: st) σ := by
  obtain ⟨p, l, e, s, m, args, below, meth, c, A, D, cy, Q, hx, hT, hr, hml, hown, hts, hlk, hK, hA, hY, hE, hnc, hns, rfl⟩ := C
  intro H locs la hP hD hS hl
  obtain ⟨CN, TN, N, hcl, hk, hin, ⟨ty0, hty⟩, hnm, hfin, hpd, hw⟩ := hw
  have he := gW_at (cy := cy) (ad := ad) (σ := σ) hc
  have hkf : k < (fs.mapIdx (gV ad (σ i))).length := by simpa using (List.getElem?_eq_some_iff.mp hf).1
  have hset : (gW cy Z ad σ).set i (ad i, .inr (ci, (fs.mapIdx (gV ad (σ i))).set k (.int v))) = gW cy Z ad (gu σ i k v) := gW_set hc (by rw [gV_set hf]; rfl)
  rcases hw with hw | ⟨host, hw⟩
  · exact va_put hx rfl hts hin ty0 hty hnm hown hK hP hD hS i he hcl k hk (hts _ hw) (fun _ h => h) hfin hpd hn hfit hkf (hT j _ _ _ hd) (fun H1 l1 hP1 hD1 hS1 => kk _ h H1 l1 la (hset ▸ hP1) (hset ▸ hD1) hS1 hl)
  · exact va_putN hx rfl hts hin ty0 hty hnm hown hK hP hD hS i he hcl k hk (hY.use hw args) (fun _ h => h) hfin hpd hn hfit hkf (hT j _ _ _ hd) (fun H1 l1 hP1 hD1 hS1 => kk _ h H1 l1 la (hset ▸ hP1) (hset ▸ hD1) hS1 hl)
theorem g_iald (C : gOkQ g T own nL rt R Z ad nc ns E) (j : Nat) {i n : Nat} {x : Int32} {a : Option α} (hd : T[j]? = some (pc, .iaload, 1)) (hc : Z[i]? = some (.inr (0, n, none))) (h : mIn n x a = some z) (kk : a = some z → g (pc + 1) ls (.int (σ i (nn x)) :: st) σ) : g pc ls (.int x :: .ref (ad i) :: st) σ := by
  obtain ⟨p, l, e, s, m, args, below, meth, c, A, D, cy, Q, hx, hT, hr, hml, hown, hts, hlk, hK, hA, hY, hE, hnc, hns, rfl⟩ := C
  intro H locs la hP hD hS hl
  obtain ⟨hin, h⟩ := h_in h
  exact va_iald hx rfl hK hP i 0 (gW_at hc) rfl hin (hT j _ _ _ hd) (kk h H locs la hP hD hS hl)
theorem g_ialdK (C : gOkQ g T own nL rt R Z ad nc ns E) (j : Nat) {i n : Nat} {x : Int32} (q : Nat) (hd : T[j]? = some (pc, .iaload, 1)) (hc : Z[i]? = some (.inr (0, n, none))) (hq : nn x = q) (hin : vp_in x n) (kk : g (pc + 1) ls (.int (σ i q) :: st) σ) : g pc ls (.int x :: .ref (ad i) :: st) σ := by
  obtain ⟨p, l, e, s, m, args, below, meth, c, A, D, cy, Q, hx, hT, hr, hml, hown, hts, hlk, hK, hA, hY, hE, hnc, hns, rfl⟩ := C
  intro H locs la hP hD hS hl
  subst hq
  exact va_iald hx rfl hK hP i 0 (gW_at hc) rfl hin (hT j _ _ _ hd) (kk H locs la hP hD hS hl)
theorem g_cald (C : gOkQ g T own nL rt R Z ad nc ns E) (j : Nat) {i n : Nat} {x : Int32} {a : Option α} (hd : T[j]? = some (pc, .caload, 1)) (hc : Z[i]? = some (.inr (1, n, none))) (h : mIn n x a = some z) (kk : a = some z → g (pc + 1) ls (.int (σ i (nn x)) :: st) σ) : g pc ls (.int x :: .ref (ad i) :: st) σ := by
  obtain ⟨p, l, e, s, m, args, below, meth, c, A, D, cy, Q, hx, hT, hr, hml, hown, hts, hlk, hK, hA, hY, hE, hnc, hns, rfl⟩ := C
  intro H locs la hP hD hS hl
  obtain ⟨hin, h⟩ := h_in h
  exact va_cald hx rfl hK hP i 1 (gW_at hc) rfl hin (hT j _ _ _ hd) (kk h H locs la hP hD hS hl)
theorem g_caldK (C : gOkQ g T own nL rt R Z ad nc ns E) (j : Nat) {i n : Nat} {x : Int32} (q : Nat) (hd : T[j]? = some (pc, .caload, 1)) (hc : Z[i]? = some (.inr (1, n, none))) (hq : nn x = q) (hin : vp_in x n) (kk : g (pc + 1) ls (.int (σ i q) :: st) σ) : g pc ls (.int x :: .ref (ad i) :: st) σ := by
  obtain ⟨p, l, e, s, m, args, below, meth, c, A, D, cy, Q, hx, hT, hr, hml, hown, hts, hlk, hK, hA, hY, hE, hnc, hns, rfl⟩ := C
  intro H locs la hP hD hS hl
  subst hq
  exact va_cald hx rfl hK hP i 1 (gW_at hc) rfl hin (hT j _ _ _ hd) (kk H locs la hP hD hS hl)
theorem g_zald (C : gOkQ g T own nL rt R Z ad nc ns E) (j : Nat) {i n : Nat} {x : Int32} {a : Option α} (hd : T[j]? = some (pc, .baload, 1)) (hc : Z[i]? = some (.inr (2, n, none))) (h : mIn n x a = some z) (kk : a = some z → g (pc + 1) ls (.int (σ i (nn x)) :: st) σ) : g pc ls (.int x :: .ref (ad i) :: st) σ := by
  obtain ⟨p, l, e, s, m, args, below, meth, c, A, D, cy, Q, hx, hT, hr, hml, hown, hts, hlk, hK, hA, hY, hE, hnc, hns, rfl⟩ := C
  intro H locs la hP hD hS hl
  obtain ⟨hin, h⟩ := h_in h
  exact va_zald hx rfl hK hP i 2 (gW_at hc) rfl hin (hT j _ _ _ hd) (kk h H locs la hP hD hS hl)
theorem g_zaldK (C : gOkQ g T own nL rt R Z ad nc ns E) (j : Nat) {i n : Nat} {x : Int32} (q : Nat) (hd : T[j]? = some (pc, .baload, 1)) (hc : Z[i]? = some (.inr (2, n, none))) (hq : nn x = q) (hin : vp_in x n) (kk : g (pc + 1) ls (.int (σ i q) :: st) σ) : g pc ls (.int x :: .ref (ad i) :: st) σ := by
  obtain ⟨p, l, e, s, m, args, below, meth, c, A, D, cy, Q, hx, hT, hr, hml, hown, hts, hlk, hK, hA, hY, hE, hnc, hns, rfl⟩ := C
  intro H locs la hP hD hS hl
  subst hq
  exact va_zald hx rfl hK hP i 2 (gW_at hc) rfl hin (hT j _ _ _ hd) (kk H locs la hP hD hS hl)
theorem g_iast (C : gOkQ g T own nL rt R Z ad nc ns E) (j : Nat) {i n : Nat} {x v : Int32} {f : gS → Option α} (hd : T[j]? = some (pc, .iastore, 1)) (hc : Z[i]? = some (.inr (0, n, none))) (h : mIn n x (mLet (gu σ i (nn x) v) f) = some z) (kk : ∀ σ1, f σ1 = some z → g (pc + 1) ls st σ1) : g pc ls (.int v :: .int x :: .ref (ad i) :: st) σ := by
  obtain ⟨p, l, e, s, m, args, below, meth, c, A, D, cy, Q, hx, hT, hr, hml, hown, hts, hlk, hK, hA, hY, hE, hnc, hns, rfl⟩ := C
  intro H locs la hP hD hS hl
  obtain ⟨hin, h⟩ := h_in h
  have hset : (gW cy Z ad σ).set i (ad i, .inl (cy 0, n, .inl (upd (σ i) (nn x) v))) = gW cy Z ad (gu σ i (nn x) v) := gW_set hc rfl
  exact va_iast hx rfl hK hP hD hS i 0 (gW_at hc) rfl hin (hT j _ _ _ hd) (fun H1 l1 hP1 hD1 hS1 => kk _ h H1 l1 la (hset ▸ hP1) (hset ▸ hD1) hS1 hl)
theorem g_iastK (C : gOkQ g T own nL rt R Z ad nc ns E) (j : Nat) {i n : Nat} {x v : Int32} {f : gS → Option α} (q : Nat) (hd : T[j]? = some (pc, .iastore, 1)) (hc : Z[i]? = some (.inr (0, n, none))) (hq : nn x = q) (hin : vp_in x n) (h : mLet (gu σ i q v) f = some z) (kk : ∀ σ1, f σ1 = some z → g (pc + 1) ls st σ1) : g pc ls (.int v :: .int x :: .ref (ad i) :: st) σ := by
  obtain ⟨p, l, e, s, m, args, below, meth, c, A, D, cy, Q, hx, hT, hr, hml, hown, hts, hlk, hK, hA, hY, hE, hnc, hns, rfl⟩ := C
  intro H locs la hP hD hS hl
  subst hq
  have hset : (gW cy Z ad σ).set i (ad i, .inl (cy 0, n, .inl (upd (σ i) (nn x) v))) = gW cy Z ad (gu σ i (nn x) v) := gW_set hc rfl
  exact va_iast hx rfl hK hP hD hS i 0 (gW_at hc) rfl hin (hT j _ _ _ hd) (fun H1 l1 hP1 hD1 hS1 => kk _ h H1 l1 la (hset ▸ hP1) (hset ▸ hD1) hS1 hl)
theorem g_zast (C : gOkQ g T own nL rt R Z ad nc ns E) (j : Nat) {i n : Nat} {x v : Int32} {f : gS → Option α} (hd : T[j]? = some (pc, .bastore, 1)) (hc : Z[i]? = some (.inr (2, n, none))) (h : mIn n x (mLet (gu σ i (nn x) (vp_nar .boolean v)) f) = some z) (kk : ∀ σ1, f σ1 = some z → g (pc + 1) ls st σ1) : g pc ls (.int v :: .int x :: .ref (ad i) :: st) σ := by
  obtain ⟨p, l, e, s, m, args, below, meth, c, A, D, cy, Q, hx, hT, hr, hml, hown, hts, hlk, hK, hA, hY, hE, hnc, hns, rfl⟩ := C
  intro H locs la hP hD hS hl
  obtain ⟨hin, h⟩ := h_in h
  have hset : (gW cy Z ad σ).set i (ad i, .inl (cy 2, n, .inl (upd (σ i) (nn x) (vp_nar .boolean v)))) = gW cy Z ad (gu σ i (nn x) (vp_nar .boolean v)) := gW_set hc rfl
  exact va_zast hx rfl hK hP hD hS i 2 (gW_at hc) rfl hin (hT j _ _ _ hd) (fun H1 l1 hP1 hD1 hS1 => kk _ h H1 l1 la (hset ▸ hP1) (hset ▸ hD1) hS1 hl)
theorem g_zastK (C : gOkQ g T own nL rt R Z ad nc ns E) (j : Nat) {i n : Nat} {x v : Int32} {f : gS → Option α} (q : Nat) (hd : T[j]? = some (pc, .bastore, 1)) (hc : Z[i]? = some (.inr (2, n, none))) (hq : nn x = q) (hin : vp_in x n) (h : mLet (gu σ i q (vp_nar .boolean v)) f = some z) (kk : ∀ σ1, f σ1 = some z → g (pc + 1) ls st σ1) : g pc ls (.int v :: .int x :: .ref (ad i) :: st) σ := by
  obtain ⟨p, l, e, s, m, args, below, meth, c, A, D, cy, Q, hx, hT, hr, hml, hown, hts, hlk, hK, hA, hY, hE, hnc, hns, rfl⟩ := C
  intro H locs la hP hD hS hl
  subst hq
  have hset : (gW cy Z ad σ).set i (ad i, .inl (cy 2, n, .inl (upd (σ i) (nn x) (vp_nar .boolean v)))) = gW cy Z ad (gu σ i (nn x) (vp_nar .boolean v)) := gW_set hc rfl
  exact va_zast hx rfl hK hP hD hS i 2 (gW_at hc) rfl hin (hT j _ _ _ hd) (fun H1 l1 hP1 hD1 hS1 => kk _ h H1 l1 la (hset ▸ hP1) (hset ▸ hD1) hS1 hl)
theorem g_aald (C : gOkQ g T own nL rt R Z ad nc ns E) (j : Nat) {i n t : Nat} {rs : Nat → Option Nat} {x : Int32} {a : Option α} (hd : T[j]? = some (pc, .aaload, 1)) (ht : t = 3 ∨ t = 4 ∨ t = 5) (hc : Z[i]? = some (.inr (t, n, some rs))) (h : mIn n x a = some z) (kk : vp_in x n → a = some z → g (pc + 1) ls (va_rf ((rs (nn x)).map ad) :: st) σ) : g pc ls (.int x :: .ref (ad i) :: st) σ := by
  obtain ⟨p, l, e, s, m, args, below, meth, c, A, D, cy, Q, hx, hT, hr, hml, hown, hts, hlk, hK, hA, hY, hE, hnc, hns, rfl⟩ := C
  intro H locs la hP hD hS hl
  obtain ⟨hin, h⟩ := h_in h
  rcases ht with rfl | rfl | rfl
  · exact va_aldq hx rfl hK hP i 3 (gW_at hc) rfl hin (hT j _ _ _ hd) (kk hin h H locs la hP hD hS hl)
  · exact va_aldq hx rfl hK hP i 4 (gW_at hc) rfl hin (hT j _ _ _ hd) (kk hin h H locs la hP hD hS hl)
  · exact va_aldq hx rfl hK hP i 5 (gW_at hc) rfl hin (hT j _ _ _ hd) (kk hin h H locs la hP hD hS hl)
theorem g_alen (C : gOkQ g T own nL rt R Z ad nc ns E) (j : Nat) {i n : Nat} (hd : T[j]? = some (pc, .arraylength, 1)) (hc : Z[i]? = some (.inr (0, n, none))) (kk : g (pc + 1) ls (.int (Int32.ofNat n) :: st) σ) : g pc ls (.ref (ad i) :: st) σ := by
  obtain ⟨p, l, e, s, m, args, below, meth, c, A, D, cy, Q, hx, hT, hr, hml, hown, hts, hlk, hK, hA, hY, hE, hnc, hns, rfl⟩ := C
  intro H locs la hP hD hS hl
  exact va_alen hx rfl hK hP i 0 (gW_at hc) rfl rfl (hT j _ _ _ hd) (kk H locs la hP hD hS hl)
theorem g_ifnull (C : gOkQ g T own nL rt R Z ad nc ns E) (j : Nat) {o : Option Nat} {off : Int} (tgt : Nat) (hd : T[j]? = some (pc, .ifnull off, 3)) (ht : (pc : Int) + off = (tgt : Int)) (kt : o = none → g tgt ls st σ) (kf : ∀ b, o = some b → g (pc + 3) ls st σ) : g pc ls (va_rf (o.map ad) :: st) σ := by
  obtain ⟨p, l, e, s, m, args, below, meth, c, A, D, cy, Q, hx, hT, hr, hml, hown, hts, hlk, hK, hA, hY, hE, hnc, hns, rfl⟩ := C
  intro H locs la hP hD hS hl
  cases o with
  | none => exact lv_ifnullN hx rfl (hT j _ _ _ hd) ht (kt rfl H locs la hP hD hS hl)
  | some b => exact lv_ifnull hx rfl (hT j _ _ _ hd) (kf b rfl H locs la hP hD hS hl)
theorem g_mmax (C : gOkQ g T own nL rt R Z ad nc ns E) (j : Nat) {index : Nat} {x y : Int32} (hd : T[j]? = some (pc, .invokestatic index, 3)) (hw : Cond.methodLink own index Lib.Math.max.name ∈ TB) (hw2 : Cond.static Lib.Math.max.name ∈ TB ∧ Cond.initialized "java/lang/Math" ∈ TB ∧ Cond.code Lib.Math.max.name Lib.Math.max.code 2 (some .int) ∈ TB) (hR : 1 ≤ R.frames ∧ (st.map fun v => v.category).sum + 13 ≤ R.locals) (k : g (pc + 3) ls (.int (mMax x y) :: st) σ) : g pc ls (.int y :: .int x :: st) σ := by
  obtain ⟨p, l, e, s, m, args, below, meth, c, A, D, cy, Q, hx, hT, hr, hml, hown, hts, hlk, hK, hA, hY, hE, hnc, hns, rfl⟩ := C
  intro H locs la hP hD hS hl
  exact va_mmax hx rfl (hml.trans hl.1.symm) hown (hts _ hw) (hts _ hw2.1) (hts _ hw2.2.1) (hts _ hw2.2.2) hR.1 hR.2 hnc hns (hT j _ _ _ hd) (k H locs la hP hD hS hl)
theorem g_mmin (C : gOkQ g T own nL rt R Z ad nc ns E) (j : Nat) {index : Nat} {x y : Int32} (hd : T[j]? = some (pc, .invokestatic index, 3)) (hw : Cond.methodLink own index Lib.Math.min.name ∈ TB) (hw2 : Cond.static Lib.Math.min.name ∈ TB ∧ Cond.initialized "java/lang/Math" ∈ TB ∧ Cond.code Lib.Math.min.name Lib.Math.min.code 2 (some .int) ∈ TB) (hR : 1 ≤ R.frames ∧ (st.map fun v => v.category).sum + 13 ≤ R.locals) (k : g (pc + 3) ls (.int (mMin x y) :: st) σ) : g pc ls (.int y :: .int x :: st) σ := by
  obtain ⟨p, l, e, s, m, args, below, meth, c, A, D, cy, Q, hx, hT, hr, hml, hown, hts, hlk, hK, hA, hY, hE, hnc, hns, rfl⟩ := C
  intro H locs la hP hD hS hl
  exact va_mmin hx rfl (hml.trans hl.1.symm) hown (hts _ hw) (hts _ hw2.1) (hts _ hw2.2.1) (hts _ hw2.2.2) hR.1 hR.2 hnc hns (hT j _ _ _ hd) (k H locs la hP hD hS hl)
theorem g_mabs (C : gOkQ g T own nL rt R Z ad nc ns E) (j : Nat) {index : Nat} {x : Int32} (hd : T[j]? = some (pc, .invokestatic index, 3)) (hw : Cond.methodLink own index Lib.Math.abs.name ∈ TB) (hw2 : Cond.static Lib.Math.abs.name ∈ TB ∧ Cond.initialized "java/lang/Math" ∈ TB ∧ Cond.code Lib.Math.abs.name Lib.Math.abs.code 1 (some .int) ∈ TB) (hR : 1 ≤ R.frames ∧ (st.map fun v => v.category).sum + 13 ≤ R.locals) (k : g (pc + 3) ls (.int (mAbs x) :: st) σ) : g pc ls (.int x :: st) σ := by
  obtain ⟨p, l, e, s, m, args, below, meth, c, A, D, cy, Q, hx, hT, hr, hml, hown, hts, hlk, hK, hA, hY, hE, hnc, hns, rfl⟩ := C
  intro H locs la hP hD hS hl
  exact va_mabs hx rfl (hml.trans hl.1.symm) hown (hts _ hw) (hts _ hw2.1) (hts _ hw2.2.1) (hts _ hw2.2.2) hR.1 hR.2 hnc hns (hT j _ _ _ hd) (k H locs la hP hD hS hl)
theorem g_copy (C : gOkQ g T own nL rt R Z ad nc ns E) (j : Nat) {index a b n0 n1 : Nat} {sp dp n : Int32} {f : gS → Option α} (hd : T[j]? = some (pc, .invokestatic index, 3)) (hw : Cond.methodLink own index arraycopyName ∈ TB) (hw2 : Cond.native arraycopyName ∈ TB ∧ Cond.static arraycopyName ∈ TB ∧ Cond.initialized "java/lang/System" ∈ TB) (hR : 1 ≤ R.frames ∧ (st.map fun v => v.category).sum + (nativeFrameWords "java/lang/System" "arraycopy" 5 + 11) ≤ R.locals) (hc0 : Z[a]? = some (.inr (0, n0, none))) (hc1 : Z[b]? = some (.inr (0, n1, none))) (h : mCopy n0 n1 σ a sp b dp n f = some z) (k : ∀ σ1, f σ1 = some z → g (pc + 3) ls st σ1) : g pc ls (.int n :: .int dp :: .ref (ad b) :: .int sp :: .ref (ad a) :: st) σ := by
  obtain ⟨p, l, e, s, m, args, below, meth, c, A, D, cy, Q, hx, hT, hr, hml, hown, hts, hlk, hK, hA, hY, hE, hnc, hns, rfl⟩ := C
  intro H locs la hP hD hS hl
  unfold mCopy at h
  by_cases hq : ¬ sp < 0 ∧ ¬ dp < 0 ∧ ¬ n < 0 ∧ nn sp + nn n ≤ n0 ∧ nn dp + nn n ≤ n1
  · rw [if_pos hq] at h
    obtain ⟨h1, h2, h3, h4, h5⟩ := hq
    have hset : (gW cy Z ad σ).set b (ad b, .inl (cy 0, n1, .inl (va_cpy (σ a) (σ b) (nn sp) (nn dp) (nn n)))) = gW cy Z ad (gp σ b (va_cpy (σ a) (σ b) (nn sp) (nn dp) (nn n))) := gW_setp hc1 rfl
    exact va_copyi hx rfl (hml.trans hl.1.symm) hown (hts _ hw) (hts _ hw2.1) (hts _ hw2.2.1) (hts _ hw2.2.2) hK hP hD hS a b 0 0 (gW_at hc0) (gW_at hc1) rfl rfl rfl h1 h2 h3 h4 h5 (fun i _ => rfl) hR.1 hR.2 (hT j _ _ _ hd) (fun H1 l1 hP1 hD1 hS1 => k _ h H1 l1 la (hset ▸ hP1) (hset ▸ hD1) hS1 hl)
  · rw [if_neg hq] at h; cases h
theorem g_callVi (C : gOkQ g T own nL rt R Z ad nc ns E) (j : Nat) {index : Nat} {y : MethodName} {cc2 : ByteArray} {nL2 L2 n : Nat} {ty : FieldType} {av : (Nat → Nat) → List Value} {F : gS → Option (Int32 × gS)} {f : Int32 → gS → Option α} (As rest : List Value) {i ci N : Nat} {TT : u_T} {fs : List (Option (Option Nat))} (hd : T[j]? = some (pc, .invokevirtual index, 3)) (hM : gMet y cc2 nL2 (some ty) L2 Z av F) (hln : gCn own index y) (hcw : gCw y cc2 nL2 (some ty) n) (hci : gCi y) (hc : Z[i]? = some (.inl (ci, fs))) (hcl : vwCl[ci]? = some (y.cls, TT, N)) (hav : av ad = .ref (ad i) :: As) (hst : st = As.reverse ++ .ref (ad i) :: rest) (hn : As.length = n) (hro : (rest.map fun v => v.category).sum ≤ 8) (hR : L2 + 1 ≤ R.frames ∧ 8 + (nL2 + 11) + 64 * L2 ≤ R.locals) (h : mCall (F σ) f = some z) (k : ∀ r σ1, f r σ1 = some z → g (pc + 3) ls (.int r :: rest) σ1) : g pc ls st σ := by
  obtain ⟨p, l, e, s, m, args, below, meth, c, A, D, cy, Q, hx, hT, hr, hml, hown, hts, hlk, hK, hA, hY, hE, hnc, hns, rfl⟩ := C
  intro H locs la hP hD hS hl
  have hA1 : ∀ q, va_A (gW cy Z ad σ) H.size q → A q := fun q hq => by
    rcases hq with ⟨k, e, hk⟩ | hq
    · exact hD.2 k (q, e) hk
    · exact hA q (Nat.le_trans hS.1 hq)
  have hpre : ∀ U : State, U.heap = H → s.WarmedH U.vm → U.heap.size = H.size ∧ gPre D cy ad (gW cy Z ad σ) (va_A (gW cy Z ad σ) H.size) U := fun U hU hW => ⟨by rw [hU], by rw [hU]; exact hP, va_K.moved hW.alike hK, hD.weaken (fun _ _ _ _ => trivial), gY.weaken hA1 (gY.moved hW hS hU hY)⟩
  have hbl : FrameBlind (va_Pc (av ad) (fun U => U.heap.size = H.size ∧ gPre D cy ad (gW cy Z ad σ) (va_A (gW cy Z ad σ) H.size) U)) := fun a U g mk q => by
    obtain ⟨q0, q1, qP, qK, qD, qY⟩ := q
    exact ⟨q0, q1, qP, va_K.moved (u := U) (U := U.calling g mk a) (Vm.Alike.refl U.vm) qK, qD, gY.same (U := U) (V := U.calling g mk a) rfl rfl qY⟩
  have hG : GoodIn TB (Cond.code y cc2 nL2 (some ty) :: TB) := TBg hcw.1
  cases hF : F σ with
  | none => rw [hF] at h; cases h
  | some z2 =>
  rw [hF] at h
  have hM2 := hM l D cy ad H.size σ z2 hF
  have hrv := va_recv hK hP hcl (gW_at hc)
  have hPV : PreV s H y.cls (ad i) (va_Pc (av ad) (fun U => U.heap.size = H.size ∧ gPre D cy ad (gW cy Z ad σ) (va_A (gW cy Z ad σ) H.size) U)) As := ⟨hbl, hrv, fun U hU hW => ⟨by rw [hav], hpre U hU hW⟩⟩
  rcases hln with hln | ⟨host, hln⟩
  · exact va_calli (va_runV (As := As) (rest := rest) ⟨hx, rfl, hml, hown, hts⟩ hM2 ⟨callB_of n hts hG rfl rfl rfl (hts _ hcw.2.1) (hts _ hln) hcw.2.2 hR, hts _ hci.1, hts _ hci.2⟩ hPV rfl hn hl.1 hst (lv_room hro) (hT j _ _ _ hd) ⟨hnc, hns⟩) hS (fun q _ h => hA1 q h) hA1 (fun r u t H1 l1 ht hvm hw hB hz1 hk1 hS1 => by
    have e1 : r = z2.1 := congrArg Prod.fst hw
    have e2 : u = z2.2 := congrArg Prod.snd hw
    subst e1; subst e2
    have hP1 : va_P D vwCl (gW cy Z ad z2.2) H1 := by rw [← ht]; exact hB
    exact k _ _ h H1 l1 la hP1 (gD_fst gW_fst hD) hS1 hl)
  · exact va_calli (va_runVN (As := As) (rest := rest) ⟨hx, rfl, hml, hown, hts⟩ hM2 ⟨va_cnB n hts hG rfl rfl rfl (hY.nw _ hln) (hts _ hcw.2.1) hcw.2.2 hR, hts _ hci.1, hts _ hci.2⟩ hPV rfl hn hl.1 hst (lv_room hro) (hT j _ _ _ hd) ⟨hnc, hns⟩) hS (fun q _ h => hA1 q h) hA1 (fun r u t H1 l1 ht hvm hw hB hz1 hk1 hS1 => by
    have e1 : r = z2.1 := congrArg Prod.fst hw
    have e2 : u = z2.2 := congrArg Prod.snd hw
    subst e1; subst e2
    have hP1 : va_P D vwCl (gW cy Z ad z2.2) H1 := by rw [← ht]; exact hB
    exact k _ _ h H1 l1 la hP1 (gD_fst gW_fst hD) hS1 hl)
theorem g_callVv (C : gOkQ g T own nL rt R Z ad nc ns E) (j : Nat) {index : Nat} {y : MethodName} {cc2 : ByteArray} {nL2 L2 n : Nat} {av : (Nat → Nat) → List Value} {F : gS → Option (Int32 × gS)} {f : Int32 → gS → Option α} (As rest : List Value) {i ci N : Nat} {TT : u_T} {fs : List (Option (Option Nat))} (hd : T[j]? = some (pc, .invokevirtual index, 3)) (hM : gMet y cc2 nL2 none L2 Z av F) (hln : gCn own index y) (hcw : gCw y cc2 nL2 none n) (hci : gCi y) (hc : Z[i]? = some (.inl (ci, fs))) (hcl : vwCl[ci]? = some (y.cls, TT, N)) (hav : av ad = .ref (ad i) :: As) (hst : st = As.reverse ++ .ref (ad i) :: rest) (hn : As.length = n) (hro : (rest.map fun v => v.category).sum ≤ 8) (hR : L2 + 1 ≤ R.frames ∧ 8 + (nL2 + 11) + 64 * L2 ≤ R.locals) (h : mCall (F σ) f = some z) (k : ∀ r σ1, f r σ1 = some z → g (pc + 3) ls (rest) σ1) : g pc ls st σ := by
  obtain ⟨p, l, e, s, m, args, below, meth, c, A, D, cy, Q, hx, hT, hr, hml, hown, hts, hlk, hK, hA, hY, hE, hnc, hns, rfl⟩ := C
  intro H locs la hP hD hS hl
  have hA1 : ∀ q, va_A (gW cy Z ad σ) H.size q → A q := fun q hq => by
    rcases hq with ⟨k, e, hk⟩ | hq
    · exact hD.2 k (q, e) hk
    · exact hA q (Nat.le_trans hS.1 hq)
  have hpre : ∀ U : State, U.heap = H → s.WarmedH U.vm → U.heap.size = H.size ∧ gPre D cy ad (gW cy Z ad σ) (va_A (gW cy Z ad σ) H.size) U := fun U hU hW => ⟨by rw [hU], by rw [hU]; exact hP, va_K.moved hW.alike hK, hD.weaken (fun _ _ _ _ => trivial), gY.weaken hA1 (gY.moved hW hS hU hY)⟩
  have hbl : FrameBlind (va_Pc (av ad) (fun U => U.heap.size = H.size ∧ gPre D cy ad (gW cy Z ad σ) (va_A (gW cy Z ad σ) H.size) U)) := fun a U g mk q => by
    obtain ⟨q0, q1, qP, qK, qD, qY⟩ := q
    exact ⟨q0, q1, qP, va_K.moved (u := U) (U := U.calling g mk a) (Vm.Alike.refl U.vm) qK, qD, gY.same (U := U) (V := U.calling g mk a) rfl rfl qY⟩
  have hG : GoodIn TB (Cond.code y cc2 nL2 none :: TB) := TBg hcw.1
  cases hF : F σ with
  | none => rw [hF] at h; cases h
  | some z2 =>
  rw [hF] at h
  have hM2 := hM l D cy ad H.size σ z2 hF
  have hrv := va_recv hK hP hcl (gW_at hc)
  have hPV : PreV s H y.cls (ad i) (va_Pc (av ad) (fun U => U.heap.size = H.size ∧ gPre D cy ad (gW cy Z ad σ) (va_A (gW cy Z ad σ) H.size) U)) As := ⟨hbl, hrv, fun U hU hW => ⟨by rw [hav], hpre U hU hW⟩⟩
  rcases hln with hln | ⟨host, hln⟩
  · exact va_callv (va_runV (As := As) (rest := rest) ⟨hx, rfl, hml, hown, hts⟩ hM2 ⟨callB_of n hts hG rfl rfl rfl (hts _ hcw.2.1) (hts _ hln) hcw.2.2 hR, hts _ hci.1, hts _ hci.2⟩ hPV rfl hn hl.1 hst (lv_room hro) (hT j _ _ _ hd) ⟨hnc, hns⟩) hS (fun q _ h => hA1 q h) hA1 (fun u t H1 l1 ht hvm hw hB hz1 hk1 hS1 => by
    subst hw
    have hP1 : va_P D vwCl (gW cy Z ad z2.2) H1 := by rw [← ht]; exact hB
    exact k _ _ h H1 l1 la hP1 (gD_fst gW_fst hD) hS1 hl)
  · exact va_callv (va_runVN (As := As) (rest := rest) ⟨hx, rfl, hml, hown, hts⟩ hM2 ⟨va_cnB n hts hG rfl rfl rfl (hY.nw _ hln) (hts _ hcw.2.1) hcw.2.2 hR, hts _ hci.1, hts _ hci.2⟩ hPV rfl hn hl.1 hst (lv_room hro) (hT j _ _ _ hd) ⟨hnc, hns⟩) hS (fun q _ h => hA1 q h) hA1 (fun u t H1 l1 ht hvm hw hB hz1 hk1 hS1 => by
    subst hw
    have hP1 : va_P D vwCl (gW cy Z ad z2.2) H1 := by rw [← ht]; exact hB
    exact k _ _ h H1 l1 la hP1 (gD_fst gW_fst hD) hS1 hl)
theorem g_callSi (C : gOkQ g T own nL rt R Z ad nc ns E) (j : Nat) {index : Nat} {y : MethodName} {cc2 : ByteArray} {nL2 L2 n : Nat} {ty : FieldType} {av : (Nat → Nat) → List Value} {F : gS → Option (Int32 × gS)} {f : Int32 → gS → Option α} (As rest : List Value) (hd : T[j]? = some (pc, .invokestatic index, 3)) (hM : gMet y cc2 nL2 (some ty) L2 Z av F) (hln : gCn own index y) (hcw : gCw y cc2 nL2 (some ty) n) (hcs : gCs y) (hav : av ad = As) (hst : st = As.reverse ++ rest) (hn : As.length = n) (hro : (rest.map fun v => v.category).sum ≤ 8) (hR : L2 + 1 ≤ R.frames ∧ 8 + (nL2 + 11) + 64 * L2 ≤ R.locals) (h : mCall (F σ) f = some z) (k : ∀ r σ1, f r σ1 = some z → g (pc + 3) ls (.int r :: rest) σ1) : g pc ls st σ := by
  obtain ⟨p, l, e, s, m, args, below, meth, c, A, D, cy, Q, hx, hT, hr, hml, hown, hts, hlk, hK, hA, hY, hE, hnc, hns, rfl⟩ := C
  intro H locs la hP hD hS hl
  have hA1 : ∀ q, va_A (gW cy Z ad σ) H.size q → A q := fun q hq => by
    rcases hq with ⟨k, e, hk⟩ | hq
    · exact hD.2 k (q, e) hk
    · exact hA q (Nat.le_trans hS.1 hq)
  have hpre : ∀ U : State, U.heap = H → s.WarmedH U.vm → U.heap.size = H.size ∧ gPre D cy ad (gW cy Z ad σ) (va_A (gW cy Z ad σ) H.size) U := fun U hU hW => ⟨by rw [hU], by rw [hU]; exact hP, va_K.moved hW.alike hK, hD.weaken (fun _ _ _ _ => trivial), gY.weaken hA1 (gY.moved hW hS hU hY)⟩
  have hbl : FrameBlind (va_Pc (av ad) (fun U => U.heap.size = H.size ∧ gPre D cy ad (gW cy Z ad σ) (va_A (gW cy Z ad σ) H.size) U)) := fun a U g mk q => by
    obtain ⟨q0, q1, qP, qK, qD, qY⟩ := q
    exact ⟨q0, q1, qP, va_K.moved (u := U) (U := U.calling g mk a) (Vm.Alike.refl U.vm) qK, qD, gY.same (U := U) (V := U.calling g mk a) rfl rfl qY⟩
  have hG : GoodIn TB (Cond.code y cc2 nL2 (some ty) :: TB) := TBg hcw.1
  cases hF : F σ with
  | none => rw [hF] at h; cases h
  | some z2 =>
  rw [hF] at h
  have hM2 := hM l D cy ad H.size σ z2 hF
  have hPS : PreS s H (va_Pc (av ad) (fun U => U.heap.size = H.size ∧ gPre D cy ad (gW cy Z ad σ) (va_A (gW cy Z ad σ) H.size) U)) As := ⟨hbl, fun U hU hW => ⟨by rw [hav], hpre U hU hW⟩⟩
  rcases hln with hln | ⟨host, hln⟩
  · exact va_calli (va_runS (As := As) (rest := rest) ⟨hx, rfl, hml, hown, hts⟩ hM2 ⟨callB_of n hts hG rfl rfl rfl (hts _ hcw.2.1) (hts _ hln) hcw.2.2 hR, hts _ hcs⟩ hPS rfl hn hl.1 hst (lv_room hro) (hT j _ _ _ hd) ⟨hnc, hns⟩) hS (fun q _ h => hA1 q h) hA1 (fun r u t H1 l1 ht hvm hw hB hz1 hk1 hS1 => by
    have e1 : r = z2.1 := congrArg Prod.fst hw
    have e2 : u = z2.2 := congrArg Prod.snd hw
    subst e1; subst e2
    have hP1 : va_P D vwCl (gW cy Z ad z2.2) H1 := by rw [← ht]; exact hB
    exact k _ _ h H1 l1 la hP1 (gD_fst gW_fst hD) hS1 hl)
  · exact va_calli (va_runSN (As := As) (rest := rest) ⟨hx, rfl, hml, hown, hts⟩ hM2 ⟨va_cnB n hts hG rfl rfl rfl (hY.nw _ hln) (hts _ hcw.2.1) hcw.2.2 hR, hts _ hcs, trivial⟩ hPS rfl hn hl.1 hst (lv_room hro) (hT j _ _ _ hd) ⟨hnc, hns⟩) hS (fun q _ h => hA1 q h) hA1 (fun r u t H1 l1 ht hvm hw hB hz1 hk1 hS1 => by
    have e1 : r = z2.1 := congrArg Prod.fst hw
    have e2 : u = z2.2 := congrArg Prod.snd hw
    subst e1; subst e2
    have hP1 : va_P D vwCl (gW cy Z ad z2.2) H1 := by rw [← ht]; exact hB
    exact k _ _ h H1 l1 la hP1 (gD_fst gW_fst hD) hS1 hl)
theorem g_callSv (C : gOkQ g T own nL rt R Z ad nc ns E) (j : Nat) {index : Nat} {y : MethodName} {cc2 : ByteArray} {nL2 L2 n : Nat} {av : (Nat → Nat) → List Value} {F : gS → Option (Int32 × gS)} {f : Int32 → gS → Option α} (As rest : List Value) (hd : T[j]? = some (pc, .invokestatic index, 3)) (hM : gMet y cc2 nL2 none L2 Z av F) (hln : gCn own index y) (hcw : gCw y cc2 nL2 none n) (hcs : gCs y) (hav : av ad = As) (hst : st = As.reverse ++ rest) (hn : As.length = n) (hro : (rest.map fun v => v.category).sum ≤ 8) (hR : L2 + 1 ≤ R.frames ∧ 8 + (nL2 + 11) + 64 * L2 ≤ R.locals) (h : mCall (F σ) f = some z) (k : ∀ r σ1, f r σ1 = some z → g (pc + 3) ls (rest) σ1) : g pc ls st σ := by
  obtain ⟨p, l, e, s, m, args, below, meth, c, A, D, cy, Q, hx, hT, hr, hml, hown, hts, hlk, hK, hA, hY, hE, hnc, hns, rfl⟩ := C
  intro H locs la hP hD hS hl
  have hA1 : ∀ q, va_A (gW cy Z ad σ) H.size q → A q := fun q hq => by
    rcases hq with ⟨k, e, hk⟩ | hq
    · exact hD.2 k (q, e) hk
    · exact hA q (Nat.le_trans hS.1 hq)
  have hpre : ∀ U : State, U.heap = H → s.WarmedH U.vm → U.heap.size = H.size ∧ gPre D cy ad (gW cy Z ad σ) (va_A (gW cy Z ad σ) H.size) U := fun U hU hW => ⟨by rw [hU], by rw [hU]; exact hP, va_K.moved hW.alike hK, hD.weaken (fun _ _ _ _ => trivial), gY.weaken hA1 (gY.moved hW hS hU hY)⟩
  have hbl : FrameBlind (va_Pc (av ad) (fun U => U.heap.size = H.size ∧ gPre D cy ad (gW cy Z ad σ) (va_A (gW cy Z ad σ) H.size) U)) := fun a U g mk q => by
    obtain ⟨q0, q1, qP, qK, qD, qY⟩ := q
    exact ⟨q0, q1, qP, va_K.moved (u := U) (U := U.calling g mk a) (Vm.Alike.refl U.vm) qK, qD, gY.same (U := U) (V := U.calling g mk a) rfl rfl qY⟩
  have hG : GoodIn TB (Cond.code y cc2 nL2 none :: TB) := TBg hcw.1
  cases hF : F σ with
  | none => rw [hF] at h; cases h
  | some z2 =>
  rw [hF] at h
  have hM2 := hM l D cy ad H.size σ z2 hF
  have hPS : PreS s H (va_Pc (av ad) (fun U => U.heap.size = H.size ∧ gPre D cy ad (gW cy Z ad σ) (va_A (gW cy Z ad σ) H.size) U)) As := ⟨hbl, fun U hU hW => ⟨by rw [hav], hpre U hU hW⟩⟩
  rcases hln with hln | ⟨host, hln⟩
  · exact va_callv (va_runS (As := As) (rest := rest) ⟨hx, rfl, hml, hown, hts⟩ hM2 ⟨callB_of n hts hG rfl rfl rfl (hts _ hcw.2.1) (hts _ hln) hcw.2.2 hR, hts _ hcs⟩ hPS rfl hn hl.1 hst (lv_room hro) (hT j _ _ _ hd) ⟨hnc, hns⟩) hS (fun q _ h => hA1 q h) hA1 (fun u t H1 l1 ht hvm hw hB hz1 hk1 hS1 => by
    subst hw
    have hP1 : va_P D vwCl (gW cy Z ad z2.2) H1 := by rw [← ht]; exact hB
    exact k _ _ h H1 l1 la hP1 (gD_fst gW_fst hD) hS1 hl)
  · exact va_callv (va_runSN (As := As) (rest := rest) ⟨hx, rfl, hml, hown, hts⟩ hM2 ⟨va_cnB n hts hG rfl rfl rfl (hY.nw _ hln) (hts _ hcw.2.1) hcw.2.2 hR, hts _ hcs, trivial⟩ hPS rfl hn hl.1 hst (lv_room hro) (hT j _ _ _ hd) ⟨hnc, hns⟩) hS (fun q _ h => hA1 q h) hA1 (fun u t H1 l1 ht hvm hw hB hz1 hk1 hS1 => by
    subst hw
    have hP1 : va_P D vwCl (gW cy Z ad z2.2) H1 := by rw [← ht]; exact hB
    exact k _ _ h H1 l1 la hP1 (gD_fst gW_fst hD) hS1 hl)
theorem g_callKi (C : gOkQ g T own nL rt R Z ad nc ns E) (j : Nat) {index : Nat} {y : MethodName} {cc2 : ByteArray} {nL2 L2 n : Nat} {ty : FieldType} {av : (Nat → Nat) → List Value} {F : gS → Option (Int32 × gS)} {f : Int32 → gS → Option α} (As rest : List Value) {i : Nat} (hi : i < 6) (hd : T[j]? = some (pc, .invokevirtual index, 3)) (hM : gMet y cc2 nL2 (some ty) L2 Z av F) (hln : gCn own index y) (hcw : gCw y cc2 nL2 (some ty) n) (hci : gCi y) (hyc : y.cls = "java/lang/String") (hav : av ad = .ref (ad (1000 + i)) :: As) (hst : st = As.reverse ++ .ref (ad (1000 + i)) :: rest) (hn : As.length = n) (hro : (rest.map fun v => v.category).sum ≤ 8) (hR : L2 + 1 ≤ R.frames ∧ 8 + (nL2 + 11) + 64 * L2 ≤ R.locals) (h : mCall (F σ) f = some z) (k : ∀ r σ1, f r σ1 = some z → g (pc + 3) ls (.int r :: rest) σ1) : g pc ls st σ := by
  obtain ⟨p, l, e, s, m, args, below, meth, c, A, D, cy, Q, hx, hT, hr, hml, hown, hts, hlk, hK, hA, hY, hE, hnc, hns, rfl⟩ := C
  intro H locs la hP hD hS hl
  have hA1 : ∀ q, va_A (gW cy Z ad σ) H.size q → A q := fun q hq => by
    rcases hq with ⟨k, e, hk⟩ | hq
    · exact hD.2 k (q, e) hk
    · exact hA q (Nat.le_trans hS.1 hq)
  have hpre : ∀ U : State, U.heap = H → s.WarmedH U.vm → U.heap.size = H.size ∧ gPre D cy ad (gW cy Z ad σ) (va_A (gW cy Z ad σ) H.size) U := fun U hU hW => ⟨by rw [hU], by rw [hU]; exact hP, va_K.moved hW.alike hK, hD.weaken (fun _ _ _ _ => trivial), gY.weaken hA1 (gY.moved hW hS hU hY)⟩
  have hbl : FrameBlind (va_Pc (av ad) (fun U => U.heap.size = H.size ∧ gPre D cy ad (gW cy Z ad σ) (va_A (gW cy Z ad σ) H.size) U)) := fun a U g mk q => by
    obtain ⟨q0, q1, qP, qK, qD, qY⟩ := q
    exact ⟨q0, q1, qP, va_K.moved (u := U) (U := U.calling g mk a) (Vm.Alike.refl U.vm) qK, qD, gY.same (U := U) (V := U.calling g mk a) rfl rfl qY⟩
  have hG : GoodIn TB (Cond.code y cc2 nL2 (some ty) :: TB) := TBg hcw.1
  cases hF : F σ with
  | none => rw [hF] at h; cases h
  | some z2 =>
  rw [hF] at h
  have hM2 := hM l D cy ad H.size σ z2 hF
  have hrv := vk_recv hY.2.2.2.2.2.1 hi hS
  rw [← hyc] at hrv
  have hPV : PreV s H y.cls (ad (1000 + i)) (va_Pc (av ad) (fun U => U.heap.size = H.size ∧ gPre D cy ad (gW cy Z ad σ) (va_A (gW cy Z ad σ) H.size) U)) As := ⟨hbl, hrv, fun U hU hW => ⟨by rw [hav], hpre U hU hW⟩⟩
  rcases hln with hln | ⟨host, hln⟩
  · exact va_calli (va_runV (As := As) (rest := rest) ⟨hx, rfl, hml, hown, hts⟩ hM2 ⟨callB_of n hts hG rfl rfl rfl (hts _ hcw.2.1) (hts _ hln) hcw.2.2 hR, hts _ hci.1, hts _ hci.2⟩ hPV rfl hn hl.1 hst (lv_room hro) (hT j _ _ _ hd) ⟨hnc, hns⟩) hS (fun q _ h => hA1 q h) hA1 (fun r u t H1 l1 ht hvm hw hB hz1 hk1 hS1 => by
    have e1 : r = z2.1 := congrArg Prod.fst hw
    have e2 : u = z2.2 := congrArg Prod.snd hw
    subst e1; subst e2
    have hP1 : va_P D vwCl (gW cy Z ad z2.2) H1 := by rw [← ht]; exact hB
    exact k _ _ h H1 l1 la hP1 (gD_fst gW_fst hD) hS1 hl)
  · exact va_calli (va_runVN (As := As) (rest := rest) ⟨hx, rfl, hml, hown, hts⟩ hM2 ⟨va_cnB n hts hG rfl rfl rfl (hY.nw _ hln) (hts _ hcw.2.1) hcw.2.2 hR, hts _ hci.1, hts _ hci.2⟩ hPV rfl hn hl.1 hst (lv_room hro) (hT j _ _ _ hd) ⟨hnc, hns⟩) hS (fun q _ h => hA1 q h) hA1 (fun r u t H1 l1 ht hvm hw hB hz1 hk1 hS1 => by
    have e1 : r = z2.1 := congrArg Prod.fst hw
    have e2 : u = z2.2 := congrArg Prod.snd hw
    subst e1; subst e2
    have hP1 : va_P D vwCl (gW cy Z ad z2.2) H1 := by rw [← ht]; exact hB
    exact k _ _ h H1 l1 la hP1 (gD_fst gW_fst hD) hS1 hl)
theorem g_kab (C : gOkQ g T own nL rt R Z ad nc ns E) (j : Nat) {index : Nat} (hd : T[j]? = some (pc, .getstatic index, 3)) {host : String} (hw : Cond.fieldLinkNest own index "CopiedFire" "KIND_ABOVE" "[I" host ∈ NW) (k : g (pc + 3) ls (.ref (ad 1200) :: st) σ) : g pc ls st σ := by
  obtain ⟨p, l, e, s, m, args, below, meth, c, A, D, cy, Q, hx, hT, hr, hml, hown, hts, hlk, hK, hA, hY, hE, hnc, hns, rfl⟩ := C
  intro H locs la hP hD hS hl
  exact va_getsN hx rfl hY.2.1 hS hown (hY.use hw args) (fun _ h => h) (hT j _ _ _ hd) (k H locs la hP hD hS hl)
theorem g_kald (C : gOkQ g T own nL rt R Z ad nc ns E) (j : Nat) {x : Int32} {a : Option α} (hd : T[j]? = some (pc, .iaload, 1)) (h : mIn 6 x a = some z) (k : a = some z → g (pc + 1) ls (.int (kab (nn x)) :: st) σ) : g pc ls (.int x :: .ref (ad 1200) :: st) σ := by
  obtain ⟨p, l, e, s, m, args, below, meth, c, A, D, cy, Q, hx, hT, hr, hml, hown, hts, hlk, hK, hA, hY, hE, hnc, hns, rfl⟩ := C
  intro H locs la hP hD hS hl
  obtain ⟨hin, h⟩ := h_in h
  exact va_ti hx rfl hY.2.2.1 hS hin rfl (hT j _ _ _ hd) (k h H locs la hP hD hS hl)
theorem g_cst (C : gOkQ g T own nL rt R Z ad nc ns E) (j : Nat) {index : Nat} (hd : T[j]? = some (pc, .getstatic index, 3)) (hw : Cond.fieldLink own index "java/lang/String" "COMPACT_STRINGS" "Z" ∈ TB) (k : g (pc + 3) ls (.int 1 :: st) σ) : g pc ls st σ := by
  obtain ⟨p, l, e, s, m, args, below, meth, c, A, D, cy, Q, hx, hT, hr, hml, hown, hts, hlk, hK, hA, hY, hE, hnc, hns, rfl⟩ := C
  intro H locs la hP hD hS hl
  exact va_gets hx rfl hY.2.2.2.1 hS hown (hts _ hw) (fun _ h => h) (hT j _ _ _ hd) (k H locs la hP hD hS hl)
theorem g_siob (C : gOkQ g T own nL rt R Z ad nc ns E) (j : Nat) {index : Nat} (hd : T[j]? = some (pc, .getstatic index, 3)) (hw : Cond.fieldLink own index "jdk/internal/util/Preconditions" "SIOOBE_FORMATTER" "Ljava/util/function/BiFunction;" ∈ TB) (k : ∀ v : Value, v.category = 1 → g (pc + 3) ls (v :: st) σ) : g pc ls st σ := by
  obtain ⟨p, l, e, s, m, args, below, meth, c, A, D, cy, Q, hx, hT, hr, hml, hown, hts, hlk, hK, hA, hY, hE, hnc, hns, rfl⟩ := C
  intro H locs la hP hD hS hl
  rcases hY.2.2.2.2.1 with hq | ⟨t, hq⟩
  · exact va_gets hx rfl hq hS hown (hts _ hw) (fun _ h => h) (hT j _ _ _ hd) (k _ rfl H locs la hP hD hS hl)
  · exact va_gets hx rfl hq hS hown (hts _ hw) (fun _ h => h) (hT j _ _ _ hd) (k _ rfl H locs la hP hD hS hl)
theorem g_ldcS (C : gOkQ g T own nL rt R Z ad nc ns E) (j : Nat) {index : Nat} (i : Nat) (hi : i < 6) (ho : own = "CopiedFire$Reader") (hix : sIx.getD i 0 = index) (hd : T[j]? = some (pc, .ldc index, 2)) (k : g (pc + 2) ls (.ref (ad (1000 + i)) :: st) σ) : g pc ls st σ := by
  obtain ⟨p, l, e, s, m, args, below, meth, c, A, D, cy, Q, hx, hT, hr, hml, hown, hts, hlk, hK, hA, hY, hE, hnc, hns, rfl⟩ := C
  intro H locs la hP hD hS hl
  subst ho; subst hix
  exact va_ldcS hx rfl hown (hY.2.2.2.2.2.2 i hi) (hT j _ _ _ hd) (k H locs la hP hD hS hl)
theorem g_sval (C : gOkQ g T own nL rt R Z ad nc ns E) (j : Nat) {index i : Nat} (hi : i < 6) (hd : T[j]? = some (pc, .getfield index, 3)) (hw : Cond.fieldLink own index "java/lang/String" "value" "[B" ∈ TB) (k : g (pc + 3) ls (.ref (ad (1100 + i)) :: st) σ) : g pc ls (.ref (ad (1000 + i)) :: st) σ := by
  obtain ⟨p, l, e, s, m, args, below, meth, c, A, D, cy, Q, hx, hT, hr, hml, hown, hts, hlk, hK, hA, hY, hE, hnc, hns, rfl⟩ := C
  intro H locs la hP hD hS hl
  exact vk_getf hx rfl (hY.2.2.2.2.2.1.1 i hi).2.2.1 hS hown (hts _ hw) (fun _ h => h) (hT j _ _ _ hd) (k H locs la hP hD hS hl)
theorem g_scod (C : gOkQ g T own nL rt R Z ad nc ns E) (j : Nat) {index i : Nat} (hi : i < 6) (hd : T[j]? = some (pc, .getfield index, 3)) (hw : Cond.fieldLink own index "java/lang/String" "coder" "B" ∈ TB) (k : g (pc + 3) ls (.int 0 :: st) σ) : g pc ls (.ref (ad (1000 + i)) :: st) σ := by
  obtain ⟨p, l, e, s, m, args, below, meth, c, A, D, cy, Q, hx, hT, hr, hml, hown, hts, hlk, hK, hA, hY, hE, hnc, hns, rfl⟩ := C
  intro H locs la hP hD hS hl
  exact vk_getf hx rfl (hY.2.2.2.2.2.1.1 i hi).2.1 hS hown (hts _ hw) (fun _ h => h) (hT j _ _ _ hd) (k H locs la hP hD hS hl)
theorem g_balen (C : gOkQ g T own nL rt R Z ad nc ns E) (j : Nat) {i : Nat} (hi : i < 6) (hd : T[j]? = some (pc, .arraylength, 1)) (k : g (pc + 1) ls (.int (Int32.ofNat (sLen.getD i 0)) :: st) σ) : g pc ls (.ref (ad (1100 + i)) :: st) σ := by
  obtain ⟨p, l, e, s, m, args, below, meth, c, A, D, cy, Q, hx, hT, hr, hml, hown, hts, hlk, hK, hA, hY, hE, hnc, hns, rfl⟩ := C
  intro H locs la hP hD hS hl
  exact va_tlen hx rfl (hY.2.2.2.2.2.1.1 i hi).2.2.2 hS rfl (hT j _ _ _ hd) (k H locs la hP hD hS hl)
theorem g_bald (C : gOkQ g T own nL rt R Z ad nc ns E) (j : Nat) {i : Nat} {x : Int32} {a : Option α} (hi : i < 6) (hd : T[j]? = some (pc, .baload, 1)) (h : mIn (sLen.getD i 0) x a = some z) (k : a = some z → g (pc + 1) ls (.int ((sByt.getD i []).getD (nn x) 0) :: st) σ) : g pc ls (.int x :: .ref (ad (1100 + i)) :: st) σ := by
  obtain ⟨p, l, e, s, m, args, below, meth, c, A, D, cy, Q, hx, hT, hr, hml, hown, hts, hlk, hK, hA, hY, hE, hnc, hns, rfl⟩ := C
  intro H locs la hP hD hS hl
  obtain ⟨hin, h⟩ := h_in h
  exact va_tb hx rfl (hY.2.2.2.2.2.1.1 i hi).2.2.2 hS hin rfl (hT j _ _ _ hd) (k h H locs la hP hD hS hl)
theorem g_i2b (C : gOkQ g T own nL rt R Z ad nc ns E) (j : Nat) {x : Int32} (hd : T[j]? = some (pc, .i2b, 1)) (k : g (pc + 1) ls (.int x.toInt8.toInt32 :: st) σ) : g pc ls (.int x :: st) σ := by
  obtain ⟨p, l, e, s, m, args, below, meth, c, A, D, cy, Q, hx, hT, hr, hml, hown, hts, hlk, hK, hA, hY, hE, hnc, hns, rfl⟩ := C
  intro H locs la hP hD hS hl
  exact lv_i2b hx rfl (hT j _ _ _ hd) rfl (k H locs la hP hD hS hl)
end
theorem g_ireturn {g : Nat → List (Nat × Value) → List Value → gS → Prop} {T : List (Nat × Instr × Nat)} {own : String} {nL : Nat} {L : Nat} {Z : List gH} {ad : Nat → Nat} {pc : Nat} {ls : List (Nat × Value)} {σ : gS} {z : Int32 × gS} {v : Int32} (C : gOk g T own nL (some .int) L Z ad z) (j : Nat) (hd : T[j]? = some (pc, .ireturn, 1)) (h : some (v, σ) = some z) : g pc ls [.int v] σ := by
  obtain ⟨p, l, e, s, m, args, below, meth, c, A, D, cy, Q, hx, hT, hr, hml, hown, hts, hlk, hK, hA, hY, hQ, hnc, hns, rfl⟩ := C
  intro H locs la hP hD hS hl
  subst hQ
  have hz : (v, σ) = z := Option.some.inj h
  exact W.zret hx rfl hr rfl (fun t ht hW => ⟨⟨v, σ, rfl, hz, by show va_P _ _ _ _; rw [ht]; exact hP⟩, hS.F ht⟩) hS.2.2 (hT j _ _ _ hd) hlk
theorem g_zreturn {g : Nat → List (Nat × Value) → List Value → gS → Prop} {T : List (Nat × Instr × Nat)} {own : String} {nL : Nat} {L : Nat} {Z : List gH} {ad : Nat → Nat} {pc : Nat} {ls : List (Nat × Value)} {σ : gS} {z : Int32 × gS} {v : Int32} (C : gOk g T own nL (some .boolean) L Z ad z) (j : Nat) (hd : T[j]? = some (pc, .ireturn, 1)) (h : mZ v σ = some z) : g pc ls [.int v] σ := by
  obtain ⟨p, l, e, s, m, args, below, meth, c, A, D, cy, Q, hx, hT, hr, hml, hown, hts, hlk, hK, hA, hY, hQ, hnc, hns, rfl⟩ := C
  intro H locs la hP hD hS hl
  subst hQ
  unfold mZ at h
  by_cases hv : v = 0 ∨ v = 1
  · rw [if_pos hv] at h
    have hz : (v, σ) = z := Option.some.inj h
    exact W.zret hx rfl hr (by rcases hv with rfl | rfl <;> rfl) (fun t ht hW => ⟨⟨v, σ, rfl, hz, by show va_P _ _ _ _; rw [ht]; exact hP⟩, hS.F ht⟩) hS.2.2 (hT j _ _ _ hd) hlk
  · rw [if_neg hv] at h; cases h
theorem g_nreturn {g : Nat → List (Nat × Value) → List Value → gS → Prop} {T : List (Nat × Instr × Nat)} {own : String} {nL : Nat} {L : Nat} {Z : List gH} {ad : Nat → Nat} {pc : Nat} {ls : List (Nat × Value)} {σ : gS} {z : Int32 × gS} {v : Int32} {ty : FieldType} (C : gOk g T own nL (some ty) L Z ad z) (j : Nat) (hty : ty = .char ∨ ty = .byte) (hd : T[j]? = some (pc, .ireturn, 1)) (h : (if vp_nar ty v = v then some (v, σ) else none) = some z) : g pc ls [.int v] σ := by
  obtain ⟨p, l, e, s, m, args, below, meth, c, A, D, cy, Q, hx, hT, hr, hml, hown, hts, hlk, hK, hA, hY, hQ, hnc, hns, rfl⟩ := C
  intro H locs la hP hD hS hl
  subst hQ
  by_cases hv : vp_nar ty v = v
  · rw [if_pos hv] at h
    have hz : (v, σ) = z := Option.some.inj h
    have hn : narrow ty (.int v) = .int v := by
      have e : narrow ty (.int v) = .int (vp_nar ty v) := by rcases hty with rfl | rfl <;> rfl
      rw [e, hv]
    exact W.zret hx rfl hr hn (fun t ht hW => ⟨⟨v, σ, rfl, hz, by show va_P _ _ _ _; rw [ht]; exact hP⟩, hS.F ht⟩) hS.2.2 (hT j _ _ _ hd) hlk
  · rw [if_neg hv] at h; cases h
theorem g_return {g : Nat → List (Nat × Value) → List Value → gS → Prop} {T : List (Nat × Instr × Nat)} {own : String} {nL : Nat} {L : Nat} {Z : List gH} {ad : Nat → Nat} {pc : Nat} {ls : List (Nat × Value)} {σ : gS} {z : Int32 × gS} (C : gOk g T own nL none L Z ad z) (j : Nat) (hd : T[j]? = some (pc, .return_, 1)) (h : some (0, σ) = some z) : g pc ls [] σ := by
  obtain ⟨p, l, e, s, m, args, below, meth, c, A, D, cy, Q, hx, hT, hr, hml, hown, hts, hlk, hK, hA, hY, hQ, hnc, hns, rfl⟩ := C
  intro H locs la hP hD hS hl
  subst hQ
  have hz : σ = z.2 := congrArg Prod.snd (Option.some.inj h)
  exact W.vret hx rfl hr (fun t ht hW => ⟨⟨σ, rfl, hz, by show va_P _ _ _ _; rw [ht]; exact hP⟩, hS.F ht⟩) hS.2.2 (hT j _ _ _ hd) hlk
theorem h_let {α β : Type} {a : α} {f : α → β} {w : β} {P : α → Prop} (h : mLet a f = w) (k : ∀ x, f x = w → P x) : P a := k a h
theorem h_some {α β : Type} {o : Option β} {f : β → Option α} {z : α} {P : Prop} (h : mSome o f = some z) (k : ∀ c, o = some c → f c = some z → P) : P := by
  cases o with
  | none => cases h
  | some c => exact k c rfl h
end
section
/-! ===== words by their places ===== -/
theorem tk1 {w : Cond} (h : w ∈ tables_1_1) : w ∈ lw_tbl := List.mem_append_right _ (show w ∈ tables_1_1 ++ (tables_1_2 ++ (tables_1_3 ++ (tables_1_4 ++ (tables_1_5 ++ tables_1_6)))) from (List.mem_append_left _ h))
theorem tk2 {w : Cond} (h : w ∈ tables_1_2) : w ∈ lw_tbl := List.mem_append_right _ (show w ∈ tables_1_1 ++ (tables_1_2 ++ (tables_1_3 ++ (tables_1_4 ++ (tables_1_5 ++ tables_1_6)))) from (List.mem_append_right _ (List.mem_append_left _ h)))
theorem tk3 {w : Cond} (h : w ∈ tables_1_3) : w ∈ lw_tbl := List.mem_append_right _ (show w ∈ tables_1_1 ++ (tables_1_2 ++ (tables_1_3 ++ (tables_1_4 ++ (tables_1_5 ++ tables_1_6)))) from (List.mem_append_right _ (List.mem_append_right _ (List.mem_append_left _ h))))
theorem tk4 {w : Cond} (h : w ∈ tables_1_4) : w ∈ lw_tbl := List.mem_append_right _ (show w ∈ tables_1_1 ++ (tables_1_2 ++ (tables_1_3 ++ (tables_1_4 ++ (tables_1_5 ++ tables_1_6)))) from (List.mem_append_right _ (List.mem_append_right _ (List.mem_append_right _ (List.mem_append_left _ h)))))
theorem tk5 {w : Cond} (h : w ∈ tables_1_5) : w ∈ lw_tbl := List.mem_append_right _ (show w ∈ tables_1_1 ++ (tables_1_2 ++ (tables_1_3 ++ (tables_1_4 ++ (tables_1_5 ++ tables_1_6)))) from (List.mem_append_right _ (List.mem_append_right _ (List.mem_append_right _ (List.mem_append_right _ (List.mem_append_left _ h))))))
theorem tk6 {w : Cond} (h : w ∈ tables_1_6) : w ∈ lw_tbl := List.mem_append_right _ (show w ∈ tables_1_1 ++ (tables_1_2 ++ (tables_1_3 ++ (tables_1_4 ++ (tables_1_5 ++ tables_1_6)))) from (List.mem_append_right _ (List.mem_append_right _ (List.mem_append_right _ (List.mem_append_right _ (List.mem_append_right _ h))))))
def RJS : String := "java/lang/String"
def RJL : String := "java/lang/StringLatin1"
def RJP : String := "jdk/internal/util/Preconditions"
def RJI : String := "java/lang/Integer"
def RJA : String := "java/util/Arrays"
theorem wd0 : Cond.laysFinal "CopiedFire$House" "CopiedFire$House" "laws" "LCopiedFire$Laws;" ∈ TB := TBm (tk1 (List.mem_of_getElem? (i := 93) (by decide +kernel))) rfl
theorem wd1 : Cond.laysFinal "CopiedFire$House" "CopiedFire$House" "kinds" "[I" ∈ TB := TBm (tk1 (List.mem_of_getElem? (i := 95) (by decide +kernel))) rfl
theorem wd2 : Cond.laysFinal "CopiedFire$House" "CopiedFire$House" "rooms" "[I" ∈ TB := TBm (tk1 (List.mem_of_getElem? (i := 97) (by decide +kernel))) rfl
theorem wd3 : Cond.laysFinal "CopiedFire$House" "CopiedFire$House" "fuels" "[I" ∈ TB := TBm (tk1 (List.mem_of_getElem? (i := 99) (by decide +kernel))) rfl
theorem wd4 : Cond.laysFinal "CopiedFire$House" "CopiedFire$House" "lits" "[I" ∈ TB := TBm (tk1 (List.mem_of_getElem? (i := 101) (by decide +kernel))) rfl
theorem wd5 : Cond.laysFinal "CopiedFire$House" "CopiedFire$House" "heats" "[I" ∈ TB := TBm (tk1 (List.mem_of_getElem? (i := 103) (by decide +kernel))) rfl
theorem wd6 : Cond.laysFinal "CopiedFire$House" "CopiedFire$House" "doors" "[I" ∈ TB := TBm (tk1 (List.mem_of_getElem? (i := 105) (by decide +kernel))) rfl
theorem wd7 : Cond.laysFinal "CopiedFire$House" "CopiedFire$House" "liked" "[I" ∈ TB := TBm (tk1 (List.mem_of_getElem? (i := 107) (by decide +kernel))) rfl
theorem wd8 : Cond.laysFinal "CopiedFire$House" "CopiedFire$House" "counting" "[I" ∈ TB := TBm (tk1 (List.mem_of_getElem? (i := 109) (by decide +kernel))) rfl
theorem wd9 : Cond.lays "CopiedFire$House" "CopiedFire$House" "things" "I" ∈ TB := TBm (tk1 (List.mem_of_getElem? (i := 111) (by decide +kernel))) rfl
theorem wd10 : Cond.lays "CopiedFire$House" "CopiedFire$House" "visitors" "I" ∈ TB := TBm (tk1 (List.mem_of_getElem? (i := 113) (by decide +kernel))) rfl
theorem wd11 : Cond.lays "CopiedFire$House" "CopiedFire$House" "texts" "I" ∈ TB := TBm (tk1 (List.mem_of_getElem? (i := 115) (by decide +kernel))) rfl
theorem wd12 : Cond.lays "CopiedFire$House" "CopiedFire$House" "wind" "I" ∈ TB := TBm (tk1 (List.mem_of_getElem? (i := 117) (by decide +kernel))) rfl
theorem wd13 : Cond.lays "CopiedFire$House" "CopiedFire$House" "cool" "I" ∈ TB := TBm (tk1 (List.mem_of_getElem? (i := 119) (by decide +kernel))) rfl
theorem wd14 : Cond.lays "CopiedFire$House" "CopiedFire$House" "burnt" "I" ∈ TB := TBm (tk1 (List.mem_of_getElem? (i := 121) (by decide +kernel))) rfl
theorem wd15 : Cond.lays "CopiedFire$House" "CopiedFire$House" "ashes" "I" ∈ TB := TBm (tk1 (List.mem_of_getElem? (i := 123) (by decide +kernel))) rfl
theorem wd16 : Cond.lays "CopiedFire$House" "CopiedFire$House" "slams" "I" ∈ TB := TBm (tk1 (List.mem_of_getElem? (i := 125) (by decide +kernel))) rfl
theorem wd17 : Cond.lays "CopiedFire$House" "CopiedFire$House" "minute" "I" ∈ TB := TBm (tk1 (List.mem_of_getElem? (i := 127) (by decide +kernel))) rfl
theorem wd18 : Cond.lays "CopiedFire$House" "CopiedFire$House" "z" "I" ∈ TB := TBm (tk1 (List.mem_of_getElem? (i := 129) (by decide +kernel))) rfl
theorem itX0 : ∀ w ∈ u_ws RX0 TX0 19, w ∈ TB := (List.forall_mem_cons.mpr ⟨wd0, (List.forall_mem_cons.mpr ⟨wd1, (List.forall_mem_cons.mpr ⟨wd2, (List.forall_mem_cons.mpr ⟨wd3, (List.forall_mem_cons.mpr ⟨wd4, (List.forall_mem_cons.mpr ⟨wd5, (List.forall_mem_cons.mpr ⟨wd6, (List.forall_mem_cons.mpr ⟨wd7, (List.forall_mem_cons.mpr ⟨wd8, (List.forall_mem_cons.mpr ⟨wd9, (List.forall_mem_cons.mpr ⟨wd10, (List.forall_mem_cons.mpr ⟨wd11, (List.forall_mem_cons.mpr ⟨wd12, (List.forall_mem_cons.mpr ⟨wd13, (List.forall_mem_cons.mpr ⟨wd14, (List.forall_mem_cons.mpr ⟨wd15, (List.forall_mem_cons.mpr ⟨wd16, (List.forall_mem_cons.mpr ⟨wd17, (List.forall_mem_cons.mpr ⟨wd18, (fun _ h => absurd h List.not_mem_nil)⟩)⟩)⟩)⟩)⟩)⟩)⟩)⟩)⟩)⟩)⟩)⟩)⟩)⟩)⟩)⟩)⟩)⟩)⟩)
theorem wd19 : Cond.laysFinal "CopiedFire$Laws" "CopiedFire$Laws" "rows" "[LCopiedFire$Text;" ∈ TB := TBm (tk1 (List.mem_of_getElem? (i := 39) (by decide +kernel))) rfl
theorem wd20 : Cond.laysFinal "CopiedFire$Laws" "CopiedFire$Laws" "stack" "[I" ∈ TB := TBm (tk1 (List.mem_of_getElem? (i := 41) (by decide +kernel))) rfl
theorem itX2 : ∀ w ∈ u_ws RX2 TX2 2, w ∈ TB := (List.forall_mem_cons.mpr ⟨wd19, (List.forall_mem_cons.mpr ⟨wd20, (fun _ h => absurd h List.not_mem_nil)⟩)⟩)
theorem wd21 : Cond.laysFinal "CopiedFire$Reader" "CopiedFire$Reader" "tape" "LCopiedFire$Tape;" ∈ TB := TBm (tk1 (List.mem_of_getElem? (i := 179) (by decide +kernel))) rfl
theorem wd22 : Cond.laysFinal "CopiedFire$Reader" "CopiedFire$Reader" "steps" "[I" ∈ TB := TBm (tk1 (List.mem_of_getElem? (i := 181) (by decide +kernel))) rfl
theorem wd23 : Cond.lays "CopiedFire$Reader" "CopiedFire$Reader" "made" "I" ∈ TB := TBm (tk1 (List.mem_of_getElem? (i := 183) (by decide +kernel))) rfl
theorem wd24 : Cond.lays "CopiedFire$Reader" "CopiedFire$Reader" "operands" "I" ∈ TB := TBm (tk1 (List.mem_of_getElem? (i := 185) (by decide +kernel))) rfl
theorem wd25 : Cond.lays "CopiedFire$Reader" "CopiedFire$Reader" "key" "I" ∈ TB := TBm (tk1 (List.mem_of_getElem? (i := 187) (by decide +kernel))) rfl
theorem wd26 : Cond.lays "CopiedFire$Reader" "CopiedFire$Reader" "token" "I" ∈ TB := TBm (tk1 (List.mem_of_getElem? (i := 189) (by decide +kernel))) rfl
theorem wd27 : Cond.lays "CopiedFire$Reader" "CopiedFire$Reader" "start" "I" ∈ TB := TBm (tk1 (List.mem_of_getElem? (i := 191) (by decide +kernel))) rfl
theorem wd28 : Cond.lays "CopiedFire$Reader" "CopiedFire$Reader" "next" "I" ∈ TB := TBm (tk1 (List.mem_of_getElem? (i := 193) (by decide +kernel))) rfl
theorem wd29 : Cond.lays "CopiedFire$Reader" "CopiedFire$Reader" "fault" "I" ∈ TB := TBm (tk1 (List.mem_of_getElem? (i := 195) (by decide +kernel))) rfl
theorem itX3 : ∀ w ∈ u_ws RX3 TX3 9, w ∈ TB := (List.forall_mem_cons.mpr ⟨wd21, (List.forall_mem_cons.mpr ⟨wd22, (List.forall_mem_cons.mpr ⟨wd23, (List.forall_mem_cons.mpr ⟨wd24, (List.forall_mem_cons.mpr ⟨wd25, (List.forall_mem_cons.mpr ⟨wd26, (List.forall_mem_cons.mpr ⟨wd27, (List.forall_mem_cons.mpr ⟨wd28, (List.forall_mem_cons.mpr ⟨wd29, (fun _ h => absurd h List.not_mem_nil)⟩)⟩)⟩)⟩)⟩)⟩)⟩)⟩)⟩)
theorem wd30 : Cond.laysFinal "CopiedFire$Seating" "CopiedFire$Seating" "likedByGroup" "[I" ∈ TB := TBm (tk1 (List.mem_of_getElem? (i := 141) (by decide +kernel))) rfl
theorem wd31 : Cond.laysFinal "CopiedFire$Seating" "CopiedFire$Seating" "given" "[I" ∈ TB := TBm (tk1 (List.mem_of_getElem? (i := 143) (by decide +kernel))) rfl
theorem itX4 : ∀ w ∈ u_ws RX4 TX4 2, w ∈ TB := (List.forall_mem_cons.mpr ⟨wd30, (List.forall_mem_cons.mpr ⟨wd31, (fun _ h => absurd h List.not_mem_nil)⟩)⟩)
theorem wd32 : Cond.laysFinal "CopiedFire$Sheet" "CopiedFire$Sheet" "places" "[I" ∈ TB := TBm (tk1 (List.mem_of_getElem? (i := 211) (by decide +kernel))) rfl
theorem wd33 : Cond.lays "CopiedFire$Sheet" "CopiedFire$Sheet" "sort" "I" ∈ TB := TBm (tk1 (List.mem_of_getElem? (i := 213) (by decide +kernel))) rfl
theorem wd34 : Cond.lays "CopiedFire$Sheet" "CopiedFire$Sheet" "length" "I" ∈ TB := TBm (tk1 (List.mem_of_getElem? (i := 215) (by decide +kernel))) rfl
theorem itX5 : ∀ w ∈ u_ws RX5 TX5 3, w ∈ TB := (List.forall_mem_cons.mpr ⟨wd32, (List.forall_mem_cons.mpr ⟨wd33, (List.forall_mem_cons.mpr ⟨wd34, (fun _ h => absurd h List.not_mem_nil)⟩)⟩)⟩)
theorem wd35 : Cond.laysFinal "CopiedFire$Slot" "CopiedFire$Slot" "row" "LCopiedFire$Sheet;" ∈ TB := TBm (tk1 (List.mem_of_getElem? (i := 234) (by decide +kernel))) rfl
theorem wd36 : Cond.lays "CopiedFire$Slot" "CopiedFire$Slot" "holds" "I" ∈ TB := TBm (tk1 (List.mem_of_getElem? (i := 236) (by decide +kernel))) rfl
theorem wd37 : Cond.lays "CopiedFire$Slot" "CopiedFire$Slot" "kind" "I" ∈ TB := TBm (tk1 (List.mem_of_getElem? (i := 238) (by decide +kernel))) rfl
theorem wd38 : Cond.lays "CopiedFire$Slot" "CopiedFire$Slot" "fuel" "I" ∈ TB := TBm (tk2 (List.mem_of_getElem? (i := 0) (by decide +kernel))) rfl
theorem wd39 : Cond.lays "CopiedFire$Slot" "CopiedFire$Slot" "number" "I" ∈ TB := TBm (tk2 (List.mem_of_getElem? (i := 2) (by decide +kernel))) rfl
theorem itX6 : ∀ w ∈ u_ws RX6 TX6 5, w ∈ TB := (List.forall_mem_cons.mpr ⟨wd35, (List.forall_mem_cons.mpr ⟨wd36, (List.forall_mem_cons.mpr ⟨wd37, (List.forall_mem_cons.mpr ⟨wd38, (List.forall_mem_cons.mpr ⟨wd39, (fun _ h => absurd h List.not_mem_nil)⟩)⟩)⟩)⟩)⟩)
theorem wd40 : Cond.laysFinal "CopiedFire$Tape" "CopiedFire$Tape" "bytes" "[I" ∈ TB := TBm (tk1 (List.mem_of_getElem? (i := 157) (by decide +kernel))) rfl
theorem wd41 : Cond.lays "CopiedFire$Tape" "CopiedFire$Tape" "length" "I" ∈ TB := TBm (tk1 (List.mem_of_getElem? (i := 159) (by decide +kernel))) rfl
theorem itX7 : ∀ w ∈ u_ws RX7 TX7 2, w ∈ TB := (List.forall_mem_cons.mpr ⟨wd40, (List.forall_mem_cons.mpr ⟨wd41, (fun _ h => absurd h List.not_mem_nil)⟩)⟩)
theorem wd42 : Cond.laysFinal "CopiedFire$Text" "CopiedFire$Text" "key" "I" ∈ TB := TBm (tk4 (List.mem_of_getElem? (i := 86) (by decide +kernel))) rfl
theorem wd43 : Cond.laysFinal "CopiedFire$Text" "CopiedFire$Text" "operands" "I" ∈ TB := TBm (tk4 (List.mem_of_getElem? (i := 88) (by decide +kernel))) rfl
theorem wd44 : Cond.laysFinal "CopiedFire$Text" "CopiedFire$Text" "steps" "[I" ∈ TB := TBm (tk4 (List.mem_of_getElem? (i := 90) (by decide +kernel))) rfl
theorem itX8 : ∀ w ∈ u_ws RX8 TX8 3, w ∈ TB := (List.forall_mem_cons.mpr ⟨wd42, (List.forall_mem_cons.mpr ⟨wd43, (List.forall_mem_cons.mpr ⟨wd44, (fun _ h => absurd h List.not_mem_nil)⟩)⟩)⟩)
theorem wd45 : Cond.laysFinal "CopiedFire" "CopiedFire" "laws" "LCopiedFire$Laws;" ∈ TB := TBm (tk2 (List.mem_of_getElem? (i := 18) (by decide +kernel))) rfl
theorem wd46 : Cond.laysFinal "CopiedFire" "CopiedFire" "now" "LCopiedFire$House;" ∈ TB := TBm (tk2 (List.mem_of_getElem? (i := 20) (by decide +kernel))) rfl
theorem wd47 : Cond.laysFinal "CopiedFire" "CopiedFire" "image" "LCopiedFire$House;" ∈ TB := TBm (tk2 (List.mem_of_getElem? (i := 22) (by decide +kernel))) rfl
theorem wd48 : Cond.laysFinal "CopiedFire" "CopiedFire" "thought" "LCopiedFire$House;" ∈ TB := TBm (tk2 (List.mem_of_getElem? (i := 24) (by decide +kernel))) rfl
theorem wd49 : Cond.laysFinal "CopiedFire" "CopiedFire" "seating" "LCopiedFire$Seating;" ∈ TB := TBm (tk2 (List.mem_of_getElem? (i := 26) (by decide +kernel))) rfl
theorem wd50 : Cond.laysFinal "CopiedFire" "CopiedFire" "tape" "LCopiedFire$Tape;" ∈ TB := TBm (tk2 (List.mem_of_getElem? (i := 28) (by decide +kernel))) rfl
theorem wd51 : Cond.laysFinal "CopiedFire" "CopiedFire" "reader" "LCopiedFire$Reader;" ∈ TB := TBm (tk2 (List.mem_of_getElem? (i := 30) (by decide +kernel))) rfl
theorem wd52 : Cond.laysFinal "CopiedFire" "CopiedFire" "sheets" "[LCopiedFire$Sheet;" ∈ TB := TBm (tk2 (List.mem_of_getElem? (i := 32) (by decide +kernel))) rfl
theorem wd53 : Cond.laysFinal "CopiedFire" "CopiedFire" "slots" "[LCopiedFire$Slot;" ∈ TB := TBm (tk2 (List.mem_of_getElem? (i := 34) (by decide +kernel))) rfl
theorem wd54 : Cond.laysFinal "CopiedFire" "CopiedFire" "sums" "[I" ∈ TB := TBm (tk2 (List.mem_of_getElem? (i := 36) (by decide +kernel))) rfl
theorem wd55 : Cond.laysFinal "CopiedFire" "CopiedFire" "waiting" "[I" ∈ TB := TBm (tk2 (List.mem_of_getElem? (i := 38) (by decide +kernel))) rfl
theorem wd56 : Cond.lays "CopiedFire" "CopiedFire" "waits" "I" ∈ TB := TBm (tk2 (List.mem_of_getElem? (i := 40) (by decide +kernel))) rfl
theorem wd57 : Cond.lays "CopiedFire" "CopiedFire" "kept" "Z" ∈ TB := TBm (tk2 (List.mem_of_getElem? (i := 42) (by decide +kernel))) rfl
theorem itX9 : ∀ w ∈ u_ws RX9 TX9 13, w ∈ TB := (List.forall_mem_cons.mpr ⟨wd45, (List.forall_mem_cons.mpr ⟨wd46, (List.forall_mem_cons.mpr ⟨wd47, (List.forall_mem_cons.mpr ⟨wd48, (List.forall_mem_cons.mpr ⟨wd49, (List.forall_mem_cons.mpr ⟨wd50, (List.forall_mem_cons.mpr ⟨wd51, (List.forall_mem_cons.mpr ⟨wd52, (List.forall_mem_cons.mpr ⟨wd53, (List.forall_mem_cons.mpr ⟨wd54, (List.forall_mem_cons.mpr ⟨wd55, (List.forall_mem_cons.mpr ⟨wd56, (List.forall_mem_cons.mpr ⟨wd57, (fun _ h => absurd h List.not_mem_nil)⟩)⟩)⟩)⟩)⟩)⟩)⟩)⟩)⟩)⟩)⟩)⟩)⟩)
theorem wd58 : Cond.laysFinal "CopiedFireModel" "CopiedFireModel" "now" "[I" ∈ TB := TBm (tk5 (List.mem_of_getElem? (i := 3) (by decide +kernel))) rfl
theorem wd59 : Cond.laysFinal "CopiedFireModel" "CopiedFireModel" "image" "[I" ∈ TB := TBm (tk5 (List.mem_of_getElem? (i := 5) (by decide +kernel))) rfl
theorem wd60 : Cond.laysFinal "CopiedFireModel" "CopiedFireModel" "aside" "[I" ∈ TB := TBm (tk5 (List.mem_of_getElem? (i := 7) (by decide +kernel))) rfl
theorem wd61 : Cond.lays "CopiedFireModel" "CopiedFireModel" "hasImage" "Z" ∈ TB := TBm (tk5 (List.mem_of_getElem? (i := 9) (by decide +kernel))) rfl
theorem wd62 : Cond.laysFinal "CopiedFireModel" "CopiedFireModel" "seat" "[I" ∈ TB := TBm (tk5 (List.mem_of_getElem? (i := 11) (by decide +kernel))) rfl
theorem wd63 : Cond.laysFinal "CopiedFireModel" "CopiedFireModel" "bestSeat" "[I" ∈ TB := TBm (tk5 (List.mem_of_getElem? (i := 13) (by decide +kernel))) rfl
theorem wd64 : Cond.lays "CopiedFireModel" "CopiedFireModel" "mostSeats" "I" ∈ TB := TBm (tk5 (List.mem_of_getElem? (i := 15) (by decide +kernel))) rfl
theorem wd65 : Cond.laysFinal "CopiedFireModel" "CopiedFireModel" "before" "[I" ∈ TB := TBm (tk5 (List.mem_of_getElem? (i := 17) (by decide +kernel))) rfl
theorem wd66 : Cond.laysFinal "CopiedFireModel" "CopiedFireModel" "off" "[I" ∈ TB := TBm (tk5 (List.mem_of_getElem? (i := 19) (by decide +kernel))) rfl
theorem wd67 : Cond.laysFinal "CopiedFireModel" "CopiedFireModel" "tape" "[I" ∈ TB := TBm (tk5 (List.mem_of_getElem? (i := 21) (by decide +kernel))) rfl
theorem wd68 : Cond.lays "CopiedFireModel" "CopiedFireModel" "taped" "I" ∈ TB := TBm (tk5 (List.mem_of_getElem? (i := 23) (by decide +kernel))) rfl
theorem wd69 : Cond.lays "CopiedFireModel" "CopiedFireModel" "next" "I" ∈ TB := TBm (tk5 (List.mem_of_getElem? (i := 25) (by decide +kernel))) rfl
theorem wd70 : Cond.lays "CopiedFireModel" "CopiedFireModel" "from" "I" ∈ TB := TBm (tk5 (List.mem_of_getElem? (i := 27) (by decide +kernel))) rfl
theorem wd71 : Cond.lays "CopiedFireModel" "CopiedFireModel" "token" "I" ∈ TB := TBm (tk5 (List.mem_of_getElem? (i := 29) (by decide +kernel))) rfl
theorem wd72 : Cond.lays "CopiedFireModel" "CopiedFireModel" "value" "I" ∈ TB := TBm (tk5 (List.mem_of_getElem? (i := 31) (by decide +kernel))) rfl
theorem wd73 : Cond.lays "CopiedFireModel" "CopiedFireModel" "ended" "I" ∈ TB := TBm (tk5 (List.mem_of_getElem? (i := 33) (by decide +kernel))) rfl
theorem wd74 : Cond.lays "CopiedFireModel" "CopiedFireModel" "key" "I" ∈ TB := TBm (tk5 (List.mem_of_getElem? (i := 35) (by decide +kernel))) rfl
theorem wd75 : Cond.laysFinal "CopiedFireModel" "CopiedFireModel" "keys" "[C" ∈ TB := TBm (tk5 (List.mem_of_getElem? (i := 37) (by decide +kernel))) rfl
theorem wd76 : Cond.laysFinal "CopiedFireModel" "CopiedFireModel" "keyAt" "[I" ∈ TB := TBm (tk5 (List.mem_of_getElem? (i := 39) (by decide +kernel))) rfl
theorem wd77 : Cond.laysFinal "CopiedFireModel" "CopiedFireModel" "code" "[I" ∈ TB := TBm (tk5 (List.mem_of_getElem? (i := 41) (by decide +kernel))) rfl
theorem wd78 : Cond.lays "CopiedFireModel" "CopiedFireModel" "codes" "I" ∈ TB := TBm (tk5 (List.mem_of_getElem? (i := 43) (by decide +kernel))) rfl
theorem wd79 : Cond.lays "CopiedFireModel" "CopiedFireModel" "atoms" "I" ∈ TB := TBm (tk5 (List.mem_of_getElem? (i := 45) (by decide +kernel))) rfl
theorem wd80 : Cond.laysFinal "CopiedFireModel" "CopiedFireModel" "waits" "[I" ∈ TB := TBm (tk5 (List.mem_of_getElem? (i := 47) (by decide +kernel))) rfl
theorem wd81 : Cond.lays "CopiedFireModel" "CopiedFireModel" "held" "I" ∈ TB := TBm (tk5 (List.mem_of_getElem? (i := 49) (by decide +kernel))) rfl
theorem wd82 : Cond.laysFinal "CopiedFireModel" "CopiedFireModel" "tested" "[Z" ∈ TB := TBm (tk5 (List.mem_of_getElem? (i := 51) (by decide +kernel))) rfl
theorem wd83 : Cond.laysFinal "CopiedFireModel" "CopiedFireModel" "stack" "[I" ∈ TB := TBm (tk5 (List.mem_of_getElem? (i := 53) (by decide +kernel))) rfl
theorem wd84 : Cond.laysFinal "CopiedFireModel" "CopiedFireModel" "facts" "[I" ∈ TB := TBm (tk5 (List.mem_of_getElem? (i := 55) (by decide +kernel))) rfl
theorem wd85 : Cond.laysFinal "CopiedFireModel" "CopiedFireModel" "sorts" "[I" ∈ TB := TBm (tk5 (List.mem_of_getElem? (i := 57) (by decide +kernel))) rfl
theorem wd86 : Cond.laysFinal "CopiedFireModel" "CopiedFireModel" "sizes" "[I" ∈ TB := TBm (tk5 (List.mem_of_getElem? (i := 59) (by decide +kernel))) rfl
theorem wd87 : Cond.laysFinal "CopiedFireModel" "CopiedFireModel" "cells" "[I" ∈ TB := TBm (tk5 (List.mem_of_getElem? (i := 61) (by decide +kernel))) rfl
theorem wd88 : Cond.laysFinal "CopiedFireModel" "CopiedFireModel" "holds" "[I" ∈ TB := TBm (tk5 (List.mem_of_getElem? (i := 63) (by decide +kernel))) rfl
theorem wd89 : Cond.laysFinal "CopiedFireModel" "CopiedFireModel" "holdsA" "[I" ∈ TB := TBm (tk5 (List.mem_of_getElem? (i := 65) (by decide +kernel))) rfl
theorem wd90 : Cond.laysFinal "CopiedFireModel" "CopiedFireModel" "holdsB" "[I" ∈ TB := TBm (tk5 (List.mem_of_getElem? (i := 67) (by decide +kernel))) rfl
theorem wd91 : Cond.laysFinal "CopiedFireModel" "CopiedFireModel" "heldCells" "[I" ∈ TB := TBm (tk5 (List.mem_of_getElem? (i := 69) (by decide +kernel))) rfl
theorem wd92 : Cond.laysFinal "CopiedFireModel" "CopiedFireModel" "moved" "[I" ∈ TB := TBm (tk5 (List.mem_of_getElem? (i := 71) (by decide +kernel))) rfl
theorem wd93 : Cond.laysFinal "CopiedFireModel" "CopiedFireModel" "tells" "[I" ∈ TB := TBm (tk5 (List.mem_of_getElem? (i := 73) (by decide +kernel))) rfl
theorem wd94 : Cond.lays "CopiedFireModel" "CopiedFireModel" "waiting" "I" ∈ TB := TBm (tk5 (List.mem_of_getElem? (i := 75) (by decide +kernel))) rfl
theorem itX10 : ∀ w ∈ u_ws RX10 TX10 37, w ∈ TB := (List.forall_mem_cons.mpr ⟨wd58, (List.forall_mem_cons.mpr ⟨wd59, (List.forall_mem_cons.mpr ⟨wd60, (List.forall_mem_cons.mpr ⟨wd61, (List.forall_mem_cons.mpr ⟨wd62, (List.forall_mem_cons.mpr ⟨wd63, (List.forall_mem_cons.mpr ⟨wd64, (List.forall_mem_cons.mpr ⟨wd65, (List.forall_mem_cons.mpr ⟨wd66, (List.forall_mem_cons.mpr ⟨wd67, (List.forall_mem_cons.mpr ⟨wd68, (List.forall_mem_cons.mpr ⟨wd69, (List.forall_mem_cons.mpr ⟨wd70, (List.forall_mem_cons.mpr ⟨wd71, (List.forall_mem_cons.mpr ⟨wd72, (List.forall_mem_cons.mpr ⟨wd73, (List.forall_mem_cons.mpr ⟨wd74, (List.forall_mem_cons.mpr ⟨wd75, (List.forall_mem_cons.mpr ⟨wd76, (List.forall_mem_cons.mpr ⟨wd77, (List.forall_mem_cons.mpr ⟨wd78, (List.forall_mem_cons.mpr ⟨wd79, (List.forall_mem_cons.mpr ⟨wd80, (List.forall_mem_cons.mpr ⟨wd81, (List.forall_mem_cons.mpr ⟨wd82, (List.forall_mem_cons.mpr ⟨wd83, (List.forall_mem_cons.mpr ⟨wd84, (List.forall_mem_cons.mpr ⟨wd85, (List.forall_mem_cons.mpr ⟨wd86, (List.forall_mem_cons.mpr ⟨wd87, (List.forall_mem_cons.mpr ⟨wd88, (List.forall_mem_cons.mpr ⟨wd89, (List.forall_mem_cons.mpr ⟨wd90, (List.forall_mem_cons.mpr ⟨wd91, (List.forall_mem_cons.mpr ⟨wd92, (List.forall_mem_cons.mpr ⟨wd93, (List.forall_mem_cons.mpr ⟨wd94, (fun _ h => absurd h List.not_mem_nil)⟩)⟩)⟩)⟩)⟩)⟩)⟩)⟩)⟩)⟩)⟩)⟩)⟩)⟩)⟩)⟩)⟩)⟩)⟩)⟩)⟩)⟩)⟩)⟩)⟩)⟩)⟩)⟩)⟩)⟩)⟩)⟩)⟩)⟩)⟩)⟩)⟩)
theorem wd95 : Cond.fieldLink "CopiedFire$Laws" 11 "CopiedFire$Laws" "rows" "[LCopiedFire$Text;" ∈ TB := TBm (tk1 (List.mem_of_getElem? (i := 37) (by decide +kernel))) rfl
theorem flX2_11 : gFl RX2 11 1 0 := ⟨RX2, TX2, 2, rfl, by decide, itX2, Or.inl wd95⟩
theorem wd96 : Cond.fieldLink "CopiedFire$Laws" 17 "CopiedFire$Laws" "stack" "[I" ∈ TB := TBm (tk1 (List.mem_of_getElem? (i := 38) (by decide +kernel))) rfl
theorem flX2_17 : gFl RX2 17 1 1 := ⟨RX2, TX2, 2, rfl, by decide, itX2, Or.inl wd96⟩
theorem wd97 : Cond.fieldLink "CopiedFire$House" 9 "CopiedFire$House" "laws" "LCopiedFire$Laws;" ∈ TB := TBm (tk1 (List.mem_of_getElem? (i := 54) (by decide +kernel))) rfl
theorem flX0_9 : gFl RX0 9 0 0 := ⟨RX0, TX0, 19, rfl, by decide, itX0, Or.inl wd97⟩
theorem wd98 : Cond.fieldLink "CopiedFire$House" 15 "CopiedFire$House" "kinds" "[I" ∈ TB := TBm (tk1 (List.mem_of_getElem? (i := 55) (by decide +kernel))) rfl
theorem flX0_15 : gFl RX0 15 0 1 := ⟨RX0, TX0, 19, rfl, by decide, itX0, Or.inl wd98⟩
theorem wn0 : Cond.fieldLinkNest "CopiedFire" 106 "CopiedFire$House" "kinds" "[I" "CopiedFire" ∈ NW := NWm (tk1 (List.mem_of_getElem? (i := 56) (by decide +kernel))) rfl
theorem flX9_106 : gFl RX9 106 0 1 := ⟨RX0, TX0, 19, rfl, by decide, itX0, Or.inr ⟨_, wn0⟩⟩
theorem wd99 : Cond.fieldLink "CopiedFire$House" 19 "CopiedFire$House" "rooms" "[I" ∈ TB := TBm (tk1 (List.mem_of_getElem? (i := 57) (by decide +kernel))) rfl
theorem flX0_19 : gFl RX0 19 0 2 := ⟨RX0, TX0, 19, rfl, by decide, itX0, Or.inl wd99⟩
theorem wn1 : Cond.fieldLinkNest "CopiedFire" 109 "CopiedFire$House" "rooms" "[I" "CopiedFire" ∈ NW := NWm (tk1 (List.mem_of_getElem? (i := 58) (by decide +kernel))) rfl
theorem flX9_109 : gFl RX9 109 0 2 := ⟨RX0, TX0, 19, rfl, by decide, itX0, Or.inr ⟨_, wn1⟩⟩
theorem wd100 : Cond.fieldLink "CopiedFire$House" 22 "CopiedFire$House" "fuels" "[I" ∈ TB := TBm (tk1 (List.mem_of_getElem? (i := 59) (by decide +kernel))) rfl
theorem flX0_22 : gFl RX0 22 0 3 := ⟨RX0, TX0, 19, rfl, by decide, itX0, Or.inl wd100⟩
theorem wn2 : Cond.fieldLinkNest "CopiedFire" 112 "CopiedFire$House" "fuels" "[I" "CopiedFire" ∈ NW := NWm (tk1 (List.mem_of_getElem? (i := 60) (by decide +kernel))) rfl
theorem flX9_112 : gFl RX9 112 0 3 := ⟨RX0, TX0, 19, rfl, by decide, itX0, Or.inr ⟨_, wn2⟩⟩
theorem wd101 : Cond.fieldLink "CopiedFire$House" 25 "CopiedFire$House" "lits" "[I" ∈ TB := TBm (tk1 (List.mem_of_getElem? (i := 61) (by decide +kernel))) rfl
theorem flX0_25 : gFl RX0 25 0 4 := ⟨RX0, TX0, 19, rfl, by decide, itX0, Or.inl wd101⟩
theorem wn3 : Cond.fieldLinkNest "CopiedFire" 115 "CopiedFire$House" "lits" "[I" "CopiedFire" ∈ NW := NWm (tk1 (List.mem_of_getElem? (i := 62) (by decide +kernel))) rfl
theorem flX9_115 : gFl RX9 115 0 4 := ⟨RX0, TX0, 19, rfl, by decide, itX0, Or.inr ⟨_, wn3⟩⟩
theorem wd102 : Cond.fieldLink "CopiedFire$House" 28 "CopiedFire$House" "heats" "[I" ∈ TB := TBm (tk1 (List.mem_of_getElem? (i := 63) (by decide +kernel))) rfl
theorem flX0_28 : gFl RX0 28 0 5 := ⟨RX0, TX0, 19, rfl, by decide, itX0, Or.inl wd102⟩
theorem wn4 : Cond.fieldLinkNest "CopiedFire$Seating" 37 "CopiedFire$House" "heats" "[I" "CopiedFire" ∈ NW := NWm (tk1 (List.mem_of_getElem? (i := 64) (by decide +kernel))) rfl
theorem flX4_37 : gFl RX4 37 0 5 := ⟨RX0, TX0, 19, rfl, by decide, itX0, Or.inr ⟨_, wn4⟩⟩
theorem wn5 : Cond.fieldLinkNest "CopiedFire" 154 "CopiedFire$House" "heats" "[I" "CopiedFire" ∈ NW := NWm (tk1 (List.mem_of_getElem? (i := 65) (by decide +kernel))) rfl
theorem flX9_154 : gFl RX9 154 0 5 := ⟨RX0, TX0, 19, rfl, by decide, itX0, Or.inr ⟨_, wn5⟩⟩
theorem wd103 : Cond.fieldLink "CopiedFire$House" 31 "CopiedFire$House" "doors" "[I" ∈ TB := TBm (tk1 (List.mem_of_getElem? (i := 66) (by decide +kernel))) rfl
theorem flX0_31 : gFl RX0 31 0 6 := ⟨RX0, TX0, 19, rfl, by decide, itX0, Or.inl wd103⟩
theorem wd104 : Cond.fieldLink "CopiedFire$House" 34 "CopiedFire$House" "liked" "[I" ∈ TB := TBm (tk1 (List.mem_of_getElem? (i := 67) (by decide +kernel))) rfl
theorem flX0_34 : gFl RX0 34 0 7 := ⟨RX0, TX0, 19, rfl, by decide, itX0, Or.inl wd104⟩
theorem wn6 : Cond.fieldLinkNest "CopiedFire$Seating" 40 "CopiedFire$House" "liked" "[I" "CopiedFire" ∈ NW := NWm (tk1 (List.mem_of_getElem? (i := 68) (by decide +kernel))) rfl
theorem flX4_40 : gFl RX4 40 0 7 := ⟨RX0, TX0, 19, rfl, by decide, itX0, Or.inr ⟨_, wn6⟩⟩
theorem wn7 : Cond.fieldLinkNest "CopiedFire" 176 "CopiedFire$House" "liked" "[I" "CopiedFire" ∈ NW := NWm (tk1 (List.mem_of_getElem? (i := 69) (by decide +kernel))) rfl
theorem flX9_176 : gFl RX9 176 0 7 := ⟨RX0, TX0, 19, rfl, by decide, itX0, Or.inr ⟨_, wn7⟩⟩
theorem wd105 : Cond.fieldLink "CopiedFire$House" 37 "CopiedFire$House" "counting" "[I" ∈ TB := TBm (tk1 (List.mem_of_getElem? (i := 70) (by decide +kernel))) rfl
theorem flX0_37 : gFl RX0 37 0 8 := ⟨RX0, TX0, 19, rfl, by decide, itX0, Or.inl wd105⟩
theorem wn8 : Cond.fieldLinkNest "CopiedFire" 239 "CopiedFire$House" "counting" "[I" "CopiedFire" ∈ NW := NWm (tk1 (List.mem_of_getElem? (i := 71) (by decide +kernel))) rfl
theorem flX9_239 : gFl RX9 239 0 8 := ⟨RX0, TX0, 19, rfl, by decide, itX0, Or.inr ⟨_, wn8⟩⟩
theorem wn9 : Cond.fieldLinkNest "CopiedFire" 95 "CopiedFire$House" "things" "I" "CopiedFire" ∈ NW := NWm (tk1 (List.mem_of_getElem? (i := 72) (by decide +kernel))) rfl
theorem flX9_95 : gFl RX9 95 0 9 := ⟨RX0, TX0, 19, rfl, by decide, itX0, Or.inr ⟨_, wn9⟩⟩
theorem fpX9_95 : gFp RX9 95 0 9 .int := ⟨RX0, TX0, 19, rfl, by decide, itX0, ⟨tyX0, tyX0_ok⟩, nmX0, rfl, by decide +kernel, Or.inr ⟨_, wn9⟩⟩
theorem wd106 : Cond.fieldLink "CopiedFire$House" 62 "CopiedFire$House" "things" "I" ∈ TB := TBm (tk1 (List.mem_of_getElem? (i := 73) (by decide +kernel))) rfl
theorem flX0_62 : gFl RX0 62 0 9 := ⟨RX0, TX0, 19, rfl, by decide, itX0, Or.inl wd106⟩
theorem fpX0_62 : gFp RX0 62 0 9 .int := ⟨RX0, TX0, 19, rfl, by decide, itX0, ⟨tyX0, tyX0_ok⟩, nmX0, rfl, by decide +kernel, Or.inl wd106⟩
theorem wn10 : Cond.fieldLinkNest "CopiedFire$Seating" 22 "CopiedFire$House" "visitors" "I" "CopiedFire" ∈ NW := NWm (tk1 (List.mem_of_getElem? (i := 74) (by decide +kernel))) rfl
theorem flX4_22 : gFl RX4 22 0 10 := ⟨RX0, TX0, 19, rfl, by decide, itX0, Or.inr ⟨_, wn10⟩⟩
theorem fpX4_22 : gFp RX4 22 0 10 .int := ⟨RX0, TX0, 19, rfl, by decide, itX0, ⟨tyX0, tyX0_ok⟩, nmX0, rfl, by decide +kernel, Or.inr ⟨_, wn10⟩⟩
theorem wd107 : Cond.fieldLink "CopiedFire$House" 65 "CopiedFire$House" "visitors" "I" ∈ TB := TBm (tk1 (List.mem_of_getElem? (i := 75) (by decide +kernel))) rfl
theorem flX0_65 : gFl RX0 65 0 10 := ⟨RX0, TX0, 19, rfl, by decide, itX0, Or.inl wd107⟩
theorem fpX0_65 : gFp RX0 65 0 10 .int := ⟨RX0, TX0, 19, rfl, by decide, itX0, ⟨tyX0, tyX0_ok⟩, nmX0, rfl, by decide +kernel, Or.inl wd107⟩
theorem wn11 : Cond.fieldLinkNest "CopiedFire" 173 "CopiedFire$House" "visitors" "I" "CopiedFire" ∈ NW := NWm (tk1 (List.mem_of_getElem? (i := 76) (by decide +kernel))) rfl
theorem flX9_173 : gFl RX9 173 0 10 := ⟨RX0, TX0, 19, rfl, by decide, itX0, Or.inr ⟨_, wn11⟩⟩
theorem fpX9_173 : gFp RX9 173 0 10 .int := ⟨RX0, TX0, 19, rfl, by decide, itX0, ⟨tyX0, tyX0_ok⟩, nmX0, rfl, by decide +kernel, Or.inr ⟨_, wn11⟩⟩
theorem wd108 : Cond.fieldLink "CopiedFire$House" 68 "CopiedFire$House" "texts" "I" ∈ TB := TBm (tk1 (List.mem_of_getElem? (i := 77) (by decide +kernel))) rfl
theorem flX0_68 : gFl RX0 68 0 11 := ⟨RX0, TX0, 19, rfl, by decide, itX0, Or.inl wd108⟩
theorem fpX0_68 : gFp RX0 68 0 11 .int := ⟨RX0, TX0, 19, rfl, by decide, itX0, ⟨tyX0, tyX0_ok⟩, nmX0, rfl, by decide +kernel, Or.inl wd108⟩
theorem wn12 : Cond.fieldLinkNest "CopiedFire" 258 "CopiedFire$House" "texts" "I" "CopiedFire" ∈ NW := NWm (tk1 (List.mem_of_getElem? (i := 78) (by decide +kernel))) rfl
theorem flX9_258 : gFl RX9 258 0 11 := ⟨RX0, TX0, 19, rfl, by decide, itX0, Or.inr ⟨_, wn12⟩⟩
theorem fpX9_258 : gFp RX9 258 0 11 .int := ⟨RX0, TX0, 19, rfl, by decide, itX0, ⟨tyX0, tyX0_ok⟩, nmX0, rfl, by decide +kernel, Or.inr ⟨_, wn12⟩⟩
theorem wd109 : Cond.fieldLink "CopiedFire$House" 46 "CopiedFire$House" "wind" "I" ∈ TB := TBm (tk1 (List.mem_of_getElem? (i := 79) (by decide +kernel))) rfl
theorem flX0_46 : gFl RX0 46 0 12 := ⟨RX0, TX0, 19, rfl, by decide, itX0, Or.inl wd109⟩
theorem fpX0_46 : gFp RX0 46 0 12 .int := ⟨RX0, TX0, 19, rfl, by decide, itX0, ⟨tyX0, tyX0_ok⟩, nmX0, rfl, by decide +kernel, Or.inl wd109⟩
theorem wn13 : Cond.fieldLinkNest "CopiedFire" 167 "CopiedFire$House" "wind" "I" "CopiedFire" ∈ NW := NWm (tk1 (List.mem_of_getElem? (i := 80) (by decide +kernel))) rfl
theorem flX9_167 : gFl RX9 167 0 12 := ⟨RX0, TX0, 19, rfl, by decide, itX0, Or.inr ⟨_, wn13⟩⟩
theorem fpX9_167 : gFp RX9 167 0 12 .int := ⟨RX0, TX0, 19, rfl, by decide, itX0, ⟨tyX0, tyX0_ok⟩, nmX0, rfl, by decide +kernel, Or.inr ⟨_, wn13⟩⟩
theorem wd110 : Cond.fieldLink "CopiedFire$House" 50 "CopiedFire$House" "cool" "I" ∈ TB := TBm (tk1 (List.mem_of_getElem? (i := 81) (by decide +kernel))) rfl
theorem flX0_50 : gFl RX0 50 0 13 := ⟨RX0, TX0, 19, rfl, by decide, itX0, Or.inl wd110⟩
theorem fpX0_50 : gFp RX0 50 0 13 .int := ⟨RX0, TX0, 19, rfl, by decide, itX0, ⟨tyX0, tyX0_ok⟩, nmX0, rfl, by decide +kernel, Or.inl wd110⟩
theorem wn14 : Cond.fieldLinkNest "CopiedFire" 170 "CopiedFire$House" "cool" "I" "CopiedFire" ∈ NW := NWm (tk1 (List.mem_of_getElem? (i := 82) (by decide +kernel))) rfl
theorem flX9_170 : gFl RX9 170 0 13 := ⟨RX0, TX0, 19, rfl, by decide, itX0, Or.inr ⟨_, wn14⟩⟩
theorem fpX9_170 : gFp RX9 170 0 13 .int := ⟨RX0, TX0, 19, rfl, by decide, itX0, ⟨tyX0, tyX0_ok⟩, nmX0, rfl, by decide +kernel, Or.inr ⟨_, wn14⟩⟩
theorem wd111 : Cond.fieldLink "CopiedFire$House" 71 "CopiedFire$House" "burnt" "I" ∈ TB := TBm (tk1 (List.mem_of_getElem? (i := 83) (by decide +kernel))) rfl
theorem flX0_71 : gFl RX0 71 0 14 := ⟨RX0, TX0, 19, rfl, by decide, itX0, Or.inl wd111⟩
theorem fpX0_71 : gFp RX0 71 0 14 .int := ⟨RX0, TX0, 19, rfl, by decide, itX0, ⟨tyX0, tyX0_ok⟩, nmX0, rfl, by decide +kernel, Or.inl wd111⟩
theorem wn15 : Cond.fieldLinkNest "CopiedFire" 193 "CopiedFire$House" "burnt" "I" "CopiedFire" ∈ NW := NWm (tk1 (List.mem_of_getElem? (i := 84) (by decide +kernel))) rfl
theorem flX9_193 : gFl RX9 193 0 14 := ⟨RX0, TX0, 19, rfl, by decide, itX0, Or.inr ⟨_, wn15⟩⟩
theorem fpX9_193 : gFp RX9 193 0 14 .int := ⟨RX0, TX0, 19, rfl, by decide, itX0, ⟨tyX0, tyX0_ok⟩, nmX0, rfl, by decide +kernel, Or.inr ⟨_, wn15⟩⟩
theorem wd112 : Cond.fieldLink "CopiedFire$House" 74 "CopiedFire$House" "ashes" "I" ∈ TB := TBm (tk1 (List.mem_of_getElem? (i := 85) (by decide +kernel))) rfl
theorem flX0_74 : gFl RX0 74 0 15 := ⟨RX0, TX0, 19, rfl, by decide, itX0, Or.inl wd112⟩
theorem fpX0_74 : gFp RX0 74 0 15 .int := ⟨RX0, TX0, 19, rfl, by decide, itX0, ⟨tyX0, tyX0_ok⟩, nmX0, rfl, by decide +kernel, Or.inl wd112⟩
theorem wn16 : Cond.fieldLinkNest "CopiedFire" 202 "CopiedFire$House" "ashes" "I" "CopiedFire" ∈ NW := NWm (tk1 (List.mem_of_getElem? (i := 86) (by decide +kernel))) rfl
theorem flX9_202 : gFl RX9 202 0 15 := ⟨RX0, TX0, 19, rfl, by decide, itX0, Or.inr ⟨_, wn16⟩⟩
theorem fpX9_202 : gFp RX9 202 0 15 .int := ⟨RX0, TX0, 19, rfl, by decide, itX0, ⟨tyX0, tyX0_ok⟩, nmX0, rfl, by decide +kernel, Or.inr ⟨_, wn16⟩⟩
theorem wd113 : Cond.fieldLink "CopiedFire$House" 77 "CopiedFire$House" "slams" "I" ∈ TB := TBm (tk1 (List.mem_of_getElem? (i := 87) (by decide +kernel))) rfl
theorem flX0_77 : gFl RX0 77 0 16 := ⟨RX0, TX0, 19, rfl, by decide, itX0, Or.inl wd113⟩
theorem fpX0_77 : gFp RX0 77 0 16 .int := ⟨RX0, TX0, 19, rfl, by decide, itX0, ⟨tyX0, tyX0_ok⟩, nmX0, rfl, by decide +kernel, Or.inl wd113⟩
theorem wn17 : Cond.fieldLinkNest "CopiedFire" 205 "CopiedFire$House" "slams" "I" "CopiedFire" ∈ NW := NWm (tk1 (List.mem_of_getElem? (i := 88) (by decide +kernel))) rfl
theorem flX9_205 : gFl RX9 205 0 16 := ⟨RX0, TX0, 19, rfl, by decide, itX0, Or.inr ⟨_, wn17⟩⟩
theorem fpX9_205 : gFp RX9 205 0 16 .int := ⟨RX0, TX0, 19, rfl, by decide, itX0, ⟨tyX0, tyX0_ok⟩, nmX0, rfl, by decide +kernel, Or.inr ⟨_, wn17⟩⟩
theorem wd114 : Cond.fieldLink "CopiedFire$House" 80 "CopiedFire$House" "minute" "I" ∈ TB := TBm (tk1 (List.mem_of_getElem? (i := 89) (by decide +kernel))) rfl
theorem flX0_80 : gFl RX0 80 0 17 := ⟨RX0, TX0, 19, rfl, by decide, itX0, Or.inl wd114⟩
theorem fpX0_80 : gFp RX0 80 0 17 .int := ⟨RX0, TX0, 19, rfl, by decide, itX0, ⟨tyX0, tyX0_ok⟩, nmX0, rfl, by decide +kernel, Or.inl wd114⟩
theorem wn18 : Cond.fieldLinkNest "CopiedFire" 196 "CopiedFire$House" "minute" "I" "CopiedFire" ∈ NW := NWm (tk1 (List.mem_of_getElem? (i := 90) (by decide +kernel))) rfl
theorem flX9_196 : gFl RX9 196 0 17 := ⟨RX0, TX0, 19, rfl, by decide, itX0, Or.inr ⟨_, wn18⟩⟩
theorem fpX9_196 : gFp RX9 196 0 17 .int := ⟨RX0, TX0, 19, rfl, by decide, itX0, ⟨tyX0, tyX0_ok⟩, nmX0, rfl, by decide +kernel, Or.inr ⟨_, wn18⟩⟩
theorem wd115 : Cond.fieldLink "CopiedFire$House" 53 "CopiedFire$House" "z" "I" ∈ TB := TBm (tk1 (List.mem_of_getElem? (i := 91) (by decide +kernel))) rfl
theorem flX0_53 : gFl RX0 53 0 18 := ⟨RX0, TX0, 19, rfl, by decide, itX0, Or.inl wd115⟩
theorem fpX0_53 : gFp RX0 53 0 18 .int := ⟨RX0, TX0, 19, rfl, by decide, itX0, ⟨tyX0, tyX0_ok⟩, nmX0, rfl, by decide +kernel, Or.inl wd115⟩
theorem wn19 : Cond.fieldLinkNest "CopiedFire" 151 "CopiedFire$House" "z" "I" "CopiedFire" ∈ NW := NWm (tk1 (List.mem_of_getElem? (i := 92) (by decide +kernel))) rfl
theorem flX9_151 : gFl RX9 151 0 18 := ⟨RX0, TX0, 19, rfl, by decide, itX0, Or.inr ⟨_, wn19⟩⟩
theorem fpX9_151 : gFp RX9 151 0 18 .int := ⟨RX0, TX0, 19, rfl, by decide, itX0, ⟨tyX0, tyX0_ok⟩, nmX0, rfl, by decide +kernel, Or.inr ⟨_, wn19⟩⟩
theorem wd116 : Cond.fieldLink "CopiedFire$Seating" 9 "CopiedFire$Seating" "likedByGroup" "[I" ∈ TB := TBm (tk1 (List.mem_of_getElem? (i := 138) (by decide +kernel))) rfl
theorem flX4_9 : gFl RX4 9 3 0 := ⟨RX4, TX4, 2, rfl, by decide, itX4, Or.inl wd116⟩
theorem wd117 : Cond.fieldLink "CopiedFire$Seating" 15 "CopiedFire$Seating" "given" "[I" ∈ TB := TBm (tk1 (List.mem_of_getElem? (i := 139) (by decide +kernel))) rfl
theorem flX4_15 : gFl RX4 15 3 1 := ⟨RX4, TX4, 2, rfl, by decide, itX4, Or.inl wd117⟩
theorem wn20 : Cond.fieldLinkNest "CopiedFire" 186 "CopiedFire$Seating" "given" "[I" "CopiedFire" ∈ NW := NWm (tk1 (List.mem_of_getElem? (i := 140) (by decide +kernel))) rfl
theorem flX9_186 : gFl RX9 186 3 1 := ⟨RX4, TX4, 2, rfl, by decide, itX4, Or.inr ⟨_, wn20⟩⟩
theorem wd118 : Cond.fieldLink "CopiedFire$Tape" 9 "CopiedFire$Tape" "bytes" "[I" ∈ TB := TBm (tk1 (List.mem_of_getElem? (i := 152) (by decide +kernel))) rfl
theorem flX7_9 : gFl RX7 9 6 0 := ⟨RX7, TX7, 2, rfl, by decide, itX7, Or.inl wd118⟩
theorem wn21 : Cond.fieldLinkNest "CopiedFire$Reader" 75 "CopiedFire$Tape" "bytes" "[I" "CopiedFire" ∈ NW := NWm (tk1 (List.mem_of_getElem? (i := 153) (by decide +kernel))) rfl
theorem flX3_75 : gFl RX3 75 6 0 := ⟨RX7, TX7, 2, rfl, by decide, itX7, Or.inr ⟨_, wn21⟩⟩
theorem wd119 : Cond.fieldLink "CopiedFire$Tape" 15 "CopiedFire$Tape" "length" "I" ∈ TB := TBm (tk1 (List.mem_of_getElem? (i := 154) (by decide +kernel))) rfl
theorem flX7_15 : gFl RX7 15 6 1 := ⟨RX7, TX7, 2, rfl, by decide, itX7, Or.inl wd119⟩
theorem fpX7_15 : gFp RX7 15 6 1 .int := ⟨RX7, TX7, 2, rfl, by decide, itX7, ⟨tyX7, tyX7_ok⟩, nmX7, rfl, by decide +kernel, Or.inl wd119⟩
theorem wn22 : Cond.fieldLinkNest "CopiedFire$Reader" 70 "CopiedFire$Tape" "length" "I" "CopiedFire" ∈ NW := NWm (tk1 (List.mem_of_getElem? (i := 155) (by decide +kernel))) rfl
theorem flX3_70 : gFl RX3 70 6 1 := ⟨RX7, TX7, 2, rfl, by decide, itX7, Or.inr ⟨_, wn22⟩⟩
theorem fpX3_70 : gFp RX3 70 6 1 .int := ⟨RX7, TX7, 2, rfl, by decide, itX7, ⟨tyX7, tyX7_ok⟩, nmX7, rfl, by decide +kernel, Or.inr ⟨_, wn22⟩⟩
theorem wn23 : Cond.fieldLinkNest "CopiedFire" 245 "CopiedFire$Tape" "length" "I" "CopiedFire" ∈ NW := NWm (tk1 (List.mem_of_getElem? (i := 156) (by decide +kernel))) rfl
theorem flX9_245 : gFl RX9 245 6 1 := ⟨RX7, TX7, 2, rfl, by decide, itX7, Or.inr ⟨_, wn23⟩⟩
theorem fpX9_245 : gFp RX9 245 6 1 .int := ⟨RX7, TX7, 2, rfl, by decide, itX7, ⟨tyX7, tyX7_ok⟩, nmX7, rfl, by decide +kernel, Or.inr ⟨_, wn23⟩⟩
theorem wd120 : Cond.fieldLink "CopiedFire$Reader" 9 "CopiedFire$Reader" "tape" "LCopiedFire$Tape;" ∈ TB := TBm (tk1 (List.mem_of_getElem? (i := 168) (by decide +kernel))) rfl
theorem flX3_9 : gFl RX3 9 2 0 := ⟨RX3, TX3, 9, rfl, by decide, itX3, Or.inl wd120⟩
theorem wd121 : Cond.fieldLink "CopiedFire$Reader" 15 "CopiedFire$Reader" "steps" "[I" ∈ TB := TBm (tk1 (List.mem_of_getElem? (i := 169) (by decide +kernel))) rfl
theorem flX3_15 : gFl RX3 15 2 1 := ⟨RX3, TX3, 9, rfl, by decide, itX3, Or.inl wd121⟩
theorem wd122 : Cond.fieldLink "CopiedFire$Reader" 19 "CopiedFire$Reader" "made" "I" ∈ TB := TBm (tk1 (List.mem_of_getElem? (i := 170) (by decide +kernel))) rfl
theorem flX3_19 : gFl RX3 19 2 2 := ⟨RX3, TX3, 9, rfl, by decide, itX3, Or.inl wd122⟩
theorem fpX3_19 : gFp RX3 19 2 2 .int := ⟨RX3, TX3, 9, rfl, by decide, itX3, ⟨tyX3, tyX3_ok⟩, nmX3, rfl, by decide +kernel, Or.inl wd122⟩
theorem wd123 : Cond.fieldLink "CopiedFire$Reader" 23 "CopiedFire$Reader" "operands" "I" ∈ TB := TBm (tk1 (List.mem_of_getElem? (i := 171) (by decide +kernel))) rfl
theorem flX3_23 : gFl RX3 23 2 3 := ⟨RX3, TX3, 9, rfl, by decide, itX3, Or.inl wd123⟩
theorem fpX3_23 : gFp RX3 23 2 3 .int := ⟨RX3, TX3, 9, rfl, by decide, itX3, ⟨tyX3, tyX3_ok⟩, nmX3, rfl, by decide +kernel, Or.inl wd123⟩
theorem wd124 : Cond.fieldLink "CopiedFire$Reader" 42 "CopiedFire$Reader" "key" "I" ∈ TB := TBm (tk1 (List.mem_of_getElem? (i := 172) (by decide +kernel))) rfl
theorem flX3_42 : gFl RX3 42 2 4 := ⟨RX3, TX3, 9, rfl, by decide, itX3, Or.inl wd124⟩
theorem fpX3_42 : gFp RX3 42 2 4 .int := ⟨RX3, TX3, 9, rfl, by decide, itX3, ⟨tyX3, tyX3_ok⟩, nmX3, rfl, by decide +kernel, Or.inl wd124⟩
theorem wn24 : Cond.fieldLinkNest "CopiedFire" 269 "CopiedFire$Reader" "key" "I" "CopiedFire" ∈ NW := NWm (tk1 (List.mem_of_getElem? (i := 173) (by decide +kernel))) rfl
theorem flX9_269 : gFl RX9 269 2 4 := ⟨RX3, TX3, 9, rfl, by decide, itX3, Or.inr ⟨_, wn24⟩⟩
theorem fpX9_269 : gFp RX9 269 2 4 .int := ⟨RX3, TX3, 9, rfl, by decide, itX3, ⟨tyX3, tyX3_ok⟩, nmX3, rfl, by decide +kernel, Or.inr ⟨_, wn24⟩⟩
theorem wd125 : Cond.fieldLink "CopiedFire$Reader" 32 "CopiedFire$Reader" "token" "I" ∈ TB := TBm (tk1 (List.mem_of_getElem? (i := 174) (by decide +kernel))) rfl
theorem flX3_32 : gFl RX3 32 2 5 := ⟨RX3, TX3, 9, rfl, by decide, itX3, Or.inl wd125⟩
theorem fpX3_32 : gFp RX3 32 2 5 .int := ⟨RX3, TX3, 9, rfl, by decide, itX3, ⟨tyX3, tyX3_ok⟩, nmX3, rfl, by decide +kernel, Or.inl wd125⟩
theorem wd126 : Cond.fieldLink "CopiedFire$Reader" 63 "CopiedFire$Reader" "start" "I" ∈ TB := TBm (tk1 (List.mem_of_getElem? (i := 175) (by decide +kernel))) rfl
theorem flX3_63 : gFl RX3 63 2 6 := ⟨RX3, TX3, 9, rfl, by decide, itX3, Or.inl wd126⟩
theorem fpX3_63 : gFp RX3 63 2 6 .int := ⟨RX3, TX3, 9, rfl, by decide, itX3, ⟨tyX3, tyX3_ok⟩, nmX3, rfl, by decide +kernel, Or.inl wd126⟩
theorem wd127 : Cond.fieldLink "CopiedFire$Reader" 29 "CopiedFire$Reader" "next" "I" ∈ TB := TBm (tk1 (List.mem_of_getElem? (i := 176) (by decide +kernel))) rfl
theorem flX3_29 : gFl RX3 29 2 7 := ⟨RX3, TX3, 9, rfl, by decide, itX3, Or.inl wd127⟩
theorem fpX3_29 : gFp RX3 29 2 7 .int := ⟨RX3, TX3, 9, rfl, by decide, itX3, ⟨tyX3, tyX3_ok⟩, nmX3, rfl, by decide +kernel, Or.inl wd127⟩
theorem wd128 : Cond.fieldLink "CopiedFire$Reader" 26 "CopiedFire$Reader" "fault" "I" ∈ TB := TBm (tk1 (List.mem_of_getElem? (i := 177) (by decide +kernel))) rfl
theorem flX3_26 : gFl RX3 26 2 8 := ⟨RX3, TX3, 9, rfl, by decide, itX3, Or.inl wd128⟩
theorem fpX3_26 : gFp RX3 26 2 8 .int := ⟨RX3, TX3, 9, rfl, by decide, itX3, ⟨tyX3, tyX3_ok⟩, nmX3, rfl, by decide +kernel, Or.inl wd128⟩
theorem wn25 : Cond.fieldLinkNest "CopiedFire" 255 "CopiedFire$Reader" "fault" "I" "CopiedFire" ∈ NW := NWm (tk1 (List.mem_of_getElem? (i := 178) (by decide +kernel))) rfl
theorem flX9_255 : gFl RX9 255 2 8 := ⟨RX3, TX3, 9, rfl, by decide, itX3, Or.inr ⟨_, wn25⟩⟩
theorem fpX9_255 : gFp RX9 255 2 8 .int := ⟨RX3, TX3, 9, rfl, by decide, itX3, ⟨tyX3, tyX3_ok⟩, nmX3, rfl, by decide +kernel, Or.inr ⟨_, wn25⟩⟩
theorem wd129 : Cond.fieldLink "CopiedFire$Sheet" 9 "CopiedFire$Sheet" "places" "[I" ∈ TB := TBm (tk1 (List.mem_of_getElem? (i := 205) (by decide +kernel))) rfl
theorem flX5_9 : gFl RX5 9 4 0 := ⟨RX5, TX5, 3, rfl, by decide, itX5, Or.inl wd129⟩
theorem wn26 : Cond.fieldLinkNest "CopiedFire" 290 "CopiedFire$Sheet" "places" "[I" "CopiedFire" ∈ NW := NWm (tk1 (List.mem_of_getElem? (i := 206) (by decide +kernel))) rfl
theorem flX9_290 : gFl RX9 290 4 0 := ⟨RX5, TX5, 3, rfl, by decide, itX5, Or.inr ⟨_, wn26⟩⟩
theorem wd130 : Cond.fieldLink "CopiedFire$Sheet" 15 "CopiedFire$Sheet" "sort" "I" ∈ TB := TBm (tk1 (List.mem_of_getElem? (i := 207) (by decide +kernel))) rfl
theorem flX5_15 : gFl RX5 15 4 1 := ⟨RX5, TX5, 3, rfl, by decide, itX5, Or.inl wd130⟩
theorem fpX5_15 : gFp RX5 15 4 1 .int := ⟨RX5, TX5, 3, rfl, by decide, itX5, ⟨tyX5, tyX5_ok⟩, nmX5, rfl, by decide +kernel, Or.inl wd130⟩
theorem wn27 : Cond.fieldLinkNest "CopiedFire" 287 "CopiedFire$Sheet" "sort" "I" "CopiedFire" ∈ NW := NWm (tk1 (List.mem_of_getElem? (i := 208) (by decide +kernel))) rfl
theorem flX9_287 : gFl RX9 287 4 1 := ⟨RX5, TX5, 3, rfl, by decide, itX5, Or.inr ⟨_, wn27⟩⟩
theorem fpX9_287 : gFp RX9 287 4 1 .int := ⟨RX5, TX5, 3, rfl, by decide, itX5, ⟨tyX5, tyX5_ok⟩, nmX5, rfl, by decide +kernel, Or.inr ⟨_, wn27⟩⟩
theorem wd131 : Cond.fieldLink "CopiedFire$Sheet" 19 "CopiedFire$Sheet" "length" "I" ∈ TB := TBm (tk1 (List.mem_of_getElem? (i := 209) (by decide +kernel))) rfl
theorem flX5_19 : gFl RX5 19 4 2 := ⟨RX5, TX5, 3, rfl, by decide, itX5, Or.inl wd131⟩
theorem fpX5_19 : gFp RX5 19 4 2 .int := ⟨RX5, TX5, 3, rfl, by decide, itX5, ⟨tyX5, tyX5_ok⟩, nmX5, rfl, by decide +kernel, Or.inl wd131⟩
theorem wn28 : Cond.fieldLinkNest "CopiedFire" 301 "CopiedFire$Sheet" "length" "I" "CopiedFire" ∈ NW := NWm (tk1 (List.mem_of_getElem? (i := 210) (by decide +kernel))) rfl
theorem flX9_301 : gFl RX9 301 4 2 := ⟨RX5, TX5, 3, rfl, by decide, itX5, Or.inr ⟨_, wn28⟩⟩
theorem fpX9_301 : gFp RX9 301 4 2 .int := ⟨RX5, TX5, 3, rfl, by decide, itX5, ⟨tyX5, tyX5_ok⟩, nmX5, rfl, by decide +kernel, Or.inr ⟨_, wn28⟩⟩
theorem wd132 : Cond.fieldLink "CopiedFire$Slot" 12 "CopiedFire$Slot" "row" "LCopiedFire$Sheet;" ∈ TB := TBm (tk1 (List.mem_of_getElem? (i := 227) (by decide +kernel))) rfl
theorem flX6_12 : gFl RX6 12 5 0 := ⟨RX6, TX6, 5, rfl, by decide, itX6, Or.inl wd132⟩
theorem wn29 : Cond.fieldLinkNest "CopiedFire" 323 "CopiedFire$Slot" "row" "LCopiedFire$Sheet;" "CopiedFire" ∈ NW := NWm (tk1 (List.mem_of_getElem? (i := 228) (by decide +kernel))) rfl
theorem flX9_323 : gFl RX9 323 5 0 := ⟨RX6, TX6, 5, rfl, by decide, itX6, Or.inr ⟨_, wn29⟩⟩
theorem wd133 : Cond.fieldLink "CopiedFire$Slot" 18 "CopiedFire$Slot" "holds" "I" ∈ TB := TBm (tk1 (List.mem_of_getElem? (i := 229) (by decide +kernel))) rfl
theorem flX6_18 : gFl RX6 18 5 1 := ⟨RX6, TX6, 5, rfl, by decide, itX6, Or.inl wd133⟩
theorem fpX6_18 : gFp RX6 18 5 1 .int := ⟨RX6, TX6, 5, rfl, by decide, itX6, ⟨tyX6, tyX6_ok⟩, nmX6, rfl, by decide +kernel, Or.inl wd133⟩
theorem wn30 : Cond.fieldLinkNest "CopiedFire" 314 "CopiedFire$Slot" "holds" "I" "CopiedFire" ∈ NW := NWm (tk1 (List.mem_of_getElem? (i := 230) (by decide +kernel))) rfl
theorem flX9_314 : gFl RX9 314 5 1 := ⟨RX6, TX6, 5, rfl, by decide, itX6, Or.inr ⟨_, wn30⟩⟩
theorem fpX9_314 : gFp RX9 314 5 1 .int := ⟨RX6, TX6, 5, rfl, by decide, itX6, ⟨tyX6, tyX6_ok⟩, nmX6, rfl, by decide +kernel, Or.inr ⟨_, wn30⟩⟩
theorem wn31 : Cond.fieldLinkNest "CopiedFire" 317 "CopiedFire$Slot" "kind" "I" "CopiedFire" ∈ NW := NWm (tk1 (List.mem_of_getElem? (i := 231) (by decide +kernel))) rfl
theorem flX9_317 : gFl RX9 317 5 2 := ⟨RX6, TX6, 5, rfl, by decide, itX6, Or.inr ⟨_, wn31⟩⟩
theorem fpX9_317 : gFp RX9 317 5 2 .int := ⟨RX6, TX6, 5, rfl, by decide, itX6, ⟨tyX6, tyX6_ok⟩, nmX6, rfl, by decide +kernel, Or.inr ⟨_, wn31⟩⟩
theorem wn32 : Cond.fieldLinkNest "CopiedFire" 320 "CopiedFire$Slot" "fuel" "I" "CopiedFire" ∈ NW := NWm (tk1 (List.mem_of_getElem? (i := 232) (by decide +kernel))) rfl
theorem flX9_320 : gFl RX9 320 5 3 := ⟨RX6, TX6, 5, rfl, by decide, itX6, Or.inr ⟨_, wn32⟩⟩
theorem fpX9_320 : gFp RX9 320 5 3 .int := ⟨RX6, TX6, 5, rfl, by decide, itX6, ⟨tyX6, tyX6_ok⟩, nmX6, rfl, by decide +kernel, Or.inr ⟨_, wn32⟩⟩
theorem wn33 : Cond.fieldLinkNest "CopiedFire" 329 "CopiedFire$Slot" "number" "I" "CopiedFire" ∈ NW := NWm (tk1 (List.mem_of_getElem? (i := 233) (by decide +kernel))) rfl
theorem flX9_329 : gFl RX9 329 5 4 := ⟨RX6, TX6, 5, rfl, by decide, itX6, Or.inr ⟨_, wn33⟩⟩
theorem fpX9_329 : gFp RX9 329 5 4 .int := ⟨RX6, TX6, 5, rfl, by decide, itX6, ⟨tyX6, tyX6_ok⟩, nmX6, rfl, by decide +kernel, Or.inr ⟨_, wn33⟩⟩
theorem wd134 : Cond.fieldLink "CopiedFire" 10 "CopiedFire" "laws" "LCopiedFire$Laws;" ∈ TB := TBm (tk2 (List.mem_of_getElem? (i := 5) (by decide +kernel))) rfl
theorem flX9_10 : gFl RX9 10 8 0 := ⟨RX9, TX9, 13, rfl, by decide, itX9, Or.inl wd134⟩
theorem wd135 : Cond.fieldLink "CopiedFire" 21 "CopiedFire" "now" "LCopiedFire$House;" ∈ TB := TBm (tk2 (List.mem_of_getElem? (i := 6) (by decide +kernel))) rfl
theorem flX9_21 : gFl RX9 21 8 1 := ⟨RX9, TX9, 13, rfl, by decide, itX9, Or.inl wd135⟩
theorem wd136 : Cond.fieldLink "CopiedFire" 25 "CopiedFire" "image" "LCopiedFire$House;" ∈ TB := TBm (tk2 (List.mem_of_getElem? (i := 7) (by decide +kernel))) rfl
theorem flX9_25 : gFl RX9 25 8 2 := ⟨RX9, TX9, 13, rfl, by decide, itX9, Or.inl wd136⟩
theorem wd137 : Cond.fieldLink "CopiedFire" 28 "CopiedFire" "thought" "LCopiedFire$House;" ∈ TB := TBm (tk2 (List.mem_of_getElem? (i := 8) (by decide +kernel))) rfl
theorem flX9_28 : gFl RX9 28 8 3 := ⟨RX9, TX9, 13, rfl, by decide, itX9, Or.inl wd137⟩
theorem wd138 : Cond.fieldLink "CopiedFire" 34 "CopiedFire" "seating" "LCopiedFire$Seating;" ∈ TB := TBm (tk2 (List.mem_of_getElem? (i := 9) (by decide +kernel))) rfl
theorem flX9_34 : gFl RX9 34 8 4 := ⟨RX9, TX9, 13, rfl, by decide, itX9, Or.inl wd138⟩
theorem wd139 : Cond.fieldLink "CopiedFire" 41 "CopiedFire" "tape" "LCopiedFire$Tape;" ∈ TB := TBm (tk2 (List.mem_of_getElem? (i := 10) (by decide +kernel))) rfl
theorem flX9_41 : gFl RX9 41 8 5 := ⟨RX9, TX9, 13, rfl, by decide, itX9, Or.inl wd139⟩
theorem wd140 : Cond.fieldLink "CopiedFire" 50 "CopiedFire" "reader" "LCopiedFire$Reader;" ∈ TB := TBm (tk2 (List.mem_of_getElem? (i := 11) (by decide +kernel))) rfl
theorem flX9_50 : gFl RX9 50 8 6 := ⟨RX9, TX9, 13, rfl, by decide, itX9, Or.inl wd140⟩
theorem wd141 : Cond.fieldLink "CopiedFire" 56 "CopiedFire" "sheets" "[LCopiedFire$Sheet;" ∈ TB := TBm (tk2 (List.mem_of_getElem? (i := 12) (by decide +kernel))) rfl
theorem flX9_56 : gFl RX9 56 8 7 := ⟨RX9, TX9, 13, rfl, by decide, itX9, Or.inl wd141⟩
theorem wd142 : Cond.fieldLink "CopiedFire" 63 "CopiedFire" "slots" "[LCopiedFire$Slot;" ∈ TB := TBm (tk2 (List.mem_of_getElem? (i := 13) (by decide +kernel))) rfl
theorem flX9_63 : gFl RX9 63 8 8 := ⟨RX9, TX9, 13, rfl, by decide, itX9, Or.inl wd142⟩
theorem wd143 : Cond.fieldLink "CopiedFire" 68 "CopiedFire" "sums" "[I" ∈ TB := TBm (tk2 (List.mem_of_getElem? (i := 14) (by decide +kernel))) rfl
theorem flX9_68 : gFl RX9 68 8 9 := ⟨RX9, TX9, 13, rfl, by decide, itX9, Or.inl wd143⟩
theorem wd144 : Cond.fieldLink "CopiedFire" 72 "CopiedFire" "waiting" "[I" ∈ TB := TBm (tk2 (List.mem_of_getElem? (i := 15) (by decide +kernel))) rfl
theorem flX9_72 : gFl RX9 72 8 10 := ⟨RX9, TX9, 13, rfl, by decide, itX9, Or.inl wd144⟩
theorem wd145 : Cond.fieldLink "CopiedFire" 75 "CopiedFire" "waits" "I" ∈ TB := TBm (tk2 (List.mem_of_getElem? (i := 16) (by decide +kernel))) rfl
theorem flX9_75 : gFl RX9 75 8 11 := ⟨RX9, TX9, 13, rfl, by decide, itX9, Or.inl wd145⟩
theorem fpX9_75 : gFp RX9 75 8 11 .int := ⟨RX9, TX9, 13, rfl, by decide, itX9, ⟨tyX9, tyX9_ok⟩, nmX9, rfl, by decide +kernel, Or.inl wd145⟩
theorem wd146 : Cond.fieldLink "CopiedFire" 79 "CopiedFire" "kept" "Z" ∈ TB := TBm (tk2 (List.mem_of_getElem? (i := 17) (by decide +kernel))) rfl
theorem flX9_79 : gFl RX9 79 8 12 := ⟨RX9, TX9, 13, rfl, by decide, itX9, Or.inl wd146⟩
theorem fpX9_79 : gFp RX9 79 8 12 .boolean := ⟨RX9, TX9, 13, rfl, by decide, itX9, ⟨tyX9, tyX9_ok⟩, nmX9, rfl, by decide +kernel, Or.inl wd146⟩
theorem wd147 : Cond.fieldLink "CopiedFire$Text" 7 "CopiedFire$Text" "key" "I" ∈ TB := TBm (tk4 (List.mem_of_getElem? (i := 80) (by decide +kernel))) rfl
theorem flX8_7 : gFl RX8 7 7 0 := ⟨RX8, TX8, 3, rfl, by decide, itX8, Or.inl wd147⟩
theorem wn34 : Cond.fieldLinkNest "CopiedFire$Laws" 29 "CopiedFire$Text" "key" "I" "CopiedFire" ∈ NW := NWm (tk4 (List.mem_of_getElem? (i := 81) (by decide +kernel))) rfl
theorem flX2_29 : gFl RX2 29 7 0 := ⟨RX8, TX8, 3, rfl, by decide, itX8, Or.inr ⟨_, wn34⟩⟩
theorem wd148 : Cond.fieldLink "CopiedFire$Text" 13 "CopiedFire$Text" "operands" "I" ∈ TB := TBm (tk4 (List.mem_of_getElem? (i := 82) (by decide +kernel))) rfl
theorem flX8_13 : gFl RX8 13 7 1 := ⟨RX8, TX8, 3, rfl, by decide, itX8, Or.inl wd148⟩
theorem wn35 : Cond.fieldLinkNest "CopiedFire$Laws" 34 "CopiedFire$Text" "operands" "I" "CopiedFire" ∈ NW := NWm (tk4 (List.mem_of_getElem? (i := 83) (by decide +kernel))) rfl
theorem flX2_34 : gFl RX2 34 7 1 := ⟨RX8, TX8, 3, rfl, by decide, itX8, Or.inr ⟨_, wn35⟩⟩
theorem wd149 : Cond.fieldLink "CopiedFire$Text" 16 "CopiedFire$Text" "steps" "[I" ∈ TB := TBm (tk4 (List.mem_of_getElem? (i := 84) (by decide +kernel))) rfl
theorem flX8_16 : gFl RX8 16 7 2 := ⟨RX8, TX8, 3, rfl, by decide, itX8, Or.inl wd149⟩
theorem wn36 : Cond.fieldLinkNest "CopiedFire$Laws" 37 "CopiedFire$Text" "steps" "[I" "CopiedFire" ∈ NW := NWm (tk4 (List.mem_of_getElem? (i := 85) (by decide +kernel))) rfl
theorem flX2_37 : gFl RX2 37 7 2 := ⟨RX8, TX8, 3, rfl, by decide, itX8, Or.inr ⟨_, wn36⟩⟩
theorem wd150 : Cond.fieldLink "CopiedFireModel" 9 "CopiedFireModel" "now" "[I" ∈ TB := TBm (tk4 (List.mem_of_getElem? (i := 206) (by decide +kernel))) rfl
theorem flX10_9 : gFl RX10 9 9 0 := ⟨RX10, TX10, 37, rfl, by decide, itX10, Or.inl wd150⟩
theorem wd151 : Cond.fieldLink "CopiedFireModel" 13 "CopiedFireModel" "image" "[I" ∈ TB := TBm (tk4 (List.mem_of_getElem? (i := 207) (by decide +kernel))) rfl
theorem flX10_13 : gFl RX10 13 9 1 := ⟨RX10, TX10, 37, rfl, by decide, itX10, Or.inl wd151⟩
theorem wd152 : Cond.fieldLink "CopiedFireModel" 16 "CopiedFireModel" "aside" "[I" ∈ TB := TBm (tk4 (List.mem_of_getElem? (i := 208) (by decide +kernel))) rfl
theorem flX10_16 : gFl RX10 16 9 2 := ⟨RX10, TX10, 37, rfl, by decide, itX10, Or.inl wd152⟩
theorem wd153 : Cond.fieldLink "CopiedFireModel" 288 "CopiedFireModel" "hasImage" "Z" ∈ TB := TBm (tk4 (List.mem_of_getElem? (i := 209) (by decide +kernel))) rfl
theorem flX10_288 : gFl RX10 288 9 3 := ⟨RX10, TX10, 37, rfl, by decide, itX10, Or.inl wd153⟩
theorem fpX10_288 : gFp RX10 288 9 3 .boolean := ⟨RX10, TX10, 37, rfl, by decide, itX10, ⟨tyX10, tyX10_ok⟩, nmX10, rfl, by decide +kernel, Or.inl wd153⟩
theorem wd154 : Cond.fieldLink "CopiedFireModel" 19 "CopiedFireModel" "seat" "[I" ∈ TB := TBm (tk4 (List.mem_of_getElem? (i := 210) (by decide +kernel))) rfl
theorem flX10_19 : gFl RX10 19 9 4 := ⟨RX10, TX10, 37, rfl, by decide, itX10, Or.inl wd154⟩
theorem wd155 : Cond.fieldLink "CopiedFireModel" 22 "CopiedFireModel" "bestSeat" "[I" ∈ TB := TBm (tk4 (List.mem_of_getElem? (i := 211) (by decide +kernel))) rfl
theorem flX10_22 : gFl RX10 22 9 5 := ⟨RX10, TX10, 37, rfl, by decide, itX10, Or.inl wd155⟩
theorem wd156 : Cond.fieldLink "CopiedFireModel" 154 "CopiedFireModel" "mostSeats" "I" ∈ TB := TBm (tk4 (List.mem_of_getElem? (i := 212) (by decide +kernel))) rfl
theorem flX10_154 : gFl RX10 154 9 6 := ⟨RX10, TX10, 37, rfl, by decide, itX10, Or.inl wd156⟩
theorem fpX10_154 : gFp RX10 154 9 6 .int := ⟨RX10, TX10, 37, rfl, by decide, itX10, ⟨tyX10, tyX10_ok⟩, nmX10, rfl, by decide +kernel, Or.inl wd156⟩
theorem wd157 : Cond.fieldLink "CopiedFireModel" 25 "CopiedFireModel" "before" "[I" ∈ TB := TBm (tk4 (List.mem_of_getElem? (i := 213) (by decide +kernel))) rfl
theorem flX10_25 : gFl RX10 25 9 7 := ⟨RX10, TX10, 37, rfl, by decide, itX10, Or.inl wd157⟩
theorem wd158 : Cond.fieldLink "CopiedFireModel" 28 "CopiedFireModel" "off" "[I" ∈ TB := TBm (tk4 (List.mem_of_getElem? (i := 214) (by decide +kernel))) rfl
theorem flX10_28 : gFl RX10 28 9 8 := ⟨RX10, TX10, 37, rfl, by decide, itX10, Or.inl wd158⟩
theorem wd159 : Cond.fieldLink "CopiedFireModel" 31 "CopiedFireModel" "tape" "[I" ∈ TB := TBm (tk4 (List.mem_of_getElem? (i := 215) (by decide +kernel))) rfl
theorem flX10_31 : gFl RX10 31 9 9 := ⟨RX10, TX10, 37, rfl, by decide, itX10, Or.inl wd159⟩
theorem wd160 : Cond.fieldLink "CopiedFireModel" 210 "CopiedFireModel" "taped" "I" ∈ TB := TBm (tk4 (List.mem_of_getElem? (i := 216) (by decide +kernel))) rfl
theorem flX10_210 : gFl RX10 210 9 10 := ⟨RX10, TX10, 37, rfl, by decide, itX10, Or.inl wd160⟩
theorem fpX10_210 : gFp RX10 210 9 10 .int := ⟨RX10, TX10, 37, rfl, by decide, itX10, ⟨tyX10, tyX10_ok⟩, nmX10, rfl, by decide +kernel, Or.inl wd160⟩
theorem wd161 : Cond.fieldLink "CopiedFireModel" 213 "CopiedFireModel" "next" "I" ∈ TB := TBm (tk4 (List.mem_of_getElem? (i := 217) (by decide +kernel))) rfl
theorem flX10_213 : gFl RX10 213 9 11 := ⟨RX10, TX10, 37, rfl, by decide, itX10, Or.inl wd161⟩
theorem fpX10_213 : gFp RX10 213 9 11 .int := ⟨RX10, TX10, 37, rfl, by decide, itX10, ⟨tyX10, tyX10_ok⟩, nmX10, rfl, by decide +kernel, Or.inl wd161⟩
theorem wd162 : Cond.fieldLink "CopiedFireModel" 216 "CopiedFireModel" "from" "I" ∈ TB := TBm (tk4 (List.mem_of_getElem? (i := 218) (by decide +kernel))) rfl
theorem flX10_216 : gFl RX10 216 9 12 := ⟨RX10, TX10, 37, rfl, by decide, itX10, Or.inl wd162⟩
theorem fpX10_216 : gFp RX10 216 9 12 .int := ⟨RX10, TX10, 37, rfl, by decide, itX10, ⟨tyX10, tyX10_ok⟩, nmX10, rfl, by decide +kernel, Or.inl wd162⟩
theorem wd163 : Cond.fieldLink "CopiedFireModel" 222 "CopiedFireModel" "token" "I" ∈ TB := TBm (tk4 (List.mem_of_getElem? (i := 219) (by decide +kernel))) rfl
theorem flX10_222 : gFl RX10 222 9 13 := ⟨RX10, TX10, 37, rfl, by decide, itX10, Or.inl wd163⟩
theorem fpX10_222 : gFp RX10 222 9 13 .int := ⟨RX10, TX10, 37, rfl, by decide, itX10, ⟨tyX10, tyX10_ok⟩, nmX10, rfl, by decide +kernel, Or.inl wd163⟩
theorem wd164 : Cond.fieldLink "CopiedFireModel" 228 "CopiedFireModel" "value" "I" ∈ TB := TBm (tk4 (List.mem_of_getElem? (i := 220) (by decide +kernel))) rfl
theorem flX10_228 : gFl RX10 228 9 14 := ⟨RX10, TX10, 37, rfl, by decide, itX10, Or.inl wd164⟩
theorem fpX10_228 : gFp RX10 228 9 14 .int := ⟨RX10, TX10, 37, rfl, by decide, itX10, ⟨tyX10, tyX10_ok⟩, nmX10, rfl, by decide +kernel, Or.inl wd164⟩
theorem wd165 : Cond.fieldLink "CopiedFireModel" 219 "CopiedFireModel" "ended" "I" ∈ TB := TBm (tk4 (List.mem_of_getElem? (i := 221) (by decide +kernel))) rfl
theorem flX10_219 : gFl RX10 219 9 15 := ⟨RX10, TX10, 37, rfl, by decide, itX10, Or.inl wd165⟩
theorem fpX10_219 : gFp RX10 219 9 15 .int := ⟨RX10, TX10, 37, rfl, by decide, itX10, ⟨tyX10, tyX10_ok⟩, nmX10, rfl, by decide +kernel, Or.inl wd165⟩
theorem wd166 : Cond.fieldLink "CopiedFireModel" 234 "CopiedFireModel" "key" "I" ∈ TB := TBm (tk4 (List.mem_of_getElem? (i := 222) (by decide +kernel))) rfl
theorem flX10_234 : gFl RX10 234 9 16 := ⟨RX10, TX10, 37, rfl, by decide, itX10, Or.inl wd166⟩
theorem fpX10_234 : gFp RX10 234 9 16 .int := ⟨RX10, TX10, 37, rfl, by decide, itX10, ⟨tyX10, tyX10_ok⟩, nmX10, rfl, by decide +kernel, Or.inl wd166⟩
theorem wd167 : Cond.fieldLink "CopiedFireModel" 34 "CopiedFireModel" "keys" "[C" ∈ TB := TBm (tk4 (List.mem_of_getElem? (i := 223) (by decide +kernel))) rfl
theorem flX10_34 : gFl RX10 34 9 17 := ⟨RX10, TX10, 37, rfl, by decide, itX10, Or.inl wd167⟩
theorem wd168 : Cond.fieldLink "CopiedFireModel" 38 "CopiedFireModel" "keyAt" "[I" ∈ TB := TBm (tk4 (List.mem_of_getElem? (i := 224) (by decide +kernel))) rfl
theorem flX10_38 : gFl RX10 38 9 18 := ⟨RX10, TX10, 37, rfl, by decide, itX10, Or.inl wd168⟩
theorem wd169 : Cond.fieldLink "CopiedFireModel" 41 "CopiedFireModel" "code" "[I" ∈ TB := TBm (tk4 (List.mem_of_getElem? (i := 225) (by decide +kernel))) rfl
theorem flX10_41 : gFl RX10 41 9 19 := ⟨RX10, TX10, 37, rfl, by decide, itX10, Or.inl wd169⟩
theorem wd170 : Cond.fieldLink "CopiedFireModel" 246 "CopiedFireModel" "codes" "I" ∈ TB := TBm (tk4 (List.mem_of_getElem? (i := 226) (by decide +kernel))) rfl
theorem flX10_246 : gFl RX10 246 9 20 := ⟨RX10, TX10, 37, rfl, by decide, itX10, Or.inl wd170⟩
theorem fpX10_246 : gFp RX10 246 9 20 .int := ⟨RX10, TX10, 37, rfl, by decide, itX10, ⟨tyX10, tyX10_ok⟩, nmX10, rfl, by decide +kernel, Or.inl wd170⟩
theorem wd171 : Cond.fieldLink "CopiedFireModel" 252 "CopiedFireModel" "atoms" "I" ∈ TB := TBm (tk4 (List.mem_of_getElem? (i := 227) (by decide +kernel))) rfl
theorem flX10_252 : gFl RX10 252 9 21 := ⟨RX10, TX10, 37, rfl, by decide, itX10, Or.inl wd171⟩
theorem fpX10_252 : gFp RX10 252 9 21 .int := ⟨RX10, TX10, 37, rfl, by decide, itX10, ⟨tyX10, tyX10_ok⟩, nmX10, rfl, by decide +kernel, Or.inl wd171⟩
theorem wd172 : Cond.fieldLink "CopiedFireModel" 44 "CopiedFireModel" "waits" "[I" ∈ TB := TBm (tk4 (List.mem_of_getElem? (i := 228) (by decide +kernel))) rfl
theorem flX10_44 : gFl RX10 44 9 22 := ⟨RX10, TX10, 37, rfl, by decide, itX10, Or.inl wd172⟩
theorem wd173 : Cond.fieldLink "CopiedFireModel" 240 "CopiedFireModel" "held" "I" ∈ TB := TBm (tk4 (List.mem_of_getElem? (i := 229) (by decide +kernel))) rfl
theorem flX10_240 : gFl RX10 240 9 23 := ⟨RX10, TX10, 37, rfl, by decide, itX10, Or.inl wd173⟩
theorem fpX10_240 : gFp RX10 240 9 23 .int := ⟨RX10, TX10, 37, rfl, by decide, itX10, ⟨tyX10, tyX10_ok⟩, nmX10, rfl, by decide +kernel, Or.inl wd173⟩
theorem wd174 : Cond.fieldLink "CopiedFireModel" 47 "CopiedFireModel" "tested" "[Z" ∈ TB := TBm (tk4 (List.mem_of_getElem? (i := 230) (by decide +kernel))) rfl
theorem flX10_47 : gFl RX10 47 9 24 := ⟨RX10, TX10, 37, rfl, by decide, itX10, Or.inl wd174⟩
theorem wd175 : Cond.fieldLink "CopiedFireModel" 51 "CopiedFireModel" "stack" "[I" ∈ TB := TBm (tk4 (List.mem_of_getElem? (i := 231) (by decide +kernel))) rfl
theorem flX10_51 : gFl RX10 51 9 25 := ⟨RX10, TX10, 37, rfl, by decide, itX10, Or.inl wd175⟩
theorem wd176 : Cond.fieldLink "CopiedFireModel" 54 "CopiedFireModel" "facts" "[I" ∈ TB := TBm (tk4 (List.mem_of_getElem? (i := 232) (by decide +kernel))) rfl
theorem flX10_54 : gFl RX10 54 9 26 := ⟨RX10, TX10, 37, rfl, by decide, itX10, Or.inl wd176⟩
theorem wd177 : Cond.fieldLink "CopiedFireModel" 57 "CopiedFireModel" "sorts" "[I" ∈ TB := TBm (tk4 (List.mem_of_getElem? (i := 233) (by decide +kernel))) rfl
theorem flX10_57 : gFl RX10 57 9 27 := ⟨RX10, TX10, 37, rfl, by decide, itX10, Or.inl wd177⟩
theorem wd178 : Cond.fieldLink "CopiedFireModel" 60 "CopiedFireModel" "sizes" "[I" ∈ TB := TBm (tk4 (List.mem_of_getElem? (i := 234) (by decide +kernel))) rfl
theorem flX10_60 : gFl RX10 60 9 28 := ⟨RX10, TX10, 37, rfl, by decide, itX10, Or.inl wd178⟩
theorem wd179 : Cond.fieldLink "CopiedFireModel" 63 "CopiedFireModel" "cells" "[I" ∈ TB := TBm (tk4 (List.mem_of_getElem? (i := 235) (by decide +kernel))) rfl
theorem flX10_63 : gFl RX10 63 9 29 := ⟨RX10, TX10, 37, rfl, by decide, itX10, Or.inl wd179⟩
theorem wd180 : Cond.fieldLink "CopiedFireModel" 66 "CopiedFireModel" "holds" "[I" ∈ TB := TBm (tk4 (List.mem_of_getElem? (i := 236) (by decide +kernel))) rfl
theorem flX10_66 : gFl RX10 66 9 30 := ⟨RX10, TX10, 37, rfl, by decide, itX10, Or.inl wd180⟩
theorem wd181 : Cond.fieldLink "CopiedFireModel" 69 "CopiedFireModel" "holdsA" "[I" ∈ TB := TBm (tk4 (List.mem_of_getElem? (i := 237) (by decide +kernel))) rfl
theorem flX10_69 : gFl RX10 69 9 31 := ⟨RX10, TX10, 37, rfl, by decide, itX10, Or.inl wd181⟩
theorem wd182 : Cond.fieldLink "CopiedFireModel" 72 "CopiedFireModel" "holdsB" "[I" ∈ TB := TBm (tk4 (List.mem_of_getElem? (i := 238) (by decide +kernel))) rfl
theorem flX10_72 : gFl RX10 72 9 32 := ⟨RX10, TX10, 37, rfl, by decide, itX10, Or.inl wd182⟩
theorem wd183 : Cond.fieldLink "CopiedFireModel" 75 "CopiedFireModel" "heldCells" "[I" ∈ TB := TBm (tk4 (List.mem_of_getElem? (i := 239) (by decide +kernel))) rfl
theorem flX10_75 : gFl RX10 75 9 33 := ⟨RX10, TX10, 37, rfl, by decide, itX10, Or.inl wd183⟩
theorem wd184 : Cond.fieldLink "CopiedFireModel" 78 "CopiedFireModel" "moved" "[I" ∈ TB := TBm (tk5 (List.mem_of_getElem? (i := 0) (by decide +kernel))) rfl
theorem flX10_78 : gFl RX10 78 9 34 := ⟨RX10, TX10, 37, rfl, by decide, itX10, Or.inl wd184⟩
theorem wd185 : Cond.fieldLink "CopiedFireModel" 81 "CopiedFireModel" "tells" "[I" ∈ TB := TBm (tk5 (List.mem_of_getElem? (i := 1) (by decide +kernel))) rfl
theorem flX10_81 : gFl RX10 81 9 35 := ⟨RX10, TX10, 37, rfl, by decide, itX10, Or.inl wd185⟩
theorem wd186 : Cond.fieldLink "CopiedFireModel" 285 "CopiedFireModel" "waiting" "I" ∈ TB := TBm (tk5 (List.mem_of_getElem? (i := 2) (by decide +kernel))) rfl
theorem flX10_285 : gFl RX10 285 9 36 := ⟨RX10, TX10, 37, rfl, by decide, itX10, Or.inl wd186⟩
theorem fpX10_285 : gFp RX10 285 9 36 .int := ⟨RX10, TX10, 37, rfl, by decide, itX10, ⟨tyX10, tyX10_ok⟩, nmX10, rfl, by decide +kernel, Or.inl wd186⟩
theorem wd187 : Cond.code ⟨"CopiedFire", "<init>", "()V"⟩ prog_1_method_1_code 2 (Option.none : Option Jvm.ClassFile.FieldType) ∈ TB := TBm (tk1 (List.mem_of_getElem? (i := 25) (by decide +kernel))) rfl
theorem wd188 : Cond.initialized "CopiedFire" ∈ TB := TBm (tk1 (List.mem_of_getElem? (i := 1) (by decide +kernel))) rfl
theorem cwX9_init : gCw yX9_init cX9_init 2 none 0 := ⟨wd187, wd188, by decide +kernel⟩
theorem wd189 : Cond.code ⟨"CopiedFire$Laws", "<init>", "()V"⟩ prog_4_method_1_code 1 (Option.none : Option Jvm.ClassFile.FieldType) ∈ TB := TBm (tk1 (List.mem_of_getElem? (i := 33) (by decide +kernel))) rfl
theorem wd190 : Cond.initialized "CopiedFire$Laws" ∈ TB := TBm (tk1 (List.mem_of_getElem? (i := 2) (by decide +kernel))) rfl
theorem cwX2_init : gCw yX2_init cX2_init 1 none 0 := ⟨wd189, wd190, by decide +kernel⟩
theorem wd191 : Cond.code ⟨"CopiedFire$House", "<init>", "(LCopiedFire$Laws;)V"⟩ prog_2_method_1_code 2 (Option.none : Option Jvm.ClassFile.FieldType) ∈ TB := TBm (tk1 (List.mem_of_getElem? (i := 49) (by decide +kernel))) rfl
theorem wd192 : Cond.initialized "CopiedFire$House" ∈ TB := TBm (tk1 (List.mem_of_getElem? (i := 3) (by decide +kernel))) rfl
theorem cwX0_init : gCw yX0_init cX0_init 2 none 1 := ⟨wd191, wd192, by decide +kernel⟩
abbrev cJA_fill : ByteArray := prog_21_method_103_code
def yJA_fill : MethodName := ⟨RJA, "fill", "([II)V"⟩
theorem wd193 : Cond.code ⟨"java/util/Arrays", "fill", "([II)V"⟩ prog_21_method_103_code 4 (Option.none : Option Jvm.ClassFile.FieldType) ∈ TB := TBm (tk1 (List.mem_of_getElem? (i := 53) (by decide +kernel))) rfl
theorem wd194 : Cond.initialized "java/util/Arrays" ∈ TB := TBm (tk1 (List.mem_of_getElem? (i := 4) (by decide +kernel))) rfl
theorem cwJA_fill : gCw yJA_fill cJA_fill 4 none 2 := ⟨wd193, wd194, by decide +kernel⟩
theorem wd195 : Cond.static ⟨"java/util/Arrays", "fill", "([II)V"⟩ ∈ TB := TBm (tk1 (List.mem_of_getElem? (i := 52) (by decide +kernel))) rfl
theorem csJA_fill : gCs yJA_fill := wd195
theorem wd196 : Cond.code ⟨"CopiedFire$Seating", "<init>", "()V"⟩ prog_6_method_1_code 1 (Option.none : Option Jvm.ClassFile.FieldType) ∈ TB := TBm (tk1 (List.mem_of_getElem? (i := 136) (by decide +kernel))) rfl
theorem wd197 : Cond.initialized "CopiedFire$Seating" ∈ TB := TBm (tk1 (List.mem_of_getElem? (i := 5) (by decide +kernel))) rfl
theorem cwX4_init : gCw yX4_init cX4_init 1 none 0 := ⟨wd196, wd197, by decide +kernel⟩
theorem wd198 : Cond.code ⟨"CopiedFire$Tape", "<init>", "()V"⟩ prog_9_method_1_code 1 (Option.none : Option Jvm.ClassFile.FieldType) ∈ TB := TBm (tk1 (List.mem_of_getElem? (i := 150) (by decide +kernel))) rfl
theorem wd199 : Cond.initialized "CopiedFire$Tape" ∈ TB := TBm (tk1 (List.mem_of_getElem? (i := 6) (by decide +kernel))) rfl
theorem cwX7_init : gCw yX7_init cX7_init 1 none 0 := ⟨wd198, wd199, by decide +kernel⟩
theorem wd200 : Cond.code ⟨"CopiedFire$Reader", "<init>", "(LCopiedFire$Tape;)V"⟩ prog_5_method_1_code 2 (Option.none : Option Jvm.ClassFile.FieldType) ∈ TB := TBm (tk1 (List.mem_of_getElem? (i := 166) (by decide +kernel))) rfl
theorem wd201 : Cond.initialized "CopiedFire$Reader" ∈ TB := TBm (tk1 (List.mem_of_getElem? (i := 7) (by decide +kernel))) rfl
theorem cwX3_init : gCw yX3_init cX3_init 2 none 1 := ⟨wd200, wd201, by decide +kernel⟩
theorem wd202 : Cond.code ⟨"CopiedFire$Sheet", "<init>", "()V"⟩ prog_7_method_1_code 1 (Option.none : Option Jvm.ClassFile.FieldType) ∈ TB := TBm (tk1 (List.mem_of_getElem? (i := 203) (by decide +kernel))) rfl
theorem wd203 : Cond.initialized "CopiedFire$Sheet" ∈ TB := TBm (tk1 (List.mem_of_getElem? (i := 8) (by decide +kernel))) rfl
theorem cwX5_init : gCw yX5_init cX5_init 1 none 0 := ⟨wd202, wd203, by decide +kernel⟩
theorem wd204 : Cond.code ⟨"CopiedFire$Slot", "<init>", "()V"⟩ prog_8_method_1_code 1 (Option.none : Option Jvm.ClassFile.FieldType) ∈ TB := TBm (tk1 (List.mem_of_getElem? (i := 223) (by decide +kernel))) rfl
theorem wd205 : Cond.initialized "CopiedFire$Slot" ∈ TB := TBm (tk1 (List.mem_of_getElem? (i := 9) (by decide +kernel))) rfl
theorem cwX6_init : gCw yX6_init cX6_init 1 none 0 := ⟨wd204, wd205, by decide +kernel⟩
theorem wd206 : Cond.code ⟨"CopiedFire", "thing", "(IIII)I"⟩ prog_1_method_2_code 5 (Option.some Jvm.ClassFile.FieldType.int) ∈ TB := TBm (tk2 (List.mem_of_getElem? (i := 48) (by decide +kernel))) rfl
theorem cwX9_thing : gCw yX9_thing cX9_thing 5 (some .int) 4 := ⟨wd206, wd188, by decide +kernel⟩
theorem wd207 : Cond.instanceMethod ⟨"CopiedFire", "thing", "(IIII)I"⟩ ∈ TB := TBm (tk2 (List.mem_of_getElem? (i := 46) (by decide +kernel))) rfl
theorem wd208 : Cond.selects "CopiedFire" ⟨"CopiedFire", "thing", "(IIII)I"⟩ ⟨"CopiedFire", "thing", "(IIII)I"⟩ ∈ TB := TBm (tk2 (List.mem_of_getElem? (i := 47) (by decide +kernel))) rfl
theorem ciX9_thing : gCi yX9_thing := ⟨wd207, wd208⟩
theorem wd209 : Cond.code ⟨"CopiedFire", "isKind", "(I)Z"⟩ prog_1_method_51_code 1 (Option.some Jvm.ClassFile.FieldType.boolean) ∈ TB := TBm (tk2 (List.mem_of_getElem? (i := 51) (by decide +kernel))) rfl
theorem cwX9_isKind : gCw yX9_isKind cX9_isKind 1 (some .boolean) 1 := ⟨wd209, wd188, by decide +kernel⟩
theorem wd210 : Cond.static ⟨"CopiedFire", "isKind", "(I)Z"⟩ ∈ TB := TBm (tk2 (List.mem_of_getElem? (i := 50) (by decide +kernel))) rfl
theorem csX9_isKind : gCs yX9_isKind := wd210
theorem wd211 : Cond.code ⟨"CopiedFire", "within", "(III)Z"⟩ prog_1_method_49_code 3 (Option.some Jvm.ClassFile.FieldType.boolean) ∈ TB := TBm (tk2 (List.mem_of_getElem? (i := 54) (by decide +kernel))) rfl
theorem cwX9_within : gCw yX9_within cX9_within 3 (some .boolean) 3 := ⟨wd211, wd188, by decide +kernel⟩
theorem wd212 : Cond.static ⟨"CopiedFire", "within", "(III)Z"⟩ ∈ TB := TBm (tk2 (List.mem_of_getElem? (i := 53) (by decide +kernel))) rfl
theorem csX9_within : gCs yX9_within := wd212
theorem wd213 : Cond.code ⟨"CopiedFire", "isRoom", "(I)Z"⟩ prog_1_method_52_code 1 (Option.some Jvm.ClassFile.FieldType.boolean) ∈ TB := TBm (tk2 (List.mem_of_getElem? (i := 57) (by decide +kernel))) rfl
theorem cwX9_isRoom : gCw yX9_isRoom cX9_isRoom 1 (some .boolean) 1 := ⟨wd213, wd188, by decide +kernel⟩
theorem wd214 : Cond.static ⟨"CopiedFire", "isRoom", "(I)Z"⟩ ∈ TB := TBm (tk2 (List.mem_of_getElem? (i := 56) (by decide +kernel))) rfl
theorem csX9_isRoom : gCs yX9_isRoom := wd214
theorem wd215 : Cond.code ⟨"CopiedFire$House", "addThing", "(IIII)I"⟩ prog_2_method_3_code 5 (Option.some Jvm.ClassFile.FieldType.int) ∈ TB := TBm (tk2 (List.mem_of_getElem? (i := 63) (by decide +kernel))) rfl
theorem cwX0_addThing : gCw yX0_addThing cX0_addThing 5 (some .int) 4 := ⟨wd215, wd192, by decide +kernel⟩
theorem wd216 : Cond.instanceMethod ⟨"CopiedFire$House", "addThing", "(IIII)I"⟩ ∈ TB := TBm (tk2 (List.mem_of_getElem? (i := 61) (by decide +kernel))) rfl
theorem wd217 : Cond.selects "CopiedFire$House" ⟨"CopiedFire$House", "addThing", "(IIII)I"⟩ ⟨"CopiedFire$House", "addThing", "(IIII)I"⟩ ∈ TB := TBm (tk2 (List.mem_of_getElem? (i := 62) (by decide +kernel))) rfl
theorem ciX0_addThing : gCi yX0_addThing := ⟨wd216, wd217⟩
theorem wd218 : Cond.code ⟨"CopiedFire", "told", "(II)I"⟩ prog_1_method_3_code 3 (Option.some Jvm.ClassFile.FieldType.int) ∈ TB := TBm (tk2 (List.mem_of_getElem? (i := 67) (by decide +kernel))) rfl
theorem cwX9_told : gCw yX9_told cX9_told 3 (some .int) 2 := ⟨wd218, wd188, by decide +kernel⟩
theorem wd219 : Cond.instanceMethod ⟨"CopiedFire", "told", "(II)I"⟩ ∈ TB := TBm (tk2 (List.mem_of_getElem? (i := 65) (by decide +kernel))) rfl
theorem wd220 : Cond.selects "CopiedFire" ⟨"CopiedFire", "told", "(II)I"⟩ ⟨"CopiedFire", "told", "(II)I"⟩ ∈ TB := TBm (tk2 (List.mem_of_getElem? (i := 66) (by decide +kernel))) rfl
theorem ciX9_told : gCi yX9_told := ⟨wd219, wd220⟩
theorem wd221 : Cond.code ⟨"CopiedFire", "isThing", "(I)Z"⟩ prog_1_method_54_code 2 (Option.some Jvm.ClassFile.FieldType.boolean) ∈ TB := TBm (tk2 (List.mem_of_getElem? (i := 71) (by decide +kernel))) rfl
theorem cwX9_isThing : gCw yX9_isThing cX9_isThing 2 (some .boolean) 1 := ⟨wd221, wd188, by decide +kernel⟩
theorem wd222 : Cond.instanceMethod ⟨"CopiedFire", "isThing", "(I)Z"⟩ ∈ TB := TBm (tk2 (List.mem_of_getElem? (i := 70) (by decide +kernel))) rfl
theorem wd223 : Cond.selects "CopiedFire" ⟨"CopiedFire", "isThing", "(I)Z"⟩ ⟨"CopiedFire", "isThing", "(I)Z"⟩ ∈ TB := TBm (List.mem_of_getElem? (i := 0) (by decide +kernel)) rfl
theorem ciX9_isThing : gCi yX9_isThing := ⟨wd222, wd223⟩
theorem wd224 : Cond.code ⟨"CopiedFire$House", "burnsOf", "(I)I"⟩ prog_2_method_10_code 4 (Option.some Jvm.ClassFile.FieldType.int) ∈ TB := TBm (tk2 (List.mem_of_getElem? (i := 75) (by decide +kernel))) rfl
theorem cwX0_burnsOf : gCw yX0_burnsOf cX0_burnsOf 4 (some .int) 1 := ⟨wd224, wd192, by decide +kernel⟩
theorem wd225 : Cond.instanceMethod ⟨"CopiedFire$House", "burnsOf", "(I)I"⟩ ∈ TB := TBm (tk2 (List.mem_of_getElem? (i := 73) (by decide +kernel))) rfl
theorem wd226 : Cond.selects "CopiedFire$House" ⟨"CopiedFire$House", "burnsOf", "(I)I"⟩ ⟨"CopiedFire$House", "burnsOf", "(I)I"⟩ ∈ TB := TBm (tk2 (List.mem_of_getElem? (i := 74) (by decide +kernel))) rfl
theorem ciX0_burnsOf : gCi yX0_burnsOf := ⟨wd225, wd226⟩
theorem wd227 : Cond.code ⟨"CopiedFire$Laws", "work", "(IIII)I"⟩ prog_4_method_6_code 10 (Option.some Jvm.ClassFile.FieldType.int) ∈ TB := TBm (tk2 (List.mem_of_getElem? (i := 79) (by decide +kernel))) rfl
theorem cwX2_work : gCw yX2_work cX2_work 10 (some .int) 4 := ⟨wd227, wd190, by decide +kernel⟩
theorem wd228 : Cond.instanceMethod ⟨"CopiedFire$Laws", "work", "(IIII)I"⟩ ∈ TB := TBm (tk2 (List.mem_of_getElem? (i := 77) (by decide +kernel))) rfl
theorem wd229 : Cond.selects "CopiedFire$Laws" ⟨"CopiedFire$Laws", "work", "(IIII)I"⟩ ⟨"CopiedFire$Laws", "work", "(IIII)I"⟩ ∈ TB := TBm (tk2 (List.mem_of_getElem? (i := 78) (by decide +kernel))) rfl
theorem ciX2_work : gCi yX2_work := ⟨wd228, wd229⟩
theorem wd230 : Cond.code ⟨"CopiedFire$Laws", "has", "(I)Z"⟩ prog_4_method_2_code 2 (Option.some Jvm.ClassFile.FieldType.boolean) ∈ TB := TBm (tk2 (List.mem_of_getElem? (i := 83) (by decide +kernel))) rfl
theorem cwX2_has : gCw yX2_has cX2_has 2 (some .boolean) 1 := ⟨wd230, wd190, by decide +kernel⟩
theorem wd231 : Cond.instanceMethod ⟨"CopiedFire$Laws", "has", "(I)Z"⟩ ∈ TB := TBm (tk2 (List.mem_of_getElem? (i := 82) (by decide +kernel))) rfl
theorem wd232 : Cond.selects "CopiedFire$Laws" ⟨"CopiedFire$Laws", "has", "(I)Z"⟩ ⟨"CopiedFire$Laws", "has", "(I)Z"⟩ ∈ TB := TBm (List.mem_of_getElem? (i := 1) (by decide +kernel)) rfl
theorem ciX2_has : gCi yX2_has := ⟨wd231, wd232⟩
theorem wd233 : Cond.code ⟨"CopiedFire$Laws", "joined", "(III)I"⟩ prog_4_method_7_code 3 (Option.some Jvm.ClassFile.FieldType.int) ∈ TB := TBm (tk2 (List.mem_of_getElem? (i := 87) (by decide +kernel))) rfl
theorem cwX2_joined : gCw yX2_joined cX2_joined 3 (some .int) 3 := ⟨wd233, wd190, by decide +kernel⟩
theorem wd234 : Cond.static ⟨"CopiedFire$Laws", "joined", "(III)I"⟩ ∈ TB := TBm (tk2 (List.mem_of_getElem? (i := 86) (by decide +kernel))) rfl
theorem csX2_joined : gCs yX2_joined := wd234
theorem wd235 : Cond.code ⟨"CopiedFire", "held", "(II)I"⟩ prog_1_method_50_code 2 (Option.some Jvm.ClassFile.FieldType.int) ∈ TB := TBm (tk2 (List.mem_of_getElem? (i := 90) (by decide +kernel))) rfl
theorem cwX9_held : gCw yX9_held cX9_held 2 (some .int) 2 := ⟨wd235, wd188, by decide +kernel⟩
theorem wd236 : Cond.static ⟨"CopiedFire", "held", "(II)I"⟩ ∈ TB := TBm (tk2 (List.mem_of_getElem? (i := 89) (by decide +kernel))) rfl
theorem csX9_held : gCs yX9_held := wd236
theorem wd237 : Cond.code ⟨"CopiedFire$Kinds", "burns", "(II)I"⟩ prog_3_method_3_code 2 (Option.some Jvm.ClassFile.FieldType.int) ∈ TB := TBm (tk2 (List.mem_of_getElem? (i := 99) (by decide +kernel))) rfl
theorem wd238 : Cond.initialized "CopiedFire$Kinds" ∈ TB := TBm (tk1 (List.mem_of_getElem? (i := 12) (by decide +kernel))) rfl
theorem cwX1_burns : gCw yX1_burns cX1_burns 2 (some .int) 2 := ⟨wd237, wd238, by decide +kernel⟩
theorem wd239 : Cond.static ⟨"CopiedFire$Kinds", "burns", "(II)I"⟩ ∈ TB := TBm (tk2 (List.mem_of_getElem? (i := 98) (by decide +kernel))) rfl
theorem csX1_burns : gCs yX1_burns := wd239
theorem wd240 : Cond.code ⟨"CopiedFire$Kinds", "gives", "(II)I"⟩ prog_3_method_4_code 2 (Option.some Jvm.ClassFile.FieldType.int) ∈ TB := TBm (tk2 (List.mem_of_getElem? (i := 103) (by decide +kernel))) rfl
theorem cwX1_gives : gCw yX1_gives cX1_gives 2 (some .int) 2 := ⟨wd240, wd238, by decide +kernel⟩
theorem wd241 : Cond.static ⟨"CopiedFire$Kinds", "gives", "(II)I"⟩ ∈ TB := TBm (tk2 (List.mem_of_getElem? (i := 102) (by decide +kernel))) rfl
theorem csX1_gives : gCs yX1_gives := wd241
theorem wd242 : Cond.code ⟨"CopiedFire$Kinds", "catchesFrom", "(I)I"⟩ prog_3_method_5_code 1 (Option.some Jvm.ClassFile.FieldType.int) ∈ TB := TBm (tk2 (List.mem_of_getElem? (i := 106) (by decide +kernel))) rfl
theorem cwX1_catchesFrom : gCw yX1_catchesFrom cX1_catchesFrom 1 (some .int) 1 := ⟨wd242, wd238, by decide +kernel⟩
theorem wd243 : Cond.static ⟨"CopiedFire$Kinds", "catchesFrom", "(I)I"⟩ ∈ TB := TBm (tk2 (List.mem_of_getElem? (i := 105) (by decide +kernel))) rfl
theorem csX1_catchesFrom : gCs yX1_catchesFrom := wd243
theorem wd244 : Cond.code ⟨"CopiedFire$Kinds", "worth", "(II)I"⟩ prog_3_method_6_code 2 (Option.some Jvm.ClassFile.FieldType.int) ∈ TB := TBm (tk2 (List.mem_of_getElem? (i := 109) (by decide +kernel))) rfl
theorem cwX1_worth : gCw yX1_worth cX1_worth 2 (some .int) 2 := ⟨wd244, wd238, by decide +kernel⟩
theorem wd245 : Cond.static ⟨"CopiedFire$Kinds", "worth", "(II)I"⟩ ∈ TB := TBm (tk2 (List.mem_of_getElem? (i := 108) (by decide +kernel))) rfl
theorem csX1_worth : gCs yX1_worth := wd245
theorem wd246 : Cond.code ⟨"CopiedFire", "as", "(II)I"⟩ prog_1_method_4_code 3 (Option.some Jvm.ClassFile.FieldType.int) ∈ TB := TBm (tk2 (List.mem_of_getElem? (i := 113) (by decide +kernel))) rfl
theorem cwX9_as : gCw yX9_as cX9_as 3 (some .int) 2 := ⟨wd246, wd188, by decide +kernel⟩
theorem wd247 : Cond.instanceMethod ⟨"CopiedFire", "as", "(II)I"⟩ ∈ TB := TBm (tk2 (List.mem_of_getElem? (i := 111) (by decide +kernel))) rfl
theorem wd248 : Cond.selects "CopiedFire" ⟨"CopiedFire", "as", "(II)I"⟩ ⟨"CopiedFire", "as", "(II)I"⟩ ∈ TB := TBm (tk2 (List.mem_of_getElem? (i := 112) (by decide +kernel))) rfl
theorem ciX9_as : gCi yX9_as := ⟨wd247, wd248⟩
theorem wd249 : Cond.code ⟨"CopiedFire$Kinds", "isOf", "(II)Z"⟩ prog_3_method_2_code 2 (Option.some Jvm.ClassFile.FieldType.boolean) ∈ TB := TBm (tk2 (List.mem_of_getElem? (i := 116) (by decide +kernel))) rfl
theorem cwX1_isOf : gCw yX1_isOf cX1_isOf 2 (some .boolean) 2 := ⟨wd249, wd238, by decide +kernel⟩
theorem wd250 : Cond.static ⟨"CopiedFire$Kinds", "isOf", "(II)Z"⟩ ∈ TB := TBm (tk2 (List.mem_of_getElem? (i := 115) (by decide +kernel))) rfl
theorem csX1_isOf : gCs yX1_isOf := wd250
theorem wd251 : Cond.code ⟨"CopiedFire", "turns", "(II)I"⟩ prog_1_method_5_code 4 (Option.some Jvm.ClassFile.FieldType.int) ∈ TB := TBm (tk2 (List.mem_of_getElem? (i := 123) (by decide +kernel))) rfl
theorem cwX9_turns : gCw yX9_turns cX9_turns 4 (some .int) 2 := ⟨wd251, wd188, by decide +kernel⟩
theorem wd252 : Cond.instanceMethod ⟨"CopiedFire", "turns", "(II)I"⟩ ∈ TB := TBm (tk2 (List.mem_of_getElem? (i := 121) (by decide +kernel))) rfl
theorem wd253 : Cond.selects "CopiedFire" ⟨"CopiedFire", "turns", "(II)I"⟩ ⟨"CopiedFire", "turns", "(II)I"⟩ ∈ TB := TBm (tk2 (List.mem_of_getElem? (i := 122) (by decide +kernel))) rfl
theorem ciX9_turns : gCi yX9_turns := ⟨wd252, wd253⟩
theorem wd254 : Cond.code ⟨"CopiedFire", "set", "(III)I"⟩ prog_1_method_6_code 4 (Option.some Jvm.ClassFile.FieldType.int) ∈ TB := TBm (tk2 (List.mem_of_getElem? (i := 127) (by decide +kernel))) rfl
theorem cwX9_set : gCw yX9_set cX9_set 4 (some .int) 3 := ⟨wd254, wd188, by decide +kernel⟩
theorem wd255 : Cond.instanceMethod ⟨"CopiedFire", "set", "(III)I"⟩ ∈ TB := TBm (tk2 (List.mem_of_getElem? (i := 125) (by decide +kernel))) rfl
theorem wd256 : Cond.selects "CopiedFire" ⟨"CopiedFire", "set", "(III)I"⟩ ⟨"CopiedFire", "set", "(III)I"⟩ ∈ TB := TBm (tk2 (List.mem_of_getElem? (i := 126) (by decide +kernel))) rfl
theorem ciX9_set : gCi yX9_set := ⟨wd255, wd256⟩
theorem wd257 : Cond.code ⟨"CopiedFire", "replaced", "([IIII)I"⟩ prog_1_method_58_code 5 (Option.some Jvm.ClassFile.FieldType.int) ∈ TB := TBm (tk2 (List.mem_of_getElem? (i := 130) (by decide +kernel))) rfl
theorem cwX9_replaced : gCw yX9_replaced cX9_replaced 5 (some .int) 4 := ⟨wd257, wd188, by decide +kernel⟩
theorem wd258 : Cond.static ⟨"CopiedFire", "replaced", "([IIII)I"⟩ ∈ TB := TBm (tk2 (List.mem_of_getElem? (i := 129) (by decide +kernel))) rfl
theorem csX9_replaced : gCs yX9_replaced := wd258
theorem wd259 : Cond.code ⟨"CopiedFire", "deal", "(I)I"⟩ prog_1_method_7_code 4 (Option.some Jvm.ClassFile.FieldType.int) ∈ TB := TBm (tk2 (List.mem_of_getElem? (i := 134) (by decide +kernel))) rfl
theorem cwX9_deal : gCw yX9_deal cX9_deal 4 (some .int) 1 := ⟨wd259, wd188, by decide +kernel⟩
theorem wd260 : Cond.instanceMethod ⟨"CopiedFire", "deal", "(I)I"⟩ ∈ TB := TBm (tk2 (List.mem_of_getElem? (i := 132) (by decide +kernel))) rfl
theorem wd261 : Cond.selects "CopiedFire" ⟨"CopiedFire", "deal", "(I)I"⟩ ⟨"CopiedFire", "deal", "(I)I"⟩ ∈ TB := TBm (tk2 (List.mem_of_getElem? (i := 133) (by decide +kernel))) rfl
theorem ciX9_deal : gCi yX9_deal := ⟨wd260, wd261⟩
theorem wd262 : Cond.code ⟨"CopiedFire$House", "drawThing", "()V"⟩ prog_2_method_4_code 5 (Option.none : Option Jvm.ClassFile.FieldType) ∈ TB := TBm (tk2 (List.mem_of_getElem? (i := 138) (by decide +kernel))) rfl
theorem cwX0_drawThing : gCw yX0_drawThing cX0_drawThing 5 none 0 := ⟨wd262, wd192, by decide +kernel⟩
theorem wd263 : Cond.instanceMethod ⟨"CopiedFire$House", "drawThing", "()V"⟩ ∈ TB := TBm (tk2 (List.mem_of_getElem? (i := 136) (by decide +kernel))) rfl
theorem wd264 : Cond.selects "CopiedFire$House" ⟨"CopiedFire$House", "drawThing", "()V"⟩ ⟨"CopiedFire$House", "drawThing", "()V"⟩ ∈ TB := TBm (tk2 (List.mem_of_getElem? (i := 137) (by decide +kernel))) rfl
theorem ciX0_drawThing : gCi yX0_drawThing := ⟨wd263, wd264⟩
theorem wd265 : Cond.code ⟨"CopiedFire$House", "draw", "()I"⟩ prog_2_method_17_code 1 (Option.some Jvm.ClassFile.FieldType.int) ∈ TB := TBm (tk2 (List.mem_of_getElem? (i := 142) (by decide +kernel))) rfl
theorem cwX0_draw : gCw yX0_draw cX0_draw 1 (some .int) 0 := ⟨wd265, wd192, by decide +kernel⟩
theorem wd266 : Cond.instanceMethod ⟨"CopiedFire$House", "draw", "()I"⟩ ∈ TB := TBm (tk2 (List.mem_of_getElem? (i := 141) (by decide +kernel))) rfl
theorem wd267 : Cond.selects "CopiedFire$House" ⟨"CopiedFire$House", "draw", "()I"⟩ ⟨"CopiedFire$House", "draw", "()I"⟩ ∈ TB := TBm (List.mem_of_getElem? (i := 2) (by decide +kernel)) rfl
theorem ciX0_draw : gCi yX0_draw := ⟨wd266, wd267⟩
theorem wd268 : Cond.code ⟨"CopiedFire", "seed", "(I)I"⟩ prog_1_method_8_code 3 (Option.some Jvm.ClassFile.FieldType.int) ∈ TB := TBm (tk2 (List.mem_of_getElem? (i := 148) (by decide +kernel))) rfl
theorem cwX9_seed : gCw yX9_seed cX9_seed 3 (some .int) 1 := ⟨wd268, wd188, by decide +kernel⟩
theorem wd269 : Cond.instanceMethod ⟨"CopiedFire", "seed", "(I)I"⟩ ∈ TB := TBm (tk2 (List.mem_of_getElem? (i := 146) (by decide +kernel))) rfl
theorem wd270 : Cond.selects "CopiedFire" ⟨"CopiedFire", "seed", "(I)I"⟩ ⟨"CopiedFire", "seed", "(I)I"⟩ ∈ TB := TBm (tk2 (List.mem_of_getElem? (i := 147) (by decide +kernel))) rfl
theorem ciX9_seed : gCi yX9_seed := ⟨wd269, wd270⟩
theorem wd271 : Cond.code ⟨"CopiedFire", "heat", "(I)I"⟩ prog_1_method_9_code 2 (Option.some Jvm.ClassFile.FieldType.int) ∈ TB := TBm (tk2 (List.mem_of_getElem? (i := 152) (by decide +kernel))) rfl
theorem cwX9_heat : gCw yX9_heat cX9_heat 2 (some .int) 1 := ⟨wd271, wd188, by decide +kernel⟩
theorem wd272 : Cond.instanceMethod ⟨"CopiedFire", "heat", "(I)I"⟩ ∈ TB := TBm (tk2 (List.mem_of_getElem? (i := 150) (by decide +kernel))) rfl
theorem wd273 : Cond.selects "CopiedFire" ⟨"CopiedFire", "heat", "(I)I"⟩ ⟨"CopiedFire", "heat", "(I)I"⟩ ∈ TB := TBm (tk2 (List.mem_of_getElem? (i := 151) (by decide +kernel))) rfl
theorem ciX9_heat : gCi yX9_heat := ⟨wd272, wd273⟩
theorem wd274 : Cond.code ⟨"CopiedFire", "heats", "(II)I"⟩ prog_1_method_10_code 3 (Option.some Jvm.ClassFile.FieldType.int) ∈ TB := TBm (tk2 (List.mem_of_getElem? (i := 156) (by decide +kernel))) rfl
theorem cwX9_heats : gCw yX9_heats cX9_heats 3 (some .int) 2 := ⟨wd274, wd188, by decide +kernel⟩
theorem wd275 : Cond.instanceMethod ⟨"CopiedFire", "heats", "(II)I"⟩ ∈ TB := TBm (tk2 (List.mem_of_getElem? (i := 154) (by decide +kernel))) rfl
theorem wd276 : Cond.selects "CopiedFire" ⟨"CopiedFire", "heats", "(II)I"⟩ ⟨"CopiedFire", "heats", "(II)I"⟩ ∈ TB := TBm (tk2 (List.mem_of_getElem? (i := 155) (by decide +kernel))) rfl
theorem ciX9_heats : gCi yX9_heats := ⟨wd275, wd276⟩
theorem wd277 : Cond.code ⟨"CopiedFire", "door", "(III)I"⟩ prog_1_method_11_code 5 (Option.some Jvm.ClassFile.FieldType.int) ∈ TB := TBm (tk2 (List.mem_of_getElem? (i := 160) (by decide +kernel))) rfl
theorem cwX9_door : gCw yX9_door cX9_door 5 (some .int) 3 := ⟨wd277, wd188, by decide +kernel⟩
theorem wd278 : Cond.instanceMethod ⟨"CopiedFire", "door", "(III)I"⟩ ∈ TB := TBm (tk2 (List.mem_of_getElem? (i := 158) (by decide +kernel))) rfl
theorem wd279 : Cond.selects "CopiedFire" ⟨"CopiedFire", "door", "(III)I"⟩ ⟨"CopiedFire", "door", "(III)I"⟩ ∈ TB := TBm (tk2 (List.mem_of_getElem? (i := 159) (by decide +kernel))) rfl
theorem ciX9_door : gCi yX9_door := ⟨wd278, wd279⟩
theorem wd280 : Cond.code ⟨"CopiedFire", "areTwoRooms", "(II)Z"⟩ prog_1_method_53_code 2 (Option.some Jvm.ClassFile.FieldType.boolean) ∈ TB := TBm (tk2 (List.mem_of_getElem? (i := 163) (by decide +kernel))) rfl
theorem cwX9_areTwoRooms : gCw yX9_areTwoRooms cX9_areTwoRooms 2 (some .boolean) 2 := ⟨wd280, wd188, by decide +kernel⟩
theorem wd281 : Cond.static ⟨"CopiedFire", "areTwoRooms", "(II)Z"⟩ ∈ TB := TBm (tk2 (List.mem_of_getElem? (i := 162) (by decide +kernel))) rfl
theorem csX9_areTwoRooms : gCs yX9_areTwoRooms := wd281
theorem wd282 : Cond.code ⟨"CopiedFire$House", "doorBetween", "(II)I"⟩ prog_2_method_5_code 3 (Option.some Jvm.ClassFile.FieldType.int) ∈ TB := TBm (tk2 (List.mem_of_getElem? (i := 167) (by decide +kernel))) rfl
theorem cwX0_doorBetween : gCw yX0_doorBetween cX0_doorBetween 3 (some .int) 2 := ⟨wd282, wd192, by decide +kernel⟩
theorem wd283 : Cond.instanceMethod ⟨"CopiedFire$House", "doorBetween", "(II)I"⟩ ∈ TB := TBm (tk2 (List.mem_of_getElem? (i := 165) (by decide +kernel))) rfl
theorem wd284 : Cond.selects "CopiedFire$House" ⟨"CopiedFire$House", "doorBetween", "(II)I"⟩ ⟨"CopiedFire$House", "doorBetween", "(II)I"⟩ ∈ TB := TBm (tk2 (List.mem_of_getElem? (i := 166) (by decide +kernel))) rfl
theorem ciX0_doorBetween : gCi yX0_doorBetween := ⟨wd283, wd284⟩
theorem wd285 : Cond.code ⟨"CopiedFire$House", "putDoor", "(III)V"⟩ prog_2_method_6_code 4 (Option.none : Option Jvm.ClassFile.FieldType) ∈ TB := TBm (tk2 (List.mem_of_getElem? (i := 171) (by decide +kernel))) rfl
theorem cwX0_putDoor : gCw yX0_putDoor cX0_putDoor 4 none 3 := ⟨wd285, wd192, by decide +kernel⟩
theorem wd286 : Cond.instanceMethod ⟨"CopiedFire$House", "putDoor", "(III)V"⟩ ∈ TB := TBm (tk2 (List.mem_of_getElem? (i := 169) (by decide +kernel))) rfl
theorem wd287 : Cond.selects "CopiedFire$House" ⟨"CopiedFire$House", "putDoor", "(III)V"⟩ ⟨"CopiedFire$House", "putDoor", "(III)V"⟩ ∈ TB := TBm (tk2 (List.mem_of_getElem? (i := 170) (by decide +kernel))) rfl
theorem ciX0_putDoor : gCi yX0_putDoor := ⟨wd286, wd287⟩
theorem wd288 : Cond.code ⟨"CopiedFire", "doorTold", "(II)I"⟩ prog_1_method_12_code 3 (Option.some Jvm.ClassFile.FieldType.int) ∈ TB := TBm (tk2 (List.mem_of_getElem? (i := 175) (by decide +kernel))) rfl
theorem cwX9_doorTold : gCw yX9_doorTold cX9_doorTold 3 (some .int) 2 := ⟨wd288, wd188, by decide +kernel⟩
theorem wd289 : Cond.instanceMethod ⟨"CopiedFire", "doorTold", "(II)I"⟩ ∈ TB := TBm (tk2 (List.mem_of_getElem? (i := 173) (by decide +kernel))) rfl
theorem wd290 : Cond.selects "CopiedFire" ⟨"CopiedFire", "doorTold", "(II)I"⟩ ⟨"CopiedFire", "doorTold", "(II)I"⟩ ∈ TB := TBm (tk2 (List.mem_of_getElem? (i := 174) (by decide +kernel))) rfl
theorem ciX9_doorTold : gCi yX9_doorTold := ⟨wd289, wd290⟩
theorem wd291 : Cond.code ⟨"CopiedFire", "rule", "(II)I"⟩ prog_1_method_13_code 4 (Option.some Jvm.ClassFile.FieldType.int) ∈ TB := TBm (tk2 (List.mem_of_getElem? (i := 179) (by decide +kernel))) rfl
theorem cwX9_rule : gCw yX9_rule cX9_rule 4 (some .int) 2 := ⟨wd291, wd188, by decide +kernel⟩
theorem wd292 : Cond.instanceMethod ⟨"CopiedFire", "rule", "(II)I"⟩ ∈ TB := TBm (tk2 (List.mem_of_getElem? (i := 177) (by decide +kernel))) rfl
theorem wd293 : Cond.selects "CopiedFire" ⟨"CopiedFire", "rule", "(II)I"⟩ ⟨"CopiedFire", "rule", "(II)I"⟩ ∈ TB := TBm (tk2 (List.mem_of_getElem? (i := 178) (by decide +kernel))) rfl
theorem ciX9_rule : gCi yX9_rule := ⟨wd292, wd293⟩
theorem wd294 : Cond.code ⟨"CopiedFire", "visitor", "(I)I"⟩ prog_1_method_14_code 2 (Option.some Jvm.ClassFile.FieldType.int) ∈ TB := TBm (tk2 (List.mem_of_getElem? (i := 183) (by decide +kernel))) rfl
theorem cwX9_visitor : gCw yX9_visitor cX9_visitor 2 (some .int) 1 := ⟨wd294, wd188, by decide +kernel⟩
theorem wd295 : Cond.instanceMethod ⟨"CopiedFire", "visitor", "(I)I"⟩ ∈ TB := TBm (tk2 (List.mem_of_getElem? (i := 181) (by decide +kernel))) rfl
theorem wd296 : Cond.selects "CopiedFire" ⟨"CopiedFire", "visitor", "(I)I"⟩ ⟨"CopiedFire", "visitor", "(I)I"⟩ ∈ TB := TBm (tk2 (List.mem_of_getElem? (i := 182) (by decide +kernel))) rfl
theorem ciX9_visitor : gCi yX9_visitor := ⟨wd295, wd296⟩
theorem wd297 : Cond.code ⟨"CopiedFire", "likes", "(II)I"⟩ prog_1_method_15_code 3 (Option.some Jvm.ClassFile.FieldType.int) ∈ TB := TBm (tk2 (List.mem_of_getElem? (i := 187) (by decide +kernel))) rfl
theorem cwX9_likes : gCw yX9_likes cX9_likes 3 (some .int) 2 := ⟨wd297, wd188, by decide +kernel⟩
theorem wd298 : Cond.instanceMethod ⟨"CopiedFire", "likes", "(II)I"⟩ ∈ TB := TBm (tk2 (List.mem_of_getElem? (i := 185) (by decide +kernel))) rfl
theorem wd299 : Cond.selects "CopiedFire" ⟨"CopiedFire", "likes", "(II)I"⟩ ⟨"CopiedFire", "likes", "(II)I"⟩ ∈ TB := TBm (tk2 (List.mem_of_getElem? (i := 186) (by decide +kernel))) rfl
theorem ciX9_likes : gCi yX9_likes := ⟨wd298, wd299⟩
theorem wd300 : Cond.code ⟨"CopiedFire", "isVisitor", "(I)Z"⟩ prog_1_method_55_code 2 (Option.some Jvm.ClassFile.FieldType.boolean) ∈ TB := TBm (tk2 (List.mem_of_getElem? (i := 191) (by decide +kernel))) rfl
theorem cwX9_isVisitor : gCw yX9_isVisitor cX9_isVisitor 2 (some .boolean) 1 := ⟨wd300, wd188, by decide +kernel⟩
theorem wd301 : Cond.instanceMethod ⟨"CopiedFire", "isVisitor", "(I)Z"⟩ ∈ TB := TBm (tk2 (List.mem_of_getElem? (i := 190) (by decide +kernel))) rfl
theorem wd302 : Cond.selects "CopiedFire" ⟨"CopiedFire", "isVisitor", "(I)Z"⟩ ⟨"CopiedFire", "isVisitor", "(I)Z"⟩ ∈ TB := TBm (List.mem_of_getElem? (i := 3) (by decide +kernel)) rfl
theorem ciX9_isVisitor : gCi yX9_isVisitor := ⟨wd301, wd302⟩
theorem wd303 : Cond.code ⟨"CopiedFire", "seats", "(I)I"⟩ prog_1_method_16_code 3 (Option.some Jvm.ClassFile.FieldType.int) ∈ TB := TBm (tk2 (List.mem_of_getElem? (i := 195) (by decide +kernel))) rfl
theorem cwX9_seats : gCw yX9_seats cX9_seats 3 (some .int) 1 := ⟨wd303, wd188, by decide +kernel⟩
theorem wd304 : Cond.instanceMethod ⟨"CopiedFire", "seats", "(I)I"⟩ ∈ TB := TBm (tk2 (List.mem_of_getElem? (i := 193) (by decide +kernel))) rfl
theorem wd305 : Cond.selects "CopiedFire" ⟨"CopiedFire", "seats", "(I)I"⟩ ⟨"CopiedFire", "seats", "(I)I"⟩ ∈ TB := TBm (tk2 (List.mem_of_getElem? (i := 194) (by decide +kernel))) rfl
theorem ciX9_seats : gCi yX9_seats := ⟨wd304, wd305⟩
theorem wd306 : Cond.code ⟨"CopiedFire$Seating", "seatAll", "(LCopiedFire$House;)I"⟩ prog_6_method_2_code 8 (Option.some Jvm.ClassFile.FieldType.int) ∈ TB := TBm (tk2 (List.mem_of_getElem? (i := 199) (by decide +kernel))) rfl
theorem cwX4_seatAll : gCw yX4_seatAll cX4_seatAll 8 (some .int) 1 := ⟨wd306, wd197, by decide +kernel⟩
theorem wd307 : Cond.instanceMethod ⟨"CopiedFire$Seating", "seatAll", "(LCopiedFire$House;)I"⟩ ∈ TB := TBm (tk2 (List.mem_of_getElem? (i := 197) (by decide +kernel))) rfl
theorem wd308 : Cond.selects "CopiedFire$Seating" ⟨"CopiedFire$Seating", "seatAll", "(LCopiedFire$House;)I"⟩ ⟨"CopiedFire$Seating", "seatAll", "(LCopiedFire$House;)I"⟩ ∈ TB := TBm (tk2 (List.mem_of_getElem? (i := 198) (by decide +kernel))) rfl
theorem ciX4_seatAll : gCi yX4_seatAll := ⟨wd307, wd308⟩
theorem wd309 : Cond.code ⟨"CopiedFire$Seating", "gatherLikes", "(LCopiedFire$House;)V"⟩ prog_6_method_3_code 6 (Option.none : Option Jvm.ClassFile.FieldType) ∈ TB := TBm (tk2 (List.mem_of_getElem? (i := 203) (by decide +kernel))) rfl
theorem cwX4_gatherLikes : gCw yX4_gatherLikes cX4_gatherLikes 6 none 1 := ⟨wd309, wd197, by decide +kernel⟩
theorem wd310 : Cond.instanceMethod ⟨"CopiedFire$Seating", "gatherLikes", "(LCopiedFire$House;)V"⟩ ∈ TB := TBm (tk2 (List.mem_of_getElem? (i := 202) (by decide +kernel))) rfl
theorem wd311 : Cond.selects "CopiedFire$Seating" ⟨"CopiedFire$Seating", "gatherLikes", "(LCopiedFire$House;)V"⟩ ⟨"CopiedFire$Seating", "gatherLikes", "(LCopiedFire$House;)V"⟩ ∈ TB := TBm (List.mem_of_getElem? (i := 4) (by decide +kernel)) rfl
theorem ciX4_gatherLikes : gCi yX4_gatherLikes := ⟨wd310, wd311⟩
theorem wd312 : Cond.code ⟨"CopiedFire$Seating", "mostSeated", "(III)I"⟩ prog_6_method_5_code 8 (Option.some Jvm.ClassFile.FieldType.int) ∈ TB := TBm (tk2 (List.mem_of_getElem? (i := 207) (by decide +kernel))) rfl
theorem cwX4_mostSeated : gCw yX4_mostSeated cX4_mostSeated 8 (some .int) 3 := ⟨wd312, wd197, by decide +kernel⟩
theorem wd313 : Cond.instanceMethod ⟨"CopiedFire$Seating", "mostSeated", "(III)I"⟩ ∈ TB := TBm (tk2 (List.mem_of_getElem? (i := 206) (by decide +kernel))) rfl
theorem wd314 : Cond.selects "CopiedFire$Seating" ⟨"CopiedFire$Seating", "mostSeated", "(III)I"⟩ ⟨"CopiedFire$Seating", "mostSeated", "(III)I"⟩ ∈ TB := TBm (List.mem_of_getElem? (i := 5) (by decide +kernel)) rfl
theorem ciX4_mostSeated : gCi yX4_mostSeated := ⟨wd313, wd314⟩
abbrev cJI_bitCount : ByteArray := prog_15_method_49_code
def yJI_bitCount : MethodName := ⟨RJI, "bitCount", "(I)I"⟩
theorem wd315 : Cond.code ⟨"java/lang/Integer", "bitCount", "(I)I"⟩ prog_15_method_49_code 1 (Option.some Jvm.ClassFile.FieldType.int) ∈ TB := TBm (tk2 (List.mem_of_getElem? (i := 210) (by decide +kernel))) rfl
theorem wd316 : Cond.initialized "java/lang/Integer" ∈ TB := TBm (tk1 (List.mem_of_getElem? (i := 13) (by decide +kernel))) rfl
theorem cwJI_bitCount : gCw yJI_bitCount cJI_bitCount 1 (some .int) 1 := ⟨wd315, wd316, by decide +kernel⟩
theorem wd317 : Cond.static ⟨"java/lang/Integer", "bitCount", "(I)I"⟩ ∈ TB := TBm (tk2 (List.mem_of_getElem? (i := 209) (by decide +kernel))) rfl
theorem csJI_bitCount : gCs yJI_bitCount := wd317
theorem wd318 : Cond.code ⟨"CopiedFire$Seating", "leastRoom", "(IIII)I"⟩ prog_6_method_4_code 7 (Option.some Jvm.ClassFile.FieldType.int) ∈ TB := TBm (tk2 (List.mem_of_getElem? (i := 218) (by decide +kernel))) rfl
theorem cwX4_leastRoom : gCw yX4_leastRoom cX4_leastRoom 7 (some .int) 4 := ⟨wd318, wd197, by decide +kernel⟩
theorem wd319 : Cond.instanceMethod ⟨"CopiedFire$Seating", "leastRoom", "(IIII)I"⟩ ∈ TB := TBm (tk2 (List.mem_of_getElem? (i := 217) (by decide +kernel))) rfl
theorem wd320 : Cond.selects "CopiedFire$Seating" ⟨"CopiedFire$Seating", "leastRoom", "(IIII)I"⟩ ⟨"CopiedFire$Seating", "leastRoom", "(IIII)I"⟩ ∈ TB := TBm (List.mem_of_getElem? (i := 6) (by decide +kernel)) rfl
theorem ciX4_leastRoom : gCi yX4_leastRoom := ⟨wd319, wd320⟩
theorem wd321 : Cond.code ⟨"CopiedFire", "way", "(II)I"⟩ prog_1_method_17_code 5 (Option.some Jvm.ClassFile.FieldType.int) ∈ TB := TBm (tk2 (List.mem_of_getElem? (i := 223) (by decide +kernel))) rfl
theorem cwX9_way : gCw yX9_way cX9_way 5 (some .int) 2 := ⟨wd321, wd188, by decide +kernel⟩
theorem wd322 : Cond.instanceMethod ⟨"CopiedFire", "way", "(II)I"⟩ ∈ TB := TBm (tk2 (List.mem_of_getElem? (i := 221) (by decide +kernel))) rfl
theorem wd323 : Cond.selects "CopiedFire" ⟨"CopiedFire", "way", "(II)I"⟩ ⟨"CopiedFire", "way", "(II)I"⟩ ∈ TB := TBm (tk2 (List.mem_of_getElem? (i := 222) (by decide +kernel))) rfl
theorem ciX9_way : gCi yX9_way := ⟨wd322, wd323⟩
theorem wd324 : Cond.code ⟨"CopiedFire$House", "reachedNext", "(I)I"⟩ prog_2_method_7_code 5 (Option.some Jvm.ClassFile.FieldType.int) ∈ TB := TBm (tk2 (List.mem_of_getElem? (i := 227) (by decide +kernel))) rfl
theorem cwX0_reachedNext : gCw yX0_reachedNext cX0_reachedNext 5 (some .int) 1 := ⟨wd324, wd192, by decide +kernel⟩
theorem wd325 : Cond.instanceMethod ⟨"CopiedFire$House", "reachedNext", "(I)I"⟩ ∈ TB := TBm (tk2 (List.mem_of_getElem? (i := 225) (by decide +kernel))) rfl
theorem wd326 : Cond.selects "CopiedFire$House" ⟨"CopiedFire$House", "reachedNext", "(I)I"⟩ ⟨"CopiedFire$House", "reachedNext", "(I)I"⟩ ∈ TB := TBm (tk2 (List.mem_of_getElem? (i := 226) (by decide +kernel))) rfl
theorem ciX0_reachedNext : gCi yX0_reachedNext := ⟨wd325, wd326⟩
theorem wd327 : Cond.code ⟨"CopiedFire", "minutes", "(I)I"⟩ prog_1_method_18_code 5 (Option.some Jvm.ClassFile.FieldType.int) ∈ TB := TBm (tk2 (List.mem_of_getElem? (i := 233) (by decide +kernel))) rfl
theorem cwX9_minutes : gCw yX9_minutes cX9_minutes 5 (some .int) 1 := ⟨wd327, wd188, by decide +kernel⟩
theorem wd328 : Cond.instanceMethod ⟨"CopiedFire", "minutes", "(I)I"⟩ ∈ TB := TBm (tk2 (List.mem_of_getElem? (i := 231) (by decide +kernel))) rfl
theorem wd329 : Cond.selects "CopiedFire" ⟨"CopiedFire", "minutes", "(I)I"⟩ ⟨"CopiedFire", "minutes", "(I)I"⟩ ∈ TB := TBm (tk2 (List.mem_of_getElem? (i := 232) (by decide +kernel))) rfl
theorem ciX9_minutes : gCi yX9_minutes := ⟨wd328, wd329⟩
theorem wd330 : Cond.code ⟨"CopiedFire$House", "passMinute", "()V"⟩ prog_2_method_11_code 1 (Option.none : Option Jvm.ClassFile.FieldType) ∈ TB := TBm (tk2 (List.mem_of_getElem? (i := 237) (by decide +kernel))) rfl
theorem cwX0_passMinute : gCw yX0_passMinute cX0_passMinute 1 none 0 := ⟨wd330, wd192, by decide +kernel⟩
theorem wd331 : Cond.instanceMethod ⟨"CopiedFire$House", "passMinute", "()V"⟩ ∈ TB := TBm (tk2 (List.mem_of_getElem? (i := 235) (by decide +kernel))) rfl
theorem wd332 : Cond.selects "CopiedFire$House" ⟨"CopiedFire$House", "passMinute", "()V"⟩ ⟨"CopiedFire$House", "passMinute", "()V"⟩ ∈ TB := TBm (tk2 (List.mem_of_getElem? (i := 236) (by decide +kernel))) rfl
theorem ciX0_passMinute : gCi yX0_passMinute := ⟨wd331, wd332⟩
theorem wd333 : Cond.code ⟨"CopiedFire$House", "burnThings", "()V"⟩ prog_2_method_12_code 4 (Option.none : Option Jvm.ClassFile.FieldType) ∈ TB := TBm (tk3 (List.mem_of_getElem? (i := 1) (by decide +kernel))) rfl
theorem cwX0_burnThings : gCw yX0_burnThings cX0_burnThings 4 none 0 := ⟨wd333, wd192, by decide +kernel⟩
theorem wd334 : Cond.instanceMethod ⟨"CopiedFire$House", "burnThings", "()V"⟩ ∈ TB := TBm (tk3 (List.mem_of_getElem? (i := 0) (by decide +kernel))) rfl
theorem wd335 : Cond.selects "CopiedFire$House" ⟨"CopiedFire$House", "burnThings", "()V"⟩ ⟨"CopiedFire$House", "burnThings", "()V"⟩ ∈ TB := TBm (List.mem_of_getElem? (i := 7) (by decide +kernel)) rfl
theorem ciX0_burnThings : gCi yX0_burnThings := ⟨wd334, wd335⟩
theorem wd336 : Cond.code ⟨"CopiedFire$House", "spreadHeat", "()V"⟩ prog_2_method_13_code 4 (Option.none : Option Jvm.ClassFile.FieldType) ∈ TB := TBm (tk3 (List.mem_of_getElem? (i := 8) (by decide +kernel))) rfl
theorem cwX0_spreadHeat : gCw yX0_spreadHeat cX0_spreadHeat 4 none 0 := ⟨wd336, wd192, by decide +kernel⟩
theorem wd337 : Cond.instanceMethod ⟨"CopiedFire$House", "spreadHeat", "()V"⟩ ∈ TB := TBm (tk3 (List.mem_of_getElem? (i := 7) (by decide +kernel))) rfl
theorem wd338 : Cond.selects "CopiedFire$House" ⟨"CopiedFire$House", "spreadHeat", "()V"⟩ ⟨"CopiedFire$House", "spreadHeat", "()V"⟩ ∈ TB := TBm (List.mem_of_getElem? (i := 8) (by decide +kernel)) rfl
theorem ciX0_spreadHeat : gCi yX0_spreadHeat := ⟨wd337, wd338⟩
theorem wd339 : Cond.code ⟨"CopiedFire$House", "coolRooms", "()V"⟩ prog_2_method_14_code 2 (Option.none : Option Jvm.ClassFile.FieldType) ∈ TB := TBm (tk3 (List.mem_of_getElem? (i := 12) (by decide +kernel))) rfl
theorem cwX0_coolRooms : gCw yX0_coolRooms cX0_coolRooms 2 none 0 := ⟨wd339, wd192, by decide +kernel⟩
theorem wd340 : Cond.instanceMethod ⟨"CopiedFire$House", "coolRooms", "()V"⟩ ∈ TB := TBm (tk3 (List.mem_of_getElem? (i := 11) (by decide +kernel))) rfl
theorem wd341 : Cond.selects "CopiedFire$House" ⟨"CopiedFire$House", "coolRooms", "()V"⟩ ⟨"CopiedFire$House", "coolRooms", "()V"⟩ ∈ TB := TBm (List.mem_of_getElem? (i := 9) (by decide +kernel)) rfl
theorem ciX0_coolRooms : gCi yX0_coolRooms := ⟨wd340, wd341⟩
theorem wd342 : Cond.code ⟨"CopiedFire$House", "lightThings", "()V"⟩ prog_2_method_15_code 2 (Option.none : Option Jvm.ClassFile.FieldType) ∈ TB := TBm (tk3 (List.mem_of_getElem? (i := 17) (by decide +kernel))) rfl
theorem cwX0_lightThings : gCw yX0_lightThings cX0_lightThings 2 none 0 := ⟨wd342, wd192, by decide +kernel⟩
theorem wd343 : Cond.instanceMethod ⟨"CopiedFire$House", "lightThings", "()V"⟩ ∈ TB := TBm (tk3 (List.mem_of_getElem? (i := 16) (by decide +kernel))) rfl
theorem wd344 : Cond.selects "CopiedFire$House" ⟨"CopiedFire$House", "lightThings", "()V"⟩ ⟨"CopiedFire$House", "lightThings", "()V"⟩ ∈ TB := TBm (List.mem_of_getElem? (i := 10) (by decide +kernel)) rfl
theorem ciX0_lightThings : gCi yX0_lightThings := ⟨wd343, wd344⟩
theorem wd345 : Cond.code ⟨"CopiedFire$House", "blowWind", "()V"⟩ prog_2_method_16_code 4 (Option.none : Option Jvm.ClassFile.FieldType) ∈ TB := TBm (tk3 (List.mem_of_getElem? (i := 22) (by decide +kernel))) rfl
theorem cwX0_blowWind : gCw yX0_blowWind cX0_blowWind 4 none 0 := ⟨wd345, wd192, by decide +kernel⟩
theorem wd346 : Cond.instanceMethod ⟨"CopiedFire$House", "blowWind", "()V"⟩ ∈ TB := TBm (tk3 (List.mem_of_getElem? (i := 21) (by decide +kernel))) rfl
theorem wd347 : Cond.selects "CopiedFire$House" ⟨"CopiedFire$House", "blowWind", "()V"⟩ ⟨"CopiedFire$House", "blowWind", "()V"⟩ ∈ TB := TBm (List.mem_of_getElem? (i := 11) (by decide +kernel)) rfl
theorem ciX0_blowWind : gCi yX0_blowWind := ⟨wd346, wd347⟩
theorem wd348 : Cond.code ⟨"CopiedFire", "house", "(I)I"⟩ prog_1_method_19_code 2 (Option.some Jvm.ClassFile.FieldType.int) ∈ TB := TBm (tk3 (List.mem_of_getElem? (i := 27) (by decide +kernel))) rfl
theorem cwX9_house : gCw yX9_house cX9_house 2 (some .int) 1 := ⟨wd348, wd188, by decide +kernel⟩
theorem wd349 : Cond.instanceMethod ⟨"CopiedFire", "house", "(I)I"⟩ ∈ TB := TBm (tk3 (List.mem_of_getElem? (i := 25) (by decide +kernel))) rfl
theorem wd350 : Cond.selects "CopiedFire" ⟨"CopiedFire", "house", "(I)I"⟩ ⟨"CopiedFire", "house", "(I)I"⟩ ∈ TB := TBm (tk3 (List.mem_of_getElem? (i := 26) (by decide +kernel))) rfl
theorem ciX9_house : gCi yX9_house := ⟨wd349, wd350⟩
theorem wd351 : Cond.code ⟨"CopiedFire$House", "litSet", "()I"⟩ prog_2_method_8_code 3 (Option.some Jvm.ClassFile.FieldType.int) ∈ TB := TBm (tk3 (List.mem_of_getElem? (i := 31) (by decide +kernel))) rfl
theorem cwX0_litSet : gCw yX0_litSet cX0_litSet 3 (some .int) 0 := ⟨wd351, wd192, by decide +kernel⟩
theorem wd352 : Cond.instanceMethod ⟨"CopiedFire$House", "litSet", "()I"⟩ ∈ TB := TBm (tk3 (List.mem_of_getElem? (i := 29) (by decide +kernel))) rfl
theorem wd353 : Cond.selects "CopiedFire$House" ⟨"CopiedFire$House", "litSet", "()I"⟩ ⟨"CopiedFire$House", "litSet", "()I"⟩ ∈ TB := TBm (tk3 (List.mem_of_getElem? (i := 30) (by decide +kernel))) rfl
theorem ciX0_litSet : gCi yX0_litSet := ⟨wd352, wd353⟩
theorem wd354 : Cond.code ⟨"CopiedFire$House", "heatTogether", "()I"⟩ prog_2_method_9_code 3 (Option.some Jvm.ClassFile.FieldType.int) ∈ TB := TBm (tk3 (List.mem_of_getElem? (i := 35) (by decide +kernel))) rfl
theorem cwX0_heatTogether : gCw yX0_heatTogether cX0_heatTogether 3 (some .int) 0 := ⟨wd354, wd192, by decide +kernel⟩
theorem wd355 : Cond.instanceMethod ⟨"CopiedFire$House", "heatTogether", "()I"⟩ ∈ TB := TBm (tk3 (List.mem_of_getElem? (i := 33) (by decide +kernel))) rfl
theorem wd356 : Cond.selects "CopiedFire$House" ⟨"CopiedFire$House", "heatTogether", "()I"⟩ ⟨"CopiedFire$House", "heatTogether", "()I"⟩ ∈ TB := TBm (tk3 (List.mem_of_getElem? (i := 34) (by decide +kernel))) rfl
theorem ciX0_heatTogether : gCi yX0_heatTogether := ⟨wd355, wd356⟩
theorem wd357 : Cond.code ⟨"CopiedFire", "behind", "(II)I"⟩ prog_1_method_20_code 3 (Option.some Jvm.ClassFile.FieldType.int) ∈ TB := TBm (tk3 (List.mem_of_getElem? (i := 39) (by decide +kernel))) rfl
theorem cwX9_behind : gCw yX9_behind cX9_behind 3 (some .int) 2 := ⟨wd357, wd188, by decide +kernel⟩
theorem wd358 : Cond.instanceMethod ⟨"CopiedFire", "behind", "(II)I"⟩ ∈ TB := TBm (tk3 (List.mem_of_getElem? (i := 37) (by decide +kernel))) rfl
theorem wd359 : Cond.selects "CopiedFire" ⟨"CopiedFire", "behind", "(II)I"⟩ ⟨"CopiedFire", "behind", "(II)I"⟩ ∈ TB := TBm (tk3 (List.mem_of_getElem? (i := 38) (by decide +kernel))) rfl
theorem ciX9_behind : gCi yX9_behind := ⟨wd358, wd359⟩
theorem wd360 : Cond.code ⟨"CopiedFire$House", "becomeAs", "(LCopiedFire$House;)V"⟩ prog_2_method_2_code 2 (Option.none : Option Jvm.ClassFile.FieldType) ∈ TB := TBm (tk3 (List.mem_of_getElem? (i := 43) (by decide +kernel))) rfl
theorem cwX0_becomeAs : gCw yX0_becomeAs cX0_becomeAs 2 none 1 := ⟨wd360, wd192, by decide +kernel⟩
theorem wd361 : Cond.instanceMethod ⟨"CopiedFire$House", "becomeAs", "(LCopiedFire$House;)V"⟩ ∈ TB := TBm (tk3 (List.mem_of_getElem? (i := 41) (by decide +kernel))) rfl
theorem wd362 : Cond.selects "CopiedFire$House" ⟨"CopiedFire$House", "becomeAs", "(LCopiedFire$House;)V"⟩ ⟨"CopiedFire$House", "becomeAs", "(LCopiedFire$House;)V"⟩ ∈ TB := TBm (tk3 (List.mem_of_getElem? (i := 42) (by decide +kernel))) rfl
theorem ciX0_becomeAs : gCi yX0_becomeAs := ⟨wd361, wd362⟩
theorem wd363 : Cond.code ⟨"CopiedFire", "thinkOn", "(II)I"⟩ prog_1_method_59_code 4 (Option.some Jvm.ClassFile.FieldType.int) ∈ TB := TBm (tk3 (List.mem_of_getElem? (i := 51) (by decide +kernel))) rfl
theorem cwX9_thinkOn : gCw yX9_thinkOn cX9_thinkOn 4 (some .int) 2 := ⟨wd363, wd188, by decide +kernel⟩
theorem wd364 : Cond.instanceMethod ⟨"CopiedFire", "thinkOn", "(II)I"⟩ ∈ TB := TBm (tk3 (List.mem_of_getElem? (i := 50) (by decide +kernel))) rfl
theorem wd365 : Cond.selects "CopiedFire" ⟨"CopiedFire", "thinkOn", "(II)I"⟩ ⟨"CopiedFire", "thinkOn", "(II)I"⟩ ∈ TB := TBm (List.mem_of_getElem? (i := 12) (by decide +kernel)) rfl
theorem ciX9_thinkOn : gCi yX9_thinkOn := ⟨wd364, wd365⟩
theorem wd366 : Cond.code ⟨"CopiedFire", "out", "()I"⟩ prog_1_method_21_code 2 (Option.some Jvm.ClassFile.FieldType.int) ∈ TB := TBm (tk3 (List.mem_of_getElem? (i := 55) (by decide +kernel))) rfl
theorem cwX9_out : gCw yX9_out cX9_out 2 (some .int) 0 := ⟨wd366, wd188, by decide +kernel⟩
theorem wd367 : Cond.instanceMethod ⟨"CopiedFire", "out", "()I"⟩ ∈ TB := TBm (tk3 (List.mem_of_getElem? (i := 53) (by decide +kernel))) rfl
theorem wd368 : Cond.selects "CopiedFire" ⟨"CopiedFire", "out", "()I"⟩ ⟨"CopiedFire", "out", "()I"⟩ ∈ TB := TBm (tk3 (List.mem_of_getElem? (i := 54) (by decide +kernel))) rfl
theorem ciX9_out : gCi yX9_out := ⟨wd367, wd368⟩
theorem wd369 : Cond.code ⟨"CopiedFire", "hot", "(I)I"⟩ prog_1_method_22_code 3 (Option.some Jvm.ClassFile.FieldType.int) ∈ TB := TBm (tk3 (List.mem_of_getElem? (i := 59) (by decide +kernel))) rfl
theorem cwX9_hot : gCw yX9_hot cX9_hot 3 (some .int) 1 := ⟨wd369, wd188, by decide +kernel⟩
theorem wd370 : Cond.instanceMethod ⟨"CopiedFire", "hot", "(I)I"⟩ ∈ TB := TBm (tk3 (List.mem_of_getElem? (i := 57) (by decide +kernel))) rfl
theorem wd371 : Cond.selects "CopiedFire" ⟨"CopiedFire", "hot", "(I)I"⟩ ⟨"CopiedFire", "hot", "(I)I"⟩ ∈ TB := TBm (tk3 (List.mem_of_getElem? (i := 58) (by decide +kernel))) rfl
theorem ciX9_hot : gCi yX9_hot := ⟨wd370, wd371⟩
theorem wd372 : Cond.code ⟨"CopiedFire", "shut", "(II)I"⟩ prog_1_method_23_code 9 (Option.some Jvm.ClassFile.FieldType.int) ∈ TB := TBm (tk3 (List.mem_of_getElem? (i := 63) (by decide +kernel))) rfl
theorem cwX9_shut : gCw yX9_shut cX9_shut 9 (some .int) 2 := ⟨wd372, wd188, by decide +kernel⟩
theorem wd373 : Cond.instanceMethod ⟨"CopiedFire", "shut", "(II)I"⟩ ∈ TB := TBm (tk3 (List.mem_of_getElem? (i := 61) (by decide +kernel))) rfl
theorem wd374 : Cond.selects "CopiedFire" ⟨"CopiedFire", "shut", "(II)I"⟩ ⟨"CopiedFire", "shut", "(II)I"⟩ ∈ TB := TBm (tk3 (List.mem_of_getElem? (i := 62) (by decide +kernel))) rfl
theorem ciX9_shut : gCi yX9_shut := ⟨wd373, wd374⟩
theorem wd375 : Cond.code ⟨"CopiedFire", "hired", "(II)I"⟩ prog_1_method_24_code 7 (Option.some Jvm.ClassFile.FieldType.int) ∈ TB := TBm (tk3 (List.mem_of_getElem? (i := 67) (by decide +kernel))) rfl
theorem cwX9_hired : gCw yX9_hired cX9_hired 7 (some .int) 2 := ⟨wd375, wd188, by decide +kernel⟩
theorem wd376 : Cond.instanceMethod ⟨"CopiedFire", "hired", "(II)I"⟩ ∈ TB := TBm (tk3 (List.mem_of_getElem? (i := 65) (by decide +kernel))) rfl
theorem wd377 : Cond.selects "CopiedFire" ⟨"CopiedFire", "hired", "(II)I"⟩ ⟨"CopiedFire", "hired", "(II)I"⟩ ∈ TB := TBm (tk3 (List.mem_of_getElem? (i := 66) (by decide +kernel))) rfl
theorem ciX9_hired : gCi yX9_hired := ⟨wd376, wd377⟩
theorem wd378 : Cond.code ⟨"CopiedFire", "becomes", "(III)I"⟩ prog_1_method_25_code 8 (Option.some Jvm.ClassFile.FieldType.int) ∈ TB := TBm (tk3 (List.mem_of_getElem? (i := 71) (by decide +kernel))) rfl
theorem cwX9_becomes : gCw yX9_becomes cX9_becomes 8 (some .int) 3 := ⟨wd378, wd188, by decide +kernel⟩
theorem wd379 : Cond.instanceMethod ⟨"CopiedFire", "becomes", "(III)I"⟩ ∈ TB := TBm (tk3 (List.mem_of_getElem? (i := 69) (by decide +kernel))) rfl
theorem wd380 : Cond.selects "CopiedFire" ⟨"CopiedFire", "becomes", "(III)I"⟩ ⟨"CopiedFire", "becomes", "(III)I"⟩ ∈ TB := TBm (tk3 (List.mem_of_getElem? (i := 70) (by decide +kernel))) rfl
theorem ciX9_becomes : gCi yX9_becomes := ⟨wd379, wd380⟩
theorem wd381 : Cond.code ⟨"CopiedFire", "began", "(I)I"⟩ prog_1_method_26_code 4 (Option.some Jvm.ClassFile.FieldType.int) ∈ TB := TBm (tk3 (List.mem_of_getElem? (i := 75) (by decide +kernel))) rfl
theorem cwX9_began : gCw yX9_began cX9_began 4 (some .int) 1 := ⟨wd381, wd188, by decide +kernel⟩
theorem wd382 : Cond.instanceMethod ⟨"CopiedFire", "began", "(I)I"⟩ ∈ TB := TBm (tk3 (List.mem_of_getElem? (i := 73) (by decide +kernel))) rfl
theorem wd383 : Cond.selects "CopiedFire" ⟨"CopiedFire", "began", "(I)I"⟩ ⟨"CopiedFire", "began", "(I)I"⟩ ∈ TB := TBm (tk3 (List.mem_of_getElem? (i := 74) (by decide +kernel))) rfl
theorem ciX9_began : gCi yX9_began := ⟨wd382, wd383⟩
theorem wd384 : Cond.code ⟨"CopiedFire", "isSheet", "(I)Z"⟩ prog_1_method_56_code 1 (Option.some Jvm.ClassFile.FieldType.boolean) ∈ TB := TBm (tk3 (List.mem_of_getElem? (i := 78) (by decide +kernel))) rfl
theorem cwX9_isSheet : gCw yX9_isSheet cX9_isSheet 1 (some .boolean) 1 := ⟨wd384, wd188, by decide +kernel⟩
theorem wd385 : Cond.static ⟨"CopiedFire", "isSheet", "(I)Z"⟩ ∈ TB := TBm (tk3 (List.mem_of_getElem? (i := 77) (by decide +kernel))) rfl
theorem csX9_isSheet : gCs yX9_isSheet := wd385
theorem wd386 : Cond.code ⟨"CopiedFire$Sheet", "isMissing", "()Z"⟩ prog_7_method_4_code 1 (Option.some Jvm.ClassFile.FieldType.boolean) ∈ TB := TBm (tk3 (List.mem_of_getElem? (i := 82) (by decide +kernel))) rfl
theorem cwX5_isMissing : gCw yX5_isMissing cX5_isMissing 1 (some .boolean) 0 := ⟨wd386, wd203, by decide +kernel⟩
theorem wd387 : Cond.instanceMethod ⟨"CopiedFire$Sheet", "isMissing", "()Z"⟩ ∈ TB := TBm (tk3 (List.mem_of_getElem? (i := 80) (by decide +kernel))) rfl
theorem wd388 : Cond.selects "CopiedFire$Sheet" ⟨"CopiedFire$Sheet", "isMissing", "()Z"⟩ ⟨"CopiedFire$Sheet", "isMissing", "()Z"⟩ ∈ TB := TBm (tk3 (List.mem_of_getElem? (i := 81) (by decide +kernel))) rfl
theorem ciX5_isMissing : gCi yX5_isMissing := ⟨wd387, wd388⟩
theorem wd389 : Cond.code ⟨"CopiedFire", "canHaveBegunBy", "(ILCopiedFire$Sheet;)Z"⟩ prog_1_method_60_code 4 (Option.some Jvm.ClassFile.FieldType.boolean) ∈ TB := TBm (tk3 (List.mem_of_getElem? (i := 87) (by decide +kernel))) rfl
theorem cwX9_canHaveBegunBy : gCw yX9_canHaveBegunBy cX9_canHaveBegunBy 4 (some .boolean) 2 := ⟨wd389, wd188, by decide +kernel⟩
theorem wd390 : Cond.instanceMethod ⟨"CopiedFire", "canHaveBegunBy", "(ILCopiedFire$Sheet;)Z"⟩ ∈ TB := TBm (tk3 (List.mem_of_getElem? (i := 86) (by decide +kernel))) rfl
theorem wd391 : Cond.selects "CopiedFire" ⟨"CopiedFire", "canHaveBegunBy", "(ILCopiedFire$Sheet;)Z"⟩ ⟨"CopiedFire", "canHaveBegunBy", "(ILCopiedFire$Sheet;)Z"⟩ ∈ TB := TBm (List.mem_of_getElem? (i := 13) (by decide +kernel)) rfl
theorem ciX9_canHaveBegunBy : gCi yX9_canHaveBegunBy := ⟨wd390, wd391⟩
theorem wd392 : Cond.code ⟨"CopiedFire$Sheet", "hasNumber", "(I)Z"⟩ prog_7_method_6_code 2 (Option.some Jvm.ClassFile.FieldType.boolean) ∈ TB := TBm (tk3 (List.mem_of_getElem? (i := 92) (by decide +kernel))) rfl
theorem cwX5_hasNumber : gCw yX5_hasNumber cX5_hasNumber 2 (some .boolean) 1 := ⟨wd392, wd203, by decide +kernel⟩
theorem wd393 : Cond.instanceMethod ⟨"CopiedFire$Sheet", "hasNumber", "(I)Z"⟩ ∈ TB := TBm (tk3 (List.mem_of_getElem? (i := 90) (by decide +kernel))) rfl
theorem wd394 : Cond.selects "CopiedFire$Sheet" ⟨"CopiedFire$Sheet", "hasNumber", "(I)Z"⟩ ⟨"CopiedFire$Sheet", "hasNumber", "(I)Z"⟩ ∈ TB := TBm (tk3 (List.mem_of_getElem? (i := 91) (by decide +kernel))) rfl
theorem ciX5_hasNumber : gCi yX5_hasNumber := ⟨wd393, wd394⟩
theorem wd395 : Cond.code ⟨"CopiedFire$Sheet", "hasPlace", "(I)Z"⟩ prog_7_method_5_code 2 (Option.some Jvm.ClassFile.FieldType.boolean) ∈ TB := TBm (tk3 (List.mem_of_getElem? (i := 96) (by decide +kernel))) rfl
theorem cwX5_hasPlace : gCw yX5_hasPlace cX5_hasPlace 2 (some .boolean) 1 := ⟨wd395, wd203, by decide +kernel⟩
theorem wd396 : Cond.instanceMethod ⟨"CopiedFire$Sheet", "hasPlace", "(I)Z"⟩ ∈ TB := TBm (tk3 (List.mem_of_getElem? (i := 94) (by decide +kernel))) rfl
theorem wd397 : Cond.selects "CopiedFire$Sheet" ⟨"CopiedFire$Sheet", "hasPlace", "(I)Z"⟩ ⟨"CopiedFire$Sheet", "hasPlace", "(I)Z"⟩ ∈ TB := TBm (tk3 (List.mem_of_getElem? (i := 95) (by decide +kernel))) rfl
theorem ciX5_hasPlace : gCi yX5_hasPlace := ⟨wd396, wd397⟩
theorem wd398 : Cond.code ⟨"CopiedFire", "like", "(II)I"⟩ prog_1_method_27_code 5 (Option.some Jvm.ClassFile.FieldType.int) ∈ TB := TBm (tk3 (List.mem_of_getElem? (i := 103) (by decide +kernel))) rfl
theorem cwX9_like : gCw yX9_like cX9_like 5 (some .int) 2 := ⟨wd398, wd188, by decide +kernel⟩
theorem wd399 : Cond.instanceMethod ⟨"CopiedFire", "like", "(II)I"⟩ ∈ TB := TBm (tk3 (List.mem_of_getElem? (i := 101) (by decide +kernel))) rfl
theorem wd400 : Cond.selects "CopiedFire" ⟨"CopiedFire", "like", "(II)I"⟩ ⟨"CopiedFire", "like", "(II)I"⟩ ∈ TB := TBm (tk3 (List.mem_of_getElem? (i := 102) (by decide +kernel))) rfl
theorem ciX9_like : gCi yX9_like := ⟨wd399, wd400⟩
theorem wd401 : Cond.code ⟨"CopiedFire", "sumDifferences", "(LCopiedFire$Sheet;)V"⟩ prog_1_method_61_code 4 (Option.none : Option Jvm.ClassFile.FieldType) ∈ TB := TBm (tk3 (List.mem_of_getElem? (i := 107) (by decide +kernel))) rfl
theorem cwX9_sumDifferences : gCw yX9_sumDifferences cX9_sumDifferences 4 none 1 := ⟨wd401, wd188, by decide +kernel⟩
theorem wd402 : Cond.instanceMethod ⟨"CopiedFire", "sumDifferences", "(LCopiedFire$Sheet;)V"⟩ ∈ TB := TBm (tk3 (List.mem_of_getElem? (i := 106) (by decide +kernel))) rfl
theorem wd403 : Cond.selects "CopiedFire" ⟨"CopiedFire", "sumDifferences", "(LCopiedFire$Sheet;)V"⟩ ⟨"CopiedFire", "sumDifferences", "(LCopiedFire$Sheet;)V"⟩ ∈ TB := TBm (List.mem_of_getElem? (i := 14) (by decide +kernel)) rfl
theorem ciX9_sumDifferences : gCi yX9_sumDifferences := ⟨wd402, wd403⟩
theorem wd404 : Cond.code ⟨"CopiedFire", "fee", "()I"⟩ prog_1_method_28_code 2 (Option.some Jvm.ClassFile.FieldType.int) ∈ TB := TBm (tk3 (List.mem_of_getElem? (i := 114) (by decide +kernel))) rfl
theorem cwX9_fee : gCw yX9_fee cX9_fee 2 (some .int) 0 := ⟨wd404, wd188, by decide +kernel⟩
theorem wd405 : Cond.instanceMethod ⟨"CopiedFire", "fee", "()I"⟩ ∈ TB := TBm (tk3 (List.mem_of_getElem? (i := 112) (by decide +kernel))) rfl
theorem wd406 : Cond.selects "CopiedFire" ⟨"CopiedFire", "fee", "()I"⟩ ⟨"CopiedFire", "fee", "()I"⟩ ∈ TB := TBm (tk3 (List.mem_of_getElem? (i := 113) (by decide +kernel))) rfl
theorem ciX9_fee : gCi yX9_fee := ⟨wd405, wd406⟩
theorem wd407 : Cond.code ⟨"CopiedFire", "fine", "(I)I"⟩ prog_1_method_29_code 3 (Option.some Jvm.ClassFile.FieldType.int) ∈ TB := TBm (tk3 (List.mem_of_getElem? (i := 119) (by decide +kernel))) rfl
theorem cwX9_fine : gCw yX9_fine cX9_fine 3 (some .int) 1 := ⟨wd407, wd188, by decide +kernel⟩
theorem wd408 : Cond.instanceMethod ⟨"CopiedFire", "fine", "(I)I"⟩ ∈ TB := TBm (tk3 (List.mem_of_getElem? (i := 117) (by decide +kernel))) rfl
theorem wd409 : Cond.selects "CopiedFire" ⟨"CopiedFire", "fine", "(I)I"⟩ ⟨"CopiedFire", "fine", "(I)I"⟩ ∈ TB := TBm (tk3 (List.mem_of_getElem? (i := 118) (by decide +kernel))) rfl
theorem ciX9_fine : gCi yX9_fine := ⟨wd408, wd409⟩
theorem wd410 : Cond.code ⟨"CopiedFire", "feed", "(III)I"⟩ prog_1_method_30_code 4 (Option.some Jvm.ClassFile.FieldType.int) ∈ TB := TBm (tk3 (List.mem_of_getElem? (i := 123) (by decide +kernel))) rfl
theorem cwX9_feed : gCw yX9_feed cX9_feed 4 (some .int) 3 := ⟨wd410, wd188, by decide +kernel⟩
theorem wd411 : Cond.instanceMethod ⟨"CopiedFire", "feed", "(III)I"⟩ ∈ TB := TBm (tk3 (List.mem_of_getElem? (i := 121) (by decide +kernel))) rfl
theorem wd412 : Cond.selects "CopiedFire" ⟨"CopiedFire", "feed", "(III)I"⟩ ⟨"CopiedFire", "feed", "(III)I"⟩ ∈ TB := TBm (tk3 (List.mem_of_getElem? (i := 122) (by decide +kernel))) rfl
theorem ciX9_feed : gCi yX9_feed := ⟨wd411, wd412⟩
theorem wd413 : Cond.code ⟨"CopiedFire$Tape", "addFour", "(I)V"⟩ prog_9_method_2_code 3 (Option.none : Option Jvm.ClassFile.FieldType) ∈ TB := TBm (tk3 (List.mem_of_getElem? (i := 127) (by decide +kernel))) rfl
theorem cwX7_addFour : gCw yX7_addFour cX7_addFour 3 none 1 := ⟨wd413, wd199, by decide +kernel⟩
theorem wd414 : Cond.instanceMethod ⟨"CopiedFire$Tape", "addFour", "(I)V"⟩ ∈ TB := TBm (tk3 (List.mem_of_getElem? (i := 125) (by decide +kernel))) rfl
theorem wd415 : Cond.selects "CopiedFire$Tape" ⟨"CopiedFire$Tape", "addFour", "(I)V"⟩ ⟨"CopiedFire$Tape", "addFour", "(I)V"⟩ ∈ TB := TBm (tk3 (List.mem_of_getElem? (i := 126) (by decide +kernel))) rfl
theorem ciX7_addFour : gCi yX7_addFour := ⟨wd414, wd415⟩
theorem wd416 : Cond.code ⟨"CopiedFire", "trim", "(I)I"⟩ prog_1_method_31_code 2 (Option.some Jvm.ClassFile.FieldType.int) ∈ TB := TBm (tk3 (List.mem_of_getElem? (i := 131) (by decide +kernel))) rfl
theorem cwX9_trim : gCw yX9_trim cX9_trim 2 (some .int) 1 := ⟨wd416, wd188, by decide +kernel⟩
theorem wd417 : Cond.instanceMethod ⟨"CopiedFire", "trim", "(I)I"⟩ ∈ TB := TBm (tk3 (List.mem_of_getElem? (i := 129) (by decide +kernel))) rfl
theorem wd418 : Cond.selects "CopiedFire" ⟨"CopiedFire", "trim", "(I)I"⟩ ⟨"CopiedFire", "trim", "(I)I"⟩ ∈ TB := TBm (tk3 (List.mem_of_getElem? (i := 130) (by decide +kernel))) rfl
theorem ciX9_trim : gCi yX9_trim := ⟨wd417, wd418⟩
theorem wd419 : Cond.code ⟨"CopiedFire", "text", "()I"⟩ prog_1_method_32_code 1 (Option.some Jvm.ClassFile.FieldType.int) ∈ TB := TBm (tk3 (List.mem_of_getElem? (i := 135) (by decide +kernel))) rfl
theorem cwX9_text : gCw yX9_text cX9_text 1 (some .int) 0 := ⟨wd419, wd188, by decide +kernel⟩
theorem wd420 : Cond.instanceMethod ⟨"CopiedFire", "text", "()I"⟩ ∈ TB := TBm (tk3 (List.mem_of_getElem? (i := 133) (by decide +kernel))) rfl
theorem wd421 : Cond.selects "CopiedFire" ⟨"CopiedFire", "text", "()I"⟩ ⟨"CopiedFire", "text", "()I"⟩ ∈ TB := TBm (tk3 (List.mem_of_getElem? (i := 134) (by decide +kernel))) rfl
theorem ciX9_text : gCi yX9_text := ⟨wd420, wd421⟩
theorem wd422 : Cond.code ⟨"CopiedFire$Reader", "readText", "()V"⟩ prog_5_method_2_code 1 (Option.none : Option Jvm.ClassFile.FieldType) ∈ TB := TBm (tk3 (List.mem_of_getElem? (i := 139) (by decide +kernel))) rfl
theorem cwX3_readText : gCw yX3_readText cX3_readText 1 none 0 := ⟨wd422, wd201, by decide +kernel⟩
theorem wd423 : Cond.instanceMethod ⟨"CopiedFire$Reader", "readText", "()V"⟩ ∈ TB := TBm (tk3 (List.mem_of_getElem? (i := 137) (by decide +kernel))) rfl
theorem wd424 : Cond.selects "CopiedFire$Reader" ⟨"CopiedFire$Reader", "readText", "()V"⟩ ⟨"CopiedFire$Reader", "readText", "()V"⟩ ∈ TB := TBm (tk3 (List.mem_of_getElem? (i := 138) (by decide +kernel))) rfl
theorem ciX3_readText : gCi yX3_readText := ⟨wd423, wd424⟩
theorem wd425 : Cond.code ⟨"CopiedFire$Reader", "goOn", "()V"⟩ prog_5_method_5_code 5 (Option.none : Option Jvm.ClassFile.FieldType) ∈ TB := TBm (tk3 (List.mem_of_getElem? (i := 143) (by decide +kernel))) rfl
theorem cwX3_goOn : gCw yX3_goOn cX3_goOn 5 none 0 := ⟨wd425, wd201, by decide +kernel⟩
theorem wd426 : Cond.instanceMethod ⟨"CopiedFire$Reader", "goOn", "()V"⟩ ∈ TB := TBm (tk3 (List.mem_of_getElem? (i := 142) (by decide +kernel))) rfl
theorem wd427 : Cond.selects "CopiedFire$Reader" ⟨"CopiedFire$Reader", "goOn", "()V"⟩ ⟨"CopiedFire$Reader", "goOn", "()V"⟩ ∈ TB := TBm (List.mem_of_getElem? (i := 15) (by decide +kernel)) rfl
theorem ciX3_goOn : gCi yX3_goOn := ⟨wd426, wd427⟩
theorem wd428 : Cond.code ⟨"CopiedFire$Reader", "endOfRow", "(III)I"⟩ prog_5_method_6_code 5 (Option.some Jvm.ClassFile.FieldType.int) ∈ TB := TBm (tk3 (List.mem_of_getElem? (i := 147) (by decide +kernel))) rfl
theorem cwX3_endOfRow : gCw yX3_endOfRow cX3_endOfRow 5 (some .int) 3 := ⟨wd428, wd201, by decide +kernel⟩
theorem wd429 : Cond.instanceMethod ⟨"CopiedFire$Reader", "endOfRow", "(III)I"⟩ ∈ TB := TBm (tk3 (List.mem_of_getElem? (i := 146) (by decide +kernel))) rfl
theorem wd430 : Cond.selects "CopiedFire$Reader" ⟨"CopiedFire$Reader", "endOfRow", "(III)I"⟩ ⟨"CopiedFire$Reader", "endOfRow", "(III)I"⟩ ∈ TB := TBm (List.mem_of_getElem? (i := 16) (by decide +kernel)) rfl
theorem ciX3_endOfRow : gCi yX3_endOfRow := ⟨wd429, wd430⟩
theorem wd431 : Cond.code ⟨"CopiedFire$Reader", "keyRead", "()I"⟩ prog_5_method_7_code 1 (Option.some Jvm.ClassFile.FieldType.int) ∈ TB := TBm (tk3 (List.mem_of_getElem? (i := 152) (by decide +kernel))) rfl
theorem cwX3_keyRead : gCw yX3_keyRead cX3_keyRead 1 (some .int) 0 := ⟨wd431, wd201, by decide +kernel⟩
theorem wd432 : Cond.instanceMethod ⟨"CopiedFire$Reader", "keyRead", "()I"⟩ ∈ TB := TBm (tk3 (List.mem_of_getElem? (i := 151) (by decide +kernel))) rfl
theorem wd433 : Cond.selects "CopiedFire$Reader" ⟨"CopiedFire$Reader", "keyRead", "()I"⟩ ⟨"CopiedFire$Reader", "keyRead", "()I"⟩ ∈ TB := TBm (List.mem_of_getElem? (i := 17) (by decide +kernel)) rfl
theorem ciX3_keyRead : gCi yX3_keyRead := ⟨wd432, wd433⟩
theorem wd434 : Cond.code ⟨"CopiedFire$Reader", "isWord", "(Ljava/lang/String;)Z"⟩ prog_5_method_8_code 3 (Option.some Jvm.ClassFile.FieldType.boolean) ∈ TB := TBm (tk3 (List.mem_of_getElem? (i := 157) (by decide +kernel))) rfl
theorem cwX3_isWord : gCw yX3_isWord cX3_isWord 3 (some .boolean) 1 := ⟨wd434, wd201, by decide +kernel⟩
theorem wd435 : Cond.instanceMethod ⟨"CopiedFire$Reader", "isWord", "(Ljava/lang/String;)Z"⟩ ∈ TB := TBm (tk3 (List.mem_of_getElem? (i := 156) (by decide +kernel))) rfl
theorem wd436 : Cond.selects "CopiedFire$Reader" ⟨"CopiedFire$Reader", "isWord", "(Ljava/lang/String;)Z"⟩ ⟨"CopiedFire$Reader", "isWord", "(Ljava/lang/String;)Z"⟩ ∈ TB := TBm (List.mem_of_getElem? (i := 18) (by decide +kernel)) rfl
theorem ciX3_isWord : gCi yX3_isWord := ⟨wd435, wd436⟩
abbrev cJS_length : ByteArray := prog_17_method_54_code
def yJS_length : MethodName := ⟨RJS, "length", "()I"⟩
theorem wd437 : Cond.code ⟨"java/lang/String", "length", "()I"⟩ prog_17_method_54_code 1 (Option.some Jvm.ClassFile.FieldType.int) ∈ TB := TBm (tk3 (List.mem_of_getElem? (i := 161) (by decide +kernel))) rfl
theorem wd438 : Cond.initialized "java/lang/String" ∈ TB := TBm (tk1 (List.mem_of_getElem? (i := 15) (by decide +kernel))) rfl
theorem cwJS_length : gCw yJS_length cJS_length 1 (some .int) 0 := ⟨wd437, wd438, by decide +kernel⟩
theorem wd439 : Cond.instanceMethod ⟨"java/lang/String", "length", "()I"⟩ ∈ TB := TBm (tk3 (List.mem_of_getElem? (i := 159) (by decide +kernel))) rfl
theorem wd440 : Cond.selects "java/lang/String" ⟨"java/lang/String", "length", "()I"⟩ ⟨"java/lang/String", "length", "()I"⟩ ∈ TB := TBm (tk3 (List.mem_of_getElem? (i := 160) (by decide +kernel))) rfl
theorem ciJS_length : gCi yJS_length := ⟨wd439, wd440⟩
abbrev cJS_coder : ByteArray := prog_17_method_152_code
def yJS_coder : MethodName := ⟨RJS, "coder", "()B"⟩
theorem wd441 : Cond.code ⟨"java/lang/String", "coder", "()B"⟩ prog_17_method_152_code 1 (Option.some Jvm.ClassFile.FieldType.byte) ∈ TB := TBm (tk3 (List.mem_of_getElem? (i := 165) (by decide +kernel))) rfl
theorem cwJS_coder : gCw yJS_coder cJS_coder 1 (some .byte) 0 := ⟨wd441, wd438, by decide +kernel⟩
theorem wd442 : Cond.instanceMethod ⟨"java/lang/String", "coder", "()B"⟩ ∈ TB := TBm (tk3 (List.mem_of_getElem? (i := 163) (by decide +kernel))) rfl
theorem wd443 : Cond.selects "java/lang/String" ⟨"java/lang/String", "coder", "()B"⟩ ⟨"java/lang/String", "coder", "()B"⟩ ∈ TB := TBm (tk3 (List.mem_of_getElem? (i := 164) (by decide +kernel))) rfl
theorem ciJS_coder : gCi yJS_coder := ⟨wd442, wd443⟩
abbrev cJS_charAt : ByteArray := prog_17_method_56_code
def yJS_charAt : MethodName := ⟨RJS, "charAt", "(I)C"⟩
theorem wd444 : Cond.code ⟨"java/lang/String", "charAt", "(I)C"⟩ prog_17_method_56_code 2 (Option.some Jvm.ClassFile.FieldType.char) ∈ TB := TBm (tk3 (List.mem_of_getElem? (i := 171) (by decide +kernel))) rfl
theorem cwJS_charAt : gCw yJS_charAt cJS_charAt 2 (some .char) 1 := ⟨wd444, wd438, by decide +kernel⟩
theorem wd445 : Cond.instanceMethod ⟨"java/lang/String", "charAt", "(I)C"⟩ ∈ TB := TBm (tk3 (List.mem_of_getElem? (i := 169) (by decide +kernel))) rfl
theorem wd446 : Cond.selects "java/lang/String" ⟨"java/lang/String", "charAt", "(I)C"⟩ ⟨"java/lang/String", "charAt", "(I)C"⟩ ∈ TB := TBm (tk3 (List.mem_of_getElem? (i := 170) (by decide +kernel))) rfl
theorem ciJS_charAt : gCi yJS_charAt := ⟨wd445, wd446⟩
abbrev cJS_isLatin1 : ByteArray := prog_17_method_154_code
def yJS_isLatin1 : MethodName := ⟨RJS, "isLatin1", "()Z"⟩
theorem wd447 : Cond.code ⟨"java/lang/String", "isLatin1", "()Z"⟩ prog_17_method_154_code 1 (Option.some Jvm.ClassFile.FieldType.boolean) ∈ TB := TBm (tk3 (List.mem_of_getElem? (i := 175) (by decide +kernel))) rfl
theorem cwJS_isLatin1 : gCw yJS_isLatin1 cJS_isLatin1 1 (some .boolean) 0 := ⟨wd447, wd438, by decide +kernel⟩
theorem wd448 : Cond.instanceMethod ⟨"java/lang/String", "isLatin1", "()Z"⟩ ∈ TB := TBm (tk3 (List.mem_of_getElem? (i := 173) (by decide +kernel))) rfl
theorem wd449 : Cond.selects "java/lang/String" ⟨"java/lang/String", "isLatin1", "()Z"⟩ ⟨"java/lang/String", "isLatin1", "()Z"⟩ ∈ TB := TBm (tk3 (List.mem_of_getElem? (i := 174) (by decide +kernel))) rfl
theorem ciJS_isLatin1 : gCi yJS_isLatin1 := ⟨wd448, wd449⟩
abbrev cJL_charAt : ByteArray := prog_18_method_2_code
def yJL_charAt : MethodName := ⟨RJL, "charAt", "([BI)C"⟩
theorem wd450 : Cond.code ⟨"java/lang/StringLatin1", "charAt", "([BI)C"⟩ prog_18_method_2_code 2 (Option.some Jvm.ClassFile.FieldType.char) ∈ TB := TBm (tk3 (List.mem_of_getElem? (i := 178) (by decide +kernel))) rfl
theorem wd451 : Cond.initialized "java/lang/StringLatin1" ∈ TB := TBm (tk1 (List.mem_of_getElem? (i := 16) (by decide +kernel))) rfl
theorem cwJL_charAt : gCw yJL_charAt cJL_charAt 2 (some .char) 2 := ⟨wd450, wd451, by decide +kernel⟩
theorem wd452 : Cond.static ⟨"java/lang/StringLatin1", "charAt", "([BI)C"⟩ ∈ TB := TBm (tk3 (List.mem_of_getElem? (i := 177) (by decide +kernel))) rfl
theorem csJL_charAt : gCs yJL_charAt := wd452
abbrev cJS_checkIndex : ByteArray := prog_17_method_155_code
def yJS_checkIndex : MethodName := ⟨RJS, "checkIndex", "(II)V"⟩
theorem wd453 : Cond.code ⟨"java/lang/String", "checkIndex", "(II)V"⟩ prog_17_method_155_code 2 (Option.none : Option Jvm.ClassFile.FieldType) ∈ TB := TBm (tk3 (List.mem_of_getElem? (i := 181) (by decide +kernel))) rfl
theorem cwJS_checkIndex : gCw yJS_checkIndex cJS_checkIndex 2 none 2 := ⟨wd453, wd438, by decide +kernel⟩
theorem wd454 : Cond.static ⟨"java/lang/String", "checkIndex", "(II)V"⟩ ∈ TB := TBm (tk3 (List.mem_of_getElem? (i := 180) (by decide +kernel))) rfl
theorem csJS_checkIndex : gCs yJS_checkIndex := wd454
abbrev cJP_checkIndex : ByteArray := prog_22_method_11_code
def yJP_checkIndex : MethodName := ⟨RJP, "checkIndex", "(IILjava/util/function/BiFunction;)I"⟩
theorem wd455 : Cond.code ⟨"jdk/internal/util/Preconditions", "checkIndex", "(IILjava/util/function/BiFunction;)I"⟩ prog_22_method_11_code 3 (Option.some Jvm.ClassFile.FieldType.int) ∈ TB := TBm (tk3 (List.mem_of_getElem? (i := 186) (by decide +kernel))) rfl
theorem wd456 : Cond.initialized "jdk/internal/util/Preconditions" ∈ TB := TBm (tk1 (List.mem_of_getElem? (i := 17) (by decide +kernel))) rfl
theorem cwJP_checkIndex : gCw yJP_checkIndex cJP_checkIndex 3 (some .int) 3 := ⟨wd455, wd456, by decide +kernel⟩
theorem wd457 : Cond.static ⟨"jdk/internal/util/Preconditions", "checkIndex", "(IILjava/util/function/BiFunction;)I"⟩ ∈ TB := TBm (tk3 (List.mem_of_getElem? (i := 185) (by decide +kernel))) rfl
theorem csJP_checkIndex : gCs yJP_checkIndex := wd457
theorem wd458 : Cond.code ⟨"CopiedFire$Reader", "stop", "()V"⟩ prog_5_method_4_code 1 (Option.none : Option Jvm.ClassFile.FieldType) ∈ TB := TBm (tk3 (List.mem_of_getElem? (i := 211) (by decide +kernel))) rfl
theorem cwX3_stop : gCw yX3_stop cX3_stop 1 none 0 := ⟨wd458, wd201, by decide +kernel⟩
theorem wd459 : Cond.instanceMethod ⟨"CopiedFire$Reader", "stop", "()V"⟩ ∈ TB := TBm (tk3 (List.mem_of_getElem? (i := 210) (by decide +kernel))) rfl
theorem wd460 : Cond.selects "CopiedFire$Reader" ⟨"CopiedFire$Reader", "stop", "()V"⟩ ⟨"CopiedFire$Reader", "stop", "()V"⟩ ∈ TB := TBm (List.mem_of_getElem? (i := 19) (by decide +kernel)) rfl
theorem ciX3_stop : gCi yX3_stop := ⟨wd459, wd460⟩
theorem wd461 : Cond.code ⟨"CopiedFire$Reader", "readLevel", "(III)V"⟩ prog_5_method_11_code 7 (Option.none : Option Jvm.ClassFile.FieldType) ∈ TB := TBm (tk3 (List.mem_of_getElem? (i := 215) (by decide +kernel))) rfl
theorem cwX3_readLevel : gCw yX3_readLevel cX3_readLevel 7 none 3 := ⟨wd461, wd201, by decide +kernel⟩
theorem wd462 : Cond.instanceMethod ⟨"CopiedFire$Reader", "readLevel", "(III)V"⟩ ∈ TB := TBm (tk3 (List.mem_of_getElem? (i := 214) (by decide +kernel))) rfl
theorem wd463 : Cond.selects "CopiedFire$Reader" ⟨"CopiedFire$Reader", "readLevel", "(III)V"⟩ ⟨"CopiedFire$Reader", "readLevel", "(III)V"⟩ ∈ TB := TBm (List.mem_of_getElem? (i := 20) (by decide +kernel)) rfl
theorem ciX3_readLevel : gCi yX3_readLevel := ⟨wd462, wd463⟩
theorem wd464 : Cond.code ⟨"CopiedFire$Reader", "readPiece", "(II)V"⟩ prog_5_method_13_code 4 (Option.none : Option Jvm.ClassFile.FieldType) ∈ TB := TBm (tk3 (List.mem_of_getElem? (i := 219) (by decide +kernel))) rfl
theorem cwX3_readPiece : gCw yX3_readPiece cX3_readPiece 4 none 2 := ⟨wd464, wd201, by decide +kernel⟩
theorem wd465 : Cond.instanceMethod ⟨"CopiedFire$Reader", "readPiece", "(II)V"⟩ ∈ TB := TBm (tk3 (List.mem_of_getElem? (i := 218) (by decide +kernel))) rfl
theorem wd466 : Cond.selects "CopiedFire$Reader" ⟨"CopiedFire$Reader", "readPiece", "(II)V"⟩ ⟨"CopiedFire$Reader", "readPiece", "(II)V"⟩ ∈ TB := TBm (List.mem_of_getElem? (i := 21) (by decide +kernel)) rfl
theorem ciX3_readPiece : gCi yX3_readPiece := ⟨wd465, wd466⟩
theorem wd467 : Cond.code ⟨"CopiedFire$Reader", "nameRead", "()I"⟩ prog_5_method_9_code 2 (Option.some Jvm.ClassFile.FieldType.int) ∈ TB := TBm (tk3 (List.mem_of_getElem? (i := 223) (by decide +kernel))) rfl
theorem cwX3_nameRead : gCw yX3_nameRead cX3_nameRead 2 (some .int) 0 := ⟨wd467, wd201, by decide +kernel⟩
theorem wd468 : Cond.instanceMethod ⟨"CopiedFire$Reader", "nameRead", "()I"⟩ ∈ TB := TBm (tk3 (List.mem_of_getElem? (i := 222) (by decide +kernel))) rfl
theorem wd469 : Cond.selects "CopiedFire$Reader" ⟨"CopiedFire$Reader", "nameRead", "()I"⟩ ⟨"CopiedFire$Reader", "nameRead", "()I"⟩ ∈ TB := TBm (List.mem_of_getElem? (i := 22) (by decide +kernel)) rfl
theorem ciX3_nameRead : gCi yX3_nameRead := ⟨wd468, wd469⟩
abbrev cJS_indexOf : ByteArray := prog_17_method_79_code
def yJS_indexOf : MethodName := ⟨RJS, "indexOf", "(I)I"⟩
theorem wd470 : Cond.code ⟨"java/lang/String", "indexOf", "(I)I"⟩ prog_17_method_79_code 2 (Option.some Jvm.ClassFile.FieldType.int) ∈ TB := TBm (tk3 (List.mem_of_getElem? (i := 230) (by decide +kernel))) rfl
theorem cwJS_indexOf : gCw yJS_indexOf cJS_indexOf 2 (some .int) 1 := ⟨wd470, wd438, by decide +kernel⟩
theorem wd471 : Cond.instanceMethod ⟨"java/lang/String", "indexOf", "(I)I"⟩ ∈ TB := TBm (tk3 (List.mem_of_getElem? (i := 228) (by decide +kernel))) rfl
theorem wd472 : Cond.selects "java/lang/String" ⟨"java/lang/String", "indexOf", "(I)I"⟩ ⟨"java/lang/String", "indexOf", "(I)I"⟩ ∈ TB := TBm (tk3 (List.mem_of_getElem? (i := 229) (by decide +kernel))) rfl
theorem ciJS_indexOf : gCi yJS_indexOf := ⟨wd471, wd472⟩
abbrev cJS_indexOf2 : ByteArray := prog_17_method_80_code
def yJS_indexOf2 : MethodName := ⟨RJS, "indexOf", "(II)I"⟩
theorem wd473 : Cond.code ⟨"java/lang/String", "indexOf", "(II)I"⟩ prog_17_method_80_code 3 (Option.some Jvm.ClassFile.FieldType.int) ∈ TB := TBm (tk3 (List.mem_of_getElem? (i := 234) (by decide +kernel))) rfl
theorem cwJS_indexOf2 : gCw yJS_indexOf2 cJS_indexOf2 3 (some .int) 2 := ⟨wd473, wd438, by decide +kernel⟩
theorem wd474 : Cond.instanceMethod ⟨"java/lang/String", "indexOf", "(II)I"⟩ ∈ TB := TBm (tk3 (List.mem_of_getElem? (i := 232) (by decide +kernel))) rfl
theorem wd475 : Cond.selects "java/lang/String" ⟨"java/lang/String", "indexOf", "(II)I"⟩ ⟨"java/lang/String", "indexOf", "(II)I"⟩ ∈ TB := TBm (tk3 (List.mem_of_getElem? (i := 233) (by decide +kernel))) rfl
theorem ciJS_indexOf2 : gCi yJS_indexOf2 := ⟨wd474, wd475⟩
abbrev cJL_indexOf : ByteArray := prog_18_method_22_code
def yJL_indexOf : MethodName := ⟨RJL, "indexOf", "([BIII)I"⟩
theorem wd476 : Cond.code ⟨"java/lang/StringLatin1", "indexOf", "([BIII)I"⟩ prog_18_method_22_code 4 (Option.some Jvm.ClassFile.FieldType.int) ∈ TB := TBm (tk3 (List.mem_of_getElem? (i := 238) (by decide +kernel))) rfl
theorem cwJL_indexOf : gCw yJL_indexOf cJL_indexOf 4 (some .int) 4 := ⟨wd476, wd451, by decide +kernel⟩
theorem wd477 : Cond.static ⟨"java/lang/StringLatin1", "indexOf", "([BIII)I"⟩ ∈ TB := TBm (tk3 (List.mem_of_getElem? (i := 237) (by decide +kernel))) rfl
theorem csJL_indexOf : gCs yJL_indexOf := wd477
abbrev cJL_canEncode : ByteArray := prog_18_method_4_code
def yJL_canEncode : MethodName := ⟨RJL, "canEncode", "(I)Z"⟩
theorem wd478 : Cond.code ⟨"java/lang/StringLatin1", "canEncode", "(I)Z"⟩ prog_18_method_4_code 1 (Option.some Jvm.ClassFile.FieldType.boolean) ∈ TB := TBm (tk4 (List.mem_of_getElem? (i := 1) (by decide +kernel))) rfl
theorem cwJL_canEncode : gCw yJL_canEncode cJL_canEncode 1 (some .boolean) 1 := ⟨wd478, wd451, by decide +kernel⟩
theorem wd479 : Cond.static ⟨"java/lang/StringLatin1", "canEncode", "(I)Z"⟩ ∈ TB := TBm (tk4 (List.mem_of_getElem? (i := 0) (by decide +kernel))) rfl
theorem csJL_canEncode : gCs yJL_canEncode := wd479
abbrev cJL_indexOfChar : ByteArray := prog_18_method_23_code
def yJL_indexOfChar : MethodName := ⟨RJL, "indexOfChar", "([BIII)I"⟩
theorem wd480 : Cond.code ⟨"java/lang/StringLatin1", "indexOfChar", "([BIII)I"⟩ prog_18_method_23_code 6 (Option.some Jvm.ClassFile.FieldType.int) ∈ TB := TBm (tk4 (List.mem_of_getElem? (i := 6) (by decide +kernel))) rfl
theorem cwJL_indexOfChar : gCw yJL_indexOfChar cJL_indexOfChar 6 (some .int) 4 := ⟨wd480, wd451, by decide +kernel⟩
theorem wd481 : Cond.static ⟨"java/lang/StringLatin1", "indexOfChar", "([BIII)I"⟩ ∈ TB := TBm (tk4 (List.mem_of_getElem? (i := 5) (by decide +kernel))) rfl
theorem csJL_indexOfChar : gCs yJL_indexOfChar := wd481
theorem wd482 : Cond.code ⟨"CopiedFire$Reader", "addOperand", "(I)V"⟩ prog_5_method_14_code 2 (Option.none : Option Jvm.ClassFile.FieldType) ∈ TB := TBm (tk4 (List.mem_of_getElem? (i := 45) (by decide +kernel))) rfl
theorem cwX3_addOperand : gCw yX3_addOperand cX3_addOperand 2 none 1 := ⟨wd482, wd201, by decide +kernel⟩
theorem wd483 : Cond.instanceMethod ⟨"CopiedFire$Reader", "addOperand", "(I)V"⟩ ∈ TB := TBm (tk4 (List.mem_of_getElem? (i := 44) (by decide +kernel))) rfl
theorem wd484 : Cond.selects "CopiedFire$Reader" ⟨"CopiedFire$Reader", "addOperand", "(I)V"⟩ ⟨"CopiedFire$Reader", "addOperand", "(I)V"⟩ ∈ TB := TBm (List.mem_of_getElem? (i := 23) (by decide +kernel)) rfl
theorem ciX3_addOperand : gCi yX3_addOperand := ⟨wd483, wd484⟩
theorem wd485 : Cond.code ⟨"CopiedFire$Reader", "addStep", "(I)V"⟩ prog_5_method_15_code 2 (Option.none : Option Jvm.ClassFile.FieldType) ∈ TB := TBm (tk4 (List.mem_of_getElem? (i := 49) (by decide +kernel))) rfl
theorem cwX3_addStep : gCw yX3_addStep cX3_addStep 2 none 1 := ⟨wd485, wd201, by decide +kernel⟩
theorem wd486 : Cond.instanceMethod ⟨"CopiedFire$Reader", "addStep", "(I)V"⟩ ∈ TB := TBm (tk4 (List.mem_of_getElem? (i := 48) (by decide +kernel))) rfl
theorem wd487 : Cond.selects "CopiedFire$Reader" ⟨"CopiedFire$Reader", "addStep", "(I)V"⟩ ⟨"CopiedFire$Reader", "addStep", "(I)V"⟩ ∈ TB := TBm (List.mem_of_getElem? (i := 24) (by decide +kernel)) rfl
theorem ciX3_addStep : gCi yX3_addStep := ⟨wd486, wd487⟩
theorem wd488 : Cond.code ⟨"CopiedFire$Reader", "numberRead", "()I"⟩ prog_5_method_10_code 3 (Option.some Jvm.ClassFile.FieldType.int) ∈ TB := TBm (tk4 (List.mem_of_getElem? (i := 53) (by decide +kernel))) rfl
theorem cwX3_numberRead : gCw yX3_numberRead cX3_numberRead 3 (some .int) 0 := ⟨wd488, wd201, by decide +kernel⟩
theorem wd489 : Cond.instanceMethod ⟨"CopiedFire$Reader", "numberRead", "()I"⟩ ∈ TB := TBm (tk4 (List.mem_of_getElem? (i := 52) (by decide +kernel))) rfl
theorem wd490 : Cond.selects "CopiedFire$Reader" ⟨"CopiedFire$Reader", "numberRead", "()I"⟩ ⟨"CopiedFire$Reader", "numberRead", "()I"⟩ ∈ TB := TBm (List.mem_of_getElem? (i := 25) (by decide +kernel)) rfl
theorem ciX3_numberRead : gCi yX3_numberRead := ⟨wd489, wd490⟩
theorem wd491 : Cond.code ⟨"CopiedFire$Reader", "isSignOf", "(I)Z"⟩ prog_5_method_12_code 2 (Option.some Jvm.ClassFile.FieldType.boolean) ∈ TB := TBm (tk4 (List.mem_of_getElem? (i := 57) (by decide +kernel))) rfl
theorem cwX3_isSignOf : gCw yX3_isSignOf cX3_isSignOf 2 (some .boolean) 1 := ⟨wd491, wd201, by decide +kernel⟩
theorem wd492 : Cond.instanceMethod ⟨"CopiedFire$Reader", "isSignOf", "(I)Z"⟩ ∈ TB := TBm (tk4 (List.mem_of_getElem? (i := 56) (by decide +kernel))) rfl
theorem wd493 : Cond.selects "CopiedFire$Reader" ⟨"CopiedFire$Reader", "isSignOf", "(I)Z"⟩ ⟨"CopiedFire$Reader", "isSignOf", "(I)Z"⟩ ∈ TB := TBm (List.mem_of_getElem? (i := 26) (by decide +kernel)) rfl
theorem ciX3_isSignOf : gCi yX3_isSignOf := ⟨wd492, wd493⟩
abbrev cJA_copyOf : ByteArray := prog_21_method_123_code
def yJA_copyOf : MethodName := ⟨RJA, "copyOf", "([II)[I"⟩
theorem wd494 : Cond.code ⟨"CopiedFire$Text", "<init>", "(II[I)V"⟩ prog_10_method_1_code 4 (Option.none : Option Jvm.ClassFile.FieldType) ∈ TB := TBm (tk4 (List.mem_of_getElem? (i := 78) (by decide +kernel))) rfl
theorem wd495 : Cond.initialized "CopiedFire$Text" ∈ TB := TBm (tk1 (List.mem_of_getElem? (i := 20) (by decide +kernel))) rfl
theorem cwX8_init : gCw yX8_init cX8_init 4 none 3 := ⟨wd494, wd495, by decide +kernel⟩
theorem wd496 : Cond.code ⟨"CopiedFire$Laws", "put", "(ILCopiedFire$Text;)V"⟩ prog_4_method_3_code 3 (Option.none : Option Jvm.ClassFile.FieldType) ∈ TB := TBm (tk4 (List.mem_of_getElem? (i := 97) (by decide +kernel))) rfl
theorem cwX2_put : gCw yX2_put cX2_put 3 none 2 := ⟨wd496, wd190, by decide +kernel⟩
theorem wd497 : Cond.instanceMethod ⟨"CopiedFire$Laws", "put", "(ILCopiedFire$Text;)V"⟩ ∈ TB := TBm (tk4 (List.mem_of_getElem? (i := 95) (by decide +kernel))) rfl
theorem wd498 : Cond.selects "CopiedFire$Laws" ⟨"CopiedFire$Laws", "put", "(ILCopiedFire$Text;)V"⟩ ⟨"CopiedFire$Laws", "put", "(ILCopiedFire$Text;)V"⟩ ∈ TB := TBm (tk4 (List.mem_of_getElem? (i := 96) (by decide +kernel))) rfl
theorem ciX2_put : gCi yX2_put := ⟨wd497, wd498⟩
theorem wd499 : Cond.code ⟨"CopiedFire", "textTold", "(II)I"⟩ prog_1_method_33_code 3 (Option.some Jvm.ClassFile.FieldType.int) ∈ TB := TBm (tk4 (List.mem_of_getElem? (i := 101) (by decide +kernel))) rfl
theorem cwX9_textTold : gCw yX9_textTold cX9_textTold 3 (some .int) 2 := ⟨wd499, wd188, by decide +kernel⟩
theorem wd500 : Cond.instanceMethod ⟨"CopiedFire", "textTold", "(II)I"⟩ ∈ TB := TBm (tk4 (List.mem_of_getElem? (i := 99) (by decide +kernel))) rfl
theorem wd501 : Cond.selects "CopiedFire" ⟨"CopiedFire", "textTold", "(II)I"⟩ ⟨"CopiedFire", "textTold", "(II)I"⟩ ∈ TB := TBm (tk4 (List.mem_of_getElem? (i := 100) (by decide +kernel))) rfl
theorem ciX9_textTold : gCi yX9_textTold := ⟨wd500, wd501⟩
theorem wd502 : Cond.code ⟨"CopiedFire$Laws", "keyOf", "(I)I"⟩ prog_4_method_4_code 2 (Option.some Jvm.ClassFile.FieldType.int) ∈ TB := TBm (tk4 (List.mem_of_getElem? (i := 105) (by decide +kernel))) rfl
theorem cwX2_keyOf : gCw yX2_keyOf cX2_keyOf 2 (some .int) 1 := ⟨wd502, wd190, by decide +kernel⟩
theorem wd503 : Cond.instanceMethod ⟨"CopiedFire$Laws", "keyOf", "(I)I"⟩ ∈ TB := TBm (tk4 (List.mem_of_getElem? (i := 103) (by decide +kernel))) rfl
theorem wd504 : Cond.selects "CopiedFire$Laws" ⟨"CopiedFire$Laws", "keyOf", "(I)I"⟩ ⟨"CopiedFire$Laws", "keyOf", "(I)I"⟩ ∈ TB := TBm (tk4 (List.mem_of_getElem? (i := 104) (by decide +kernel))) rfl
theorem ciX2_keyOf : gCi yX2_keyOf := ⟨wd503, wd504⟩
theorem wd505 : Cond.code ⟨"CopiedFire$Laws", "operandsOf", "(I)I"⟩ prog_4_method_5_code 2 (Option.some Jvm.ClassFile.FieldType.int) ∈ TB := TBm (tk4 (List.mem_of_getElem? (i := 110) (by decide +kernel))) rfl
theorem cwX2_operandsOf : gCw yX2_operandsOf cX2_operandsOf 2 (some .int) 1 := ⟨wd505, wd190, by decide +kernel⟩
theorem wd506 : Cond.instanceMethod ⟨"CopiedFire$Laws", "operandsOf", "(I)I"⟩ ∈ TB := TBm (tk4 (List.mem_of_getElem? (i := 108) (by decide +kernel))) rfl
theorem wd507 : Cond.selects "CopiedFire$Laws" ⟨"CopiedFire$Laws", "operandsOf", "(I)I"⟩ ⟨"CopiedFire$Laws", "operandsOf", "(I)I"⟩ ∈ TB := TBm (tk4 (List.mem_of_getElem? (i := 109) (by decide +kernel))) rfl
theorem ciX2_operandsOf : gCi yX2_operandsOf := ⟨wd506, wd507⟩
theorem wd508 : Cond.code ⟨"CopiedFire", "why", "(I)I"⟩ prog_1_method_34_code 2 (Option.some Jvm.ClassFile.FieldType.int) ∈ TB := TBm (tk4 (List.mem_of_getElem? (i := 114) (by decide +kernel))) rfl
theorem cwX9_why : gCw yX9_why cX9_why 2 (some .int) 1 := ⟨wd508, wd188, by decide +kernel⟩
theorem wd509 : Cond.instanceMethod ⟨"CopiedFire", "why", "(I)I"⟩ ∈ TB := TBm (tk4 (List.mem_of_getElem? (i := 112) (by decide +kernel))) rfl
theorem wd510 : Cond.selects "CopiedFire" ⟨"CopiedFire", "why", "(I)I"⟩ ⟨"CopiedFire", "why", "(I)I"⟩ ∈ TB := TBm (tk4 (List.mem_of_getElem? (i := 113) (by decide +kernel))) rfl
theorem ciX9_why : gCi yX9_why := ⟨wd509, wd510⟩
theorem wd511 : Cond.code ⟨"CopiedFire", "sheet", "(III)I"⟩ prog_1_method_35_code 4 (Option.some Jvm.ClassFile.FieldType.int) ∈ TB := TBm (tk4 (List.mem_of_getElem? (i := 118) (by decide +kernel))) rfl
theorem cwX9_sheet : gCw yX9_sheet cX9_sheet 4 (some .int) 3 := ⟨wd511, wd188, by decide +kernel⟩
theorem wd512 : Cond.instanceMethod ⟨"CopiedFire", "sheet", "(III)I"⟩ ∈ TB := TBm (tk4 (List.mem_of_getElem? (i := 116) (by decide +kernel))) rfl
theorem wd513 : Cond.selects "CopiedFire" ⟨"CopiedFire", "sheet", "(III)I"⟩ ⟨"CopiedFire", "sheet", "(III)I"⟩ ∈ TB := TBm (tk4 (List.mem_of_getElem? (i := 117) (by decide +kernel))) rfl
theorem ciX9_sheet : gCi yX9_sheet := ⟨wd512, wd513⟩
theorem wd514 : Cond.code ⟨"CopiedFire$Sheet", "renew", "(II)V"⟩ prog_7_method_2_code 3 (Option.none : Option Jvm.ClassFile.FieldType) ∈ TB := TBm (tk4 (List.mem_of_getElem? (i := 122) (by decide +kernel))) rfl
theorem cwX5_renew : gCw yX5_renew cX5_renew 3 none 2 := ⟨wd514, wd203, by decide +kernel⟩
theorem wd515 : Cond.instanceMethod ⟨"CopiedFire$Sheet", "renew", "(II)V"⟩ ∈ TB := TBm (tk4 (List.mem_of_getElem? (i := 120) (by decide +kernel))) rfl
theorem wd516 : Cond.selects "CopiedFire$Sheet" ⟨"CopiedFire$Sheet", "renew", "(II)V"⟩ ⟨"CopiedFire$Sheet", "renew", "(II)V"⟩ ∈ TB := TBm (tk4 (List.mem_of_getElem? (i := 121) (by decide +kernel))) rfl
theorem ciX5_renew : gCi yX5_renew := ⟨wd515, wd516⟩
theorem wd517 : Cond.code ⟨"CopiedFire", "mark", "(III)I"⟩ prog_1_method_36_code 5 (Option.some Jvm.ClassFile.FieldType.int) ∈ TB := TBm (tk4 (List.mem_of_getElem? (i := 128) (by decide +kernel))) rfl
theorem cwX9_mark : gCw yX9_mark cX9_mark 5 (some .int) 3 := ⟨wd517, wd188, by decide +kernel⟩
theorem wd518 : Cond.instanceMethod ⟨"CopiedFire", "mark", "(III)I"⟩ ∈ TB := TBm (tk4 (List.mem_of_getElem? (i := 126) (by decide +kernel))) rfl
theorem wd519 : Cond.selects "CopiedFire" ⟨"CopiedFire", "mark", "(III)I"⟩ ⟨"CopiedFire", "mark", "(III)I"⟩ ∈ TB := TBm (tk4 (List.mem_of_getElem? (i := 127) (by decide +kernel))) rfl
theorem ciX9_mark : gCi yX9_mark := ⟨wd518, wd519⟩
theorem wd520 : Cond.code ⟨"CopiedFire", "pour", "(I)I"⟩ prog_1_method_37_code 6 (Option.some Jvm.ClassFile.FieldType.int) ∈ TB := TBm (tk4 (List.mem_of_getElem? (i := 136) (by decide +kernel))) rfl
theorem cwX9_pour : gCw yX9_pour cX9_pour 6 (some .int) 1 := ⟨wd520, wd188, by decide +kernel⟩
theorem wd521 : Cond.instanceMethod ⟨"CopiedFire", "pour", "(I)I"⟩ ∈ TB := TBm (tk4 (List.mem_of_getElem? (i := 134) (by decide +kernel))) rfl
theorem wd522 : Cond.selects "CopiedFire" ⟨"CopiedFire", "pour", "(I)I"⟩ ⟨"CopiedFire", "pour", "(I)I"⟩ ∈ TB := TBm (tk4 (List.mem_of_getElem? (i := 135) (by decide +kernel))) rfl
theorem ciX9_pour : gCi yX9_pour := ⟨wd521, wd522⟩
theorem wd523 : Cond.code ⟨"CopiedFire", "reads", "(I)I"⟩ prog_1_method_38_code 4 (Option.some Jvm.ClassFile.FieldType.int) ∈ TB := TBm (tk4 (List.mem_of_getElem? (i := 141) (by decide +kernel))) rfl
theorem cwX9_reads : gCw yX9_reads cX9_reads 4 (some .int) 1 := ⟨wd523, wd188, by decide +kernel⟩
theorem wd524 : Cond.instanceMethod ⟨"CopiedFire", "reads", "(I)I"⟩ ∈ TB := TBm (tk4 (List.mem_of_getElem? (i := 139) (by decide +kernel))) rfl
theorem wd525 : Cond.selects "CopiedFire" ⟨"CopiedFire", "reads", "(I)I"⟩ ⟨"CopiedFire", "reads", "(I)I"⟩ ∈ TB := TBm (tk4 (List.mem_of_getElem? (i := 140) (by decide +kernel))) rfl
theorem ciX9_reads : gCi yX9_reads := ⟨wd524, wd525⟩
theorem wd526 : Cond.code ⟨"CopiedFire", "copy", "(IIIII)I"⟩ prog_1_method_39_code 8 (Option.some Jvm.ClassFile.FieldType.int) ∈ TB := TBm (tk4 (List.mem_of_getElem? (i := 145) (by decide +kernel))) rfl
theorem cwX9_copy : gCw yX9_copy cX9_copy 8 (some .int) 5 := ⟨wd526, wd188, by decide +kernel⟩
theorem wd527 : Cond.instanceMethod ⟨"CopiedFire", "copy", "(IIIII)I"⟩ ∈ TB := TBm (tk4 (List.mem_of_getElem? (i := 143) (by decide +kernel))) rfl
theorem wd528 : Cond.selects "CopiedFire" ⟨"CopiedFire", "copy", "(IIIII)I"⟩ ⟨"CopiedFire", "copy", "(IIIII)I"⟩ ∈ TB := TBm (tk4 (List.mem_of_getElem? (i := 144) (by decide +kernel))) rfl
theorem ciX9_copy : gCi yX9_copy := ⟨wd527, wd528⟩
theorem wd529 : Cond.code ⟨"CopiedFire$Sheet", "hasRow", "(II)Z"⟩ prog_7_method_7_code 3 (Option.some Jvm.ClassFile.FieldType.boolean) ∈ TB := TBm (tk4 (List.mem_of_getElem? (i := 149) (by decide +kernel))) rfl
theorem cwX5_hasRow : gCw yX5_hasRow cX5_hasRow 3 (some .boolean) 2 := ⟨wd529, wd203, by decide +kernel⟩
theorem wd530 : Cond.instanceMethod ⟨"CopiedFire$Sheet", "hasRow", "(II)Z"⟩ ∈ TB := TBm (tk4 (List.mem_of_getElem? (i := 147) (by decide +kernel))) rfl
theorem wd531 : Cond.selects "CopiedFire$Sheet" ⟨"CopiedFire$Sheet", "hasRow", "(II)Z"⟩ ⟨"CopiedFire$Sheet", "hasRow", "(II)Z"⟩ ∈ TB := TBm (tk4 (List.mem_of_getElem? (i := 148) (by decide +kernel))) rfl
theorem ciX5_hasRow : gCi yX5_hasRow := ⟨wd530, wd531⟩
theorem wd532 : Cond.code ⟨"CopiedFire", "lay", "(III)I"⟩ prog_1_method_40_code 6 (Option.some Jvm.ClassFile.FieldType.int) ∈ TB := TBm (tk4 (List.mem_of_getElem? (i := 154) (by decide +kernel))) rfl
theorem cwX9_lay : gCw yX9_lay cX9_lay 6 (some .int) 3 := ⟨wd532, wd188, by decide +kernel⟩
theorem wd533 : Cond.instanceMethod ⟨"CopiedFire", "lay", "(III)I"⟩ ∈ TB := TBm (tk4 (List.mem_of_getElem? (i := 152) (by decide +kernel))) rfl
theorem wd534 : Cond.selects "CopiedFire" ⟨"CopiedFire", "lay", "(III)I"⟩ ⟨"CopiedFire", "lay", "(III)I"⟩ ∈ TB := TBm (tk4 (List.mem_of_getElem? (i := 153) (by decide +kernel))) rfl
theorem ciX9_lay : gCi yX9_lay := ⟨wd533, wd534⟩
theorem wd535 : Cond.code ⟨"CopiedFire", "isSlot", "(I)Z"⟩ prog_1_method_57_code 1 (Option.some Jvm.ClassFile.FieldType.boolean) ∈ TB := TBm (tk4 (List.mem_of_getElem? (i := 157) (by decide +kernel))) rfl
theorem cwX9_isSlot : gCw yX9_isSlot cX9_isSlot 1 (some .boolean) 1 := ⟨wd535, wd188, by decide +kernel⟩
theorem wd536 : Cond.static ⟨"CopiedFire", "isSlot", "(I)Z"⟩ ∈ TB := TBm (tk4 (List.mem_of_getElem? (i := 156) (by decide +kernel))) rfl
theorem csX9_isSlot : gCs yX9_isSlot := wd536
theorem wd537 : Cond.code ⟨"CopiedFire$Sheet", "becomeAs", "(LCopiedFire$Sheet;)V"⟩ prog_7_method_3_code 2 (Option.none : Option Jvm.ClassFile.FieldType) ∈ TB := TBm (tk4 (List.mem_of_getElem? (i := 161) (by decide +kernel))) rfl
theorem cwX5_becomeAs : gCw yX5_becomeAs cX5_becomeAs 2 none 1 := ⟨wd537, wd203, by decide +kernel⟩
theorem wd538 : Cond.instanceMethod ⟨"CopiedFire$Sheet", "becomeAs", "(LCopiedFire$Sheet;)V"⟩ ∈ TB := TBm (tk4 (List.mem_of_getElem? (i := 159) (by decide +kernel))) rfl
theorem wd539 : Cond.selects "CopiedFire$Sheet" ⟨"CopiedFire$Sheet", "becomeAs", "(LCopiedFire$Sheet;)V"⟩ ⟨"CopiedFire$Sheet", "becomeAs", "(LCopiedFire$Sheet;)V"⟩ ∈ TB := TBm (tk4 (List.mem_of_getElem? (i := 160) (by decide +kernel))) rfl
theorem ciX5_becomeAs : gCi yX5_becomeAs := ⟨wd538, wd539⟩
theorem wd540 : Cond.code ⟨"CopiedFire", "ask", "(II)I"⟩ prog_1_method_41_code 5 (Option.some Jvm.ClassFile.FieldType.int) ∈ TB := TBm (tk4 (List.mem_of_getElem? (i := 166) (by decide +kernel))) rfl
theorem cwX9_ask : gCw yX9_ask cX9_ask 5 (some .int) 2 := ⟨wd540, wd188, by decide +kernel⟩
theorem wd541 : Cond.instanceMethod ⟨"CopiedFire", "ask", "(II)I"⟩ ∈ TB := TBm (tk4 (List.mem_of_getElem? (i := 164) (by decide +kernel))) rfl
theorem wd542 : Cond.selects "CopiedFire" ⟨"CopiedFire", "ask", "(II)I"⟩ ⟨"CopiedFire", "ask", "(II)I"⟩ ∈ TB := TBm (tk4 (List.mem_of_getElem? (i := 165) (by decide +kernel))) rfl
theorem ciX9_ask : gCi yX9_ask := ⟨wd541, wd542⟩
theorem wd543 : Cond.code ⟨"CopiedFire", "findingFor", "(II)I"⟩ prog_1_method_62_code 4 (Option.some Jvm.ClassFile.FieldType.int) ∈ TB := TBm (tk4 (List.mem_of_getElem? (i := 170) (by decide +kernel))) rfl
theorem cwX9_findingFor : gCw yX9_findingFor cX9_findingFor 4 (some .int) 2 := ⟨wd543, wd188, by decide +kernel⟩
theorem wd544 : Cond.instanceMethod ⟨"CopiedFire", "findingFor", "(II)I"⟩ ∈ TB := TBm (tk4 (List.mem_of_getElem? (i := 169) (by decide +kernel))) rfl
theorem wd545 : Cond.selects "CopiedFire" ⟨"CopiedFire", "findingFor", "(II)I"⟩ ⟨"CopiedFire", "findingFor", "(II)I"⟩ ∈ TB := TBm (List.mem_of_getElem? (i := 27) (by decide +kernel)) rfl
theorem ciX9_findingFor : gCi yX9_findingFor := ⟨wd544, wd545⟩
theorem wd546 : Cond.code ⟨"CopiedFire", "item", "(II)I"⟩ prog_1_method_42_code 5 (Option.some Jvm.ClassFile.FieldType.int) ∈ TB := TBm (tk4 (List.mem_of_getElem? (i := 174) (by decide +kernel))) rfl
theorem cwX9_item : gCw yX9_item cX9_item 5 (some .int) 2 := ⟨wd546, wd188, by decide +kernel⟩
theorem wd547 : Cond.instanceMethod ⟨"CopiedFire", "item", "(II)I"⟩ ∈ TB := TBm (tk4 (List.mem_of_getElem? (i := 172) (by decide +kernel))) rfl
theorem wd548 : Cond.selects "CopiedFire" ⟨"CopiedFire", "item", "(II)I"⟩ ⟨"CopiedFire", "item", "(II)I"⟩ ∈ TB := TBm (tk4 (List.mem_of_getElem? (i := 173) (by decide +kernel))) rfl
theorem ciX9_item : gCi yX9_item := ⟨wd547, wd548⟩
theorem wd549 : Cond.code ⟨"CopiedFire", "rest", "(II)I"⟩ prog_1_method_43_code 4 (Option.some Jvm.ClassFile.FieldType.int) ∈ TB := TBm (tk4 (List.mem_of_getElem? (i := 178) (by decide +kernel))) rfl
theorem cwX9_rest : gCw yX9_rest cX9_rest 4 (some .int) 2 := ⟨wd549, wd188, by decide +kernel⟩
theorem wd550 : Cond.instanceMethod ⟨"CopiedFire", "rest", "(II)I"⟩ ∈ TB := TBm (tk4 (List.mem_of_getElem? (i := 176) (by decide +kernel))) rfl
theorem wd551 : Cond.selects "CopiedFire" ⟨"CopiedFire", "rest", "(II)I"⟩ ⟨"CopiedFire", "rest", "(II)I"⟩ ∈ TB := TBm (tk4 (List.mem_of_getElem? (i := 177) (by decide +kernel))) rfl
theorem ciX9_rest : gCi yX9_rest := ⟨wd550, wd551⟩
theorem wd552 : Cond.code ⟨"CopiedFire", "tell", "(I)I"⟩ prog_1_method_44_code 2 (Option.some Jvm.ClassFile.FieldType.int) ∈ TB := TBm (tk4 (List.mem_of_getElem? (i := 183) (by decide +kernel))) rfl
theorem cwX9_tell : gCw yX9_tell cX9_tell 2 (some .int) 1 := ⟨wd552, wd188, by decide +kernel⟩
theorem wd553 : Cond.instanceMethod ⟨"CopiedFire", "tell", "(I)I"⟩ ∈ TB := TBm (tk4 (List.mem_of_getElem? (i := 181) (by decide +kernel))) rfl
theorem wd554 : Cond.selects "CopiedFire" ⟨"CopiedFire", "tell", "(I)I"⟩ ⟨"CopiedFire", "tell", "(I)I"⟩ ∈ TB := TBm (tk4 (List.mem_of_getElem? (i := 182) (by decide +kernel))) rfl
theorem ciX9_tell : gCi yX9_tell := ⟨wd553, wd554⟩
theorem wd555 : Cond.code ⟨"CopiedFire", "check", "(I)I"⟩ prog_1_method_45_code 5 (Option.some Jvm.ClassFile.FieldType.int) ∈ TB := TBm (tk4 (List.mem_of_getElem? (i := 187) (by decide +kernel))) rfl
theorem cwX9_check : gCw yX9_check cX9_check 5 (some .int) 1 := ⟨wd555, wd188, by decide +kernel⟩
theorem wd556 : Cond.instanceMethod ⟨"CopiedFire", "check", "(I)I"⟩ ∈ TB := TBm (tk4 (List.mem_of_getElem? (i := 185) (by decide +kernel))) rfl
theorem wd557 : Cond.selects "CopiedFire" ⟨"CopiedFire", "check", "(I)I"⟩ ⟨"CopiedFire", "check", "(I)I"⟩ ∈ TB := TBm (tk4 (List.mem_of_getElem? (i := 186) (by decide +kernel))) rfl
theorem ciX9_check : gCi yX9_check := ⟨wd556, wd557⟩
theorem wd558 : Cond.code ⟨"CopiedFire", "keep", "()I"⟩ prog_1_method_46_code 1 (Option.some Jvm.ClassFile.FieldType.int) ∈ TB := TBm (tk4 (List.mem_of_getElem? (i := 191) (by decide +kernel))) rfl
theorem cwX9_keep : gCw yX9_keep cX9_keep 1 (some .int) 0 := ⟨wd558, wd188, by decide +kernel⟩
theorem wd559 : Cond.instanceMethod ⟨"CopiedFire", "keep", "()I"⟩ ∈ TB := TBm (tk4 (List.mem_of_getElem? (i := 189) (by decide +kernel))) rfl
theorem wd560 : Cond.selects "CopiedFire" ⟨"CopiedFire", "keep", "()I"⟩ ⟨"CopiedFire", "keep", "()I"⟩ ∈ TB := TBm (tk4 (List.mem_of_getElem? (i := 190) (by decide +kernel))) rfl
theorem ciX9_keep : gCi yX9_keep := ⟨wd559, wd560⟩
theorem wd561 : Cond.code ⟨"CopiedFire", "back", "()I"⟩ prog_1_method_47_code 1 (Option.some Jvm.ClassFile.FieldType.int) ∈ TB := TBm (tk4 (List.mem_of_getElem? (i := 195) (by decide +kernel))) rfl
theorem cwX9_back : gCw yX9_back cX9_back 1 (some .int) 0 := ⟨wd561, wd188, by decide +kernel⟩
theorem wd562 : Cond.instanceMethod ⟨"CopiedFire", "back", "()I"⟩ ∈ TB := TBm (tk4 (List.mem_of_getElem? (i := 193) (by decide +kernel))) rfl
theorem wd563 : Cond.selects "CopiedFire" ⟨"CopiedFire", "back", "()I"⟩ ⟨"CopiedFire", "back", "()I"⟩ ∈ TB := TBm (tk4 (List.mem_of_getElem? (i := 194) (by decide +kernel))) rfl
theorem ciX9_back : gCi yX9_back := ⟨wd562, wd563⟩
theorem wd564 : Cond.code ⟨"CopiedFire", "count", "(I)I"⟩ prog_1_method_48_code 2 (Option.some Jvm.ClassFile.FieldType.int) ∈ TB := TBm (tk4 (List.mem_of_getElem? (i := 199) (by decide +kernel))) rfl
theorem cwX9_count : gCw yX9_count cX9_count 2 (some .int) 1 := ⟨wd564, wd188, by decide +kernel⟩
theorem wd565 : Cond.instanceMethod ⟨"CopiedFire", "count", "(I)I"⟩ ∈ TB := TBm (tk4 (List.mem_of_getElem? (i := 197) (by decide +kernel))) rfl
theorem wd566 : Cond.selects "CopiedFire" ⟨"CopiedFire", "count", "(I)I"⟩ ⟨"CopiedFire", "count", "(I)I"⟩ ∈ TB := TBm (tk4 (List.mem_of_getElem? (i := 198) (by decide +kernel))) rfl
theorem ciX9_count : gCi yX9_count := ⟨wd565, wd566⟩
theorem wd567 : Cond.code ⟨"CopiedFireModel", "<init>", "()V"⟩ prog_12_method_1_code 1 (Option.none : Option Jvm.ClassFile.FieldType) ∈ TB := TBm (tk4 (List.mem_of_getElem? (i := 204) (by decide +kernel))) rfl
theorem wd568 : Cond.initialized "CopiedFireModel" ∈ TB := TBm (tk1 (List.mem_of_getElem? (i := 10) (by decide +kernel))) rfl
theorem cwX10_init : gCw yX10_init cX10_init 1 none 0 := ⟨wd567, wd568, by decide +kernel⟩
theorem wd569 : Cond.code ⟨"CopiedFireModel", "thing", "(IIII)I"⟩ prog_12_method_16_code 5 (Option.some Jvm.ClassFile.FieldType.int) ∈ TB := TBm (tk5 (List.mem_of_getElem? (i := 83) (by decide +kernel))) rfl
theorem cwX10_thing : gCw yX10_thing cX10_thing 5 (some .int) 4 := ⟨wd569, wd568, by decide +kernel⟩
theorem wd570 : Cond.instanceMethod ⟨"CopiedFireModel", "thing", "(IIII)I"⟩ ∈ TB := TBm (tk5 (List.mem_of_getElem? (i := 81) (by decide +kernel))) rfl
theorem wd571 : Cond.selects "CopiedFireModel" ⟨"CopiedFireModel", "thing", "(IIII)I"⟩ ⟨"CopiedFireModel", "thing", "(IIII)I"⟩ ∈ TB := TBm (tk5 (List.mem_of_getElem? (i := 82) (by decide +kernel))) rfl
theorem ciX10_thing : gCi yX10_thing := ⟨wd570, wd571⟩
theorem wd572 : Cond.code ⟨"CopiedFireModel", "in", "(III)Z"⟩ prog_12_method_2_code 3 (Option.some Jvm.ClassFile.FieldType.boolean) ∈ TB := TBm (tk5 (List.mem_of_getElem? (i := 86) (by decide +kernel))) rfl
theorem cwX10_in : gCw yX10_in cX10_in 3 (some .boolean) 3 := ⟨wd572, wd568, by decide +kernel⟩
theorem wd573 : Cond.static ⟨"CopiedFireModel", "in", "(III)Z"⟩ ∈ TB := TBm (tk5 (List.mem_of_getElem? (i := 85) (by decide +kernel))) rfl
theorem csX10_in : gCs yX10_in := wd573
theorem wd574 : Cond.code ⟨"CopiedFireModel", "isOf", "(II)Z"⟩ prog_12_method_14_code 2 (Option.some Jvm.ClassFile.FieldType.boolean) ∈ TB := TBm (tk5 (List.mem_of_getElem? (i := 89) (by decide +kernel))) rfl
theorem cwX10_isOf : gCw yX10_isOf cX10_isOf 2 (some .boolean) 2 := ⟨wd574, wd568, by decide +kernel⟩
theorem wd575 : Cond.static ⟨"CopiedFireModel", "isOf", "(II)Z"⟩ ∈ TB := TBm (tk5 (List.mem_of_getElem? (i := 88) (by decide +kernel))) rfl
theorem csX10_isOf : gCs yX10_isOf := wd575
theorem wd576 : Cond.code ⟨"CopiedFireModel", "isRoom", "(I)Z"⟩ prog_12_method_6_code 1 (Option.some Jvm.ClassFile.FieldType.boolean) ∈ TB := TBm (tk5 (List.mem_of_getElem? (i := 92) (by decide +kernel))) rfl
theorem cwX10_isRoom : gCw yX10_isRoom cX10_isRoom 1 (some .boolean) 1 := ⟨wd576, wd568, by decide +kernel⟩
theorem wd577 : Cond.static ⟨"CopiedFireModel", "isRoom", "(I)Z"⟩ ∈ TB := TBm (tk5 (List.mem_of_getElem? (i := 91) (by decide +kernel))) rfl
theorem csX10_isRoom : gCs yX10_isRoom := wd577
theorem wd578 : Cond.code ⟨"CopiedFireModel", "comes", "(IIII)I"⟩ prog_12_method_15_code 6 (Option.some Jvm.ClassFile.FieldType.int) ∈ TB := TBm (tk5 (List.mem_of_getElem? (i := 98) (by decide +kernel))) rfl
theorem cwX10_comes : gCw yX10_comes cX10_comes 6 (some .int) 4 := ⟨wd578, wd568, by decide +kernel⟩
theorem wd579 : Cond.instanceMethod ⟨"CopiedFireModel", "comes", "(IIII)I"⟩ ∈ TB := TBm (tk5 (List.mem_of_getElem? (i := 97) (by decide +kernel))) rfl
theorem wd580 : Cond.selects "CopiedFireModel" ⟨"CopiedFireModel", "comes", "(IIII)I"⟩ ⟨"CopiedFireModel", "comes", "(IIII)I"⟩ ∈ TB := TBm (List.mem_of_getElem? (i := 28) (by decide +kernel)) rfl
theorem ciX10_comes : gCi yX10_comes := ⟨wd579, wd580⟩
theorem wd581 : Cond.code ⟨"CopiedFireModel", "put", "(III)V"⟩ prog_12_method_8_code 4 (Option.none : Option Jvm.ClassFile.FieldType) ∈ TB := TBm (tk5 (List.mem_of_getElem? (i := 102) (by decide +kernel))) rfl
theorem cwX10_put : gCw yX10_put cX10_put 4 none 3 := ⟨wd581, wd568, by decide +kernel⟩
theorem wd582 : Cond.instanceMethod ⟨"CopiedFireModel", "put", "(III)V"⟩ ∈ TB := TBm (tk5 (List.mem_of_getElem? (i := 101) (by decide +kernel))) rfl
theorem wd583 : Cond.selects "CopiedFireModel" ⟨"CopiedFireModel", "put", "(III)V"⟩ ⟨"CopiedFireModel", "put", "(III)V"⟩ ∈ TB := TBm (List.mem_of_getElem? (i := 29) (by decide +kernel)) rfl
theorem ciX10_put : gCi yX10_put := ⟨wd582, wd583⟩
theorem wd584 : Cond.code ⟨"CopiedFireModel", "told", "(II)I"⟩ prog_12_method_17_code 3 (Option.some Jvm.ClassFile.FieldType.int) ∈ TB := TBm (tk5 (List.mem_of_getElem? (i := 106) (by decide +kernel))) rfl
theorem cwX10_told : gCw yX10_told cX10_told 3 (some .int) 2 := ⟨wd584, wd568, by decide +kernel⟩
theorem wd585 : Cond.instanceMethod ⟨"CopiedFireModel", "told", "(II)I"⟩ ∈ TB := TBm (tk5 (List.mem_of_getElem? (i := 104) (by decide +kernel))) rfl
theorem wd586 : Cond.selects "CopiedFireModel" ⟨"CopiedFireModel", "told", "(II)I"⟩ ⟨"CopiedFireModel", "told", "(II)I"⟩ ∈ TB := TBm (tk5 (List.mem_of_getElem? (i := 105) (by decide +kernel))) rfl
theorem ciX10_told : gCi yX10_told := ⟨wd585, wd586⟩
theorem wd587 : Cond.code ⟨"CopiedFireModel", "isThing", "(I)Z"⟩ prog_12_method_5_code 2 (Option.some Jvm.ClassFile.FieldType.boolean) ∈ TB := TBm (tk5 (List.mem_of_getElem? (i := 110) (by decide +kernel))) rfl
theorem cwX10_isThing : gCw yX10_isThing cX10_isThing 2 (some .boolean) 1 := ⟨wd587, wd568, by decide +kernel⟩
theorem wd588 : Cond.instanceMethod ⟨"CopiedFireModel", "isThing", "(I)Z"⟩ ∈ TB := TBm (tk5 (List.mem_of_getElem? (i := 109) (by decide +kernel))) rfl
theorem wd589 : Cond.selects "CopiedFireModel" ⟨"CopiedFireModel", "isThing", "(I)Z"⟩ ⟨"CopiedFireModel", "isThing", "(I)Z"⟩ ∈ TB := TBm (List.mem_of_getElem? (i := 30) (by decide +kernel)) rfl
theorem ciX10_isThing : gCi yX10_isThing := ⟨wd588, wd589⟩
theorem wd590 : Cond.code ⟨"CopiedFireModel", "of", "(II)I"⟩ prog_12_method_7_code 3 (Option.some Jvm.ClassFile.FieldType.int) ∈ TB := TBm (tk5 (List.mem_of_getElem? (i := 114) (by decide +kernel))) rfl
theorem cwX10_of : gCw yX10_of cX10_of 3 (some .int) 2 := ⟨wd590, wd568, by decide +kernel⟩
theorem wd591 : Cond.instanceMethod ⟨"CopiedFireModel", "of", "(II)I"⟩ ∈ TB := TBm (tk5 (List.mem_of_getElem? (i := 113) (by decide +kernel))) rfl
theorem wd592 : Cond.selects "CopiedFireModel" ⟨"CopiedFireModel", "of", "(II)I"⟩ ⟨"CopiedFireModel", "of", "(II)I"⟩ ∈ TB := TBm (List.mem_of_getElem? (i := 31) (by decide +kernel)) rfl
theorem ciX10_of : gCi yX10_of := ⟨wd591, wd592⟩
theorem wd593 : Cond.code ⟨"CopiedFireModel", "burnsOf", "(I)I"⟩ prog_12_method_10_code 4 (Option.some Jvm.ClassFile.FieldType.int) ∈ TB := TBm (tk5 (List.mem_of_getElem? (i := 118) (by decide +kernel))) rfl
theorem cwX10_burnsOf : gCw yX10_burnsOf cX10_burnsOf 4 (some .int) 1 := ⟨wd593, wd568, by decide +kernel⟩
theorem wd594 : Cond.instanceMethod ⟨"CopiedFireModel", "burnsOf", "(I)I"⟩ ∈ TB := TBm (tk5 (List.mem_of_getElem? (i := 117) (by decide +kernel))) rfl
theorem wd595 : Cond.selects "CopiedFireModel" ⟨"CopiedFireModel", "burnsOf", "(I)I"⟩ ⟨"CopiedFireModel", "burnsOf", "(I)I"⟩ ∈ TB := TBm (List.mem_of_getElem? (i := 32) (by decide +kernel)) rfl
theorem ciX10_burnsOf : gCi yX10_burnsOf := ⟨wd594, wd595⟩
theorem wd596 : Cond.code ⟨"CopiedFireModel", "counts", "(I)I"⟩ prog_12_method_77_code 3 (Option.some Jvm.ClassFile.FieldType.int) ∈ TB := TBm (tk5 (List.mem_of_getElem? (i := 122) (by decide +kernel))) rfl
theorem cwX10_counts : gCw yX10_counts cX10_counts 3 (some .int) 1 := ⟨wd596, wd568, by decide +kernel⟩
theorem wd597 : Cond.instanceMethod ⟨"CopiedFireModel", "counts", "(I)I"⟩ ∈ TB := TBm (tk5 (List.mem_of_getElem? (i := 121) (by decide +kernel))) rfl
theorem wd598 : Cond.selects "CopiedFireModel" ⟨"CopiedFireModel", "counts", "(I)I"⟩ ⟨"CopiedFireModel", "counts", "(I)I"⟩ ∈ TB := TBm (List.mem_of_getElem? (i := 33) (by decide +kernel)) rfl
theorem ciX10_counts : gCi yX10_counts := ⟨wd597, wd598⟩
theorem wd599 : Cond.code ⟨"CopiedFireModel", "worksOut", "(I)I"⟩ prog_12_method_80_code 6 (Option.some Jvm.ClassFile.FieldType.int) ∈ TB := TBm (tk5 (List.mem_of_getElem? (i := 126) (by decide +kernel))) rfl
theorem cwX10_worksOut : gCw yX10_worksOut cX10_worksOut 6 (some .int) 1 := ⟨wd599, wd568, by decide +kernel⟩
theorem wd600 : Cond.instanceMethod ⟨"CopiedFireModel", "worksOut", "(I)I"⟩ ∈ TB := TBm (tk5 (List.mem_of_getElem? (i := 125) (by decide +kernel))) rfl
theorem wd601 : Cond.selects "CopiedFireModel" ⟨"CopiedFireModel", "worksOut", "(I)I"⟩ ⟨"CopiedFireModel", "worksOut", "(I)I"⟩ ∈ TB := TBm (List.mem_of_getElem? (i := 34) (by decide +kernel)) rfl
theorem ciX10_worksOut : gCi yX10_worksOut := ⟨wd600, wd601⟩
theorem wd602 : Cond.code ⟨"CopiedFireModel", "two", "(III)I"⟩ prog_12_method_79_code 3 (Option.some Jvm.ClassFile.FieldType.int) ∈ TB := TBm (tk5 (List.mem_of_getElem? (i := 129) (by decide +kernel))) rfl
theorem cwX10_two : gCw yX10_two cX10_two 3 (some .int) 3 := ⟨wd602, wd568, by decide +kernel⟩
theorem wd603 : Cond.static ⟨"CopiedFireModel", "two", "(III)I"⟩ ∈ TB := TBm (tk5 (List.mem_of_getElem? (i := 128) (by decide +kernel))) rfl
theorem csX10_two : gCs yX10_two := wd603
theorem wd604 : Cond.code ⟨"CopiedFireModel", "within", "(III)I"⟩ prog_12_method_3_code 3 (Option.some Jvm.ClassFile.FieldType.int) ∈ TB := TBm (tk5 (List.mem_of_getElem? (i := 132) (by decide +kernel))) rfl
theorem cwX10_within : gCw yX10_within cX10_within 3 (some .int) 3 := ⟨wd604, wd568, by decide +kernel⟩
theorem wd605 : Cond.static ⟨"CopiedFireModel", "within", "(III)I"⟩ ∈ TB := TBm (tk5 (List.mem_of_getElem? (i := 131) (by decide +kernel))) rfl
theorem csX10_within : gCs yX10_within := wd605
theorem wd606 : Cond.code ⟨"CopiedFireModel", "givesOf", "(II)I"⟩ prog_12_method_11_code 3 (Option.some Jvm.ClassFile.FieldType.int) ∈ TB := TBm (tk5 (List.mem_of_getElem? (i := 136) (by decide +kernel))) rfl
theorem cwX10_givesOf : gCw yX10_givesOf cX10_givesOf 3 (some .int) 2 := ⟨wd606, wd568, by decide +kernel⟩
theorem wd607 : Cond.instanceMethod ⟨"CopiedFireModel", "givesOf", "(II)I"⟩ ∈ TB := TBm (tk5 (List.mem_of_getElem? (i := 135) (by decide +kernel))) rfl
theorem wd608 : Cond.selects "CopiedFireModel" ⟨"CopiedFireModel", "givesOf", "(II)I"⟩ ⟨"CopiedFireModel", "givesOf", "(II)I"⟩ ∈ TB := TBm (List.mem_of_getElem? (i := 35) (by decide +kernel)) rfl
theorem ciX10_givesOf : gCi yX10_givesOf := ⟨wd607, wd608⟩
theorem wd609 : Cond.code ⟨"CopiedFireModel", "catchesOf", "(I)I"⟩ prog_12_method_12_code 2 (Option.some Jvm.ClassFile.FieldType.int) ∈ TB := TBm (tk5 (List.mem_of_getElem? (i := 140) (by decide +kernel))) rfl
theorem cwX10_catchesOf : gCw yX10_catchesOf cX10_catchesOf 2 (some .int) 1 := ⟨wd609, wd568, by decide +kernel⟩
theorem wd610 : Cond.instanceMethod ⟨"CopiedFireModel", "catchesOf", "(I)I"⟩ ∈ TB := TBm (tk5 (List.mem_of_getElem? (i := 139) (by decide +kernel))) rfl
theorem wd611 : Cond.selects "CopiedFireModel" ⟨"CopiedFireModel", "catchesOf", "(I)I"⟩ ⟨"CopiedFireModel", "catchesOf", "(I)I"⟩ ∈ TB := TBm (List.mem_of_getElem? (i := 36) (by decide +kernel)) rfl
theorem ciX10_catchesOf : gCi yX10_catchesOf := ⟨wd610, wd611⟩
theorem wd612 : Cond.code ⟨"CopiedFireModel", "worthOf", "(I)I"⟩ prog_12_method_13_code 3 (Option.some Jvm.ClassFile.FieldType.int) ∈ TB := TBm (tk5 (List.mem_of_getElem? (i := 144) (by decide +kernel))) rfl
theorem cwX10_worthOf : gCw yX10_worthOf cX10_worthOf 3 (some .int) 1 := ⟨wd612, wd568, by decide +kernel⟩
theorem wd613 : Cond.instanceMethod ⟨"CopiedFireModel", "worthOf", "(I)I"⟩ ∈ TB := TBm (tk5 (List.mem_of_getElem? (i := 143) (by decide +kernel))) rfl
theorem wd614 : Cond.selects "CopiedFireModel" ⟨"CopiedFireModel", "worthOf", "(I)I"⟩ ⟨"CopiedFireModel", "worthOf", "(I)I"⟩ ∈ TB := TBm (List.mem_of_getElem? (i := 37) (by decide +kernel)) rfl
theorem ciX10_worthOf : gCi yX10_worthOf := ⟨wd613, wd614⟩
theorem wd615 : Cond.code ⟨"CopiedFireModel", "as", "(II)I"⟩ prog_12_method_19_code 3 (Option.some Jvm.ClassFile.FieldType.int) ∈ TB := TBm (tk5 (List.mem_of_getElem? (i := 148) (by decide +kernel))) rfl
theorem cwX10_as : gCw yX10_as cX10_as 3 (some .int) 2 := ⟨wd615, wd568, by decide +kernel⟩
theorem wd616 : Cond.instanceMethod ⟨"CopiedFireModel", "as", "(II)I"⟩ ∈ TB := TBm (tk5 (List.mem_of_getElem? (i := 146) (by decide +kernel))) rfl
theorem wd617 : Cond.selects "CopiedFireModel" ⟨"CopiedFireModel", "as", "(II)I"⟩ ⟨"CopiedFireModel", "as", "(II)I"⟩ ∈ TB := TBm (tk5 (List.mem_of_getElem? (i := 147) (by decide +kernel))) rfl
theorem ciX10_as : gCi yX10_as := ⟨wd616, wd617⟩
theorem wd618 : Cond.code ⟨"CopiedFireModel", "isUnder", "(II)Z"⟩ prog_12_method_18_code 2 (Option.some Jvm.ClassFile.FieldType.boolean) ∈ TB := TBm (tk5 (List.mem_of_getElem? (i := 151) (by decide +kernel))) rfl
theorem cwX10_isUnder : gCw yX10_isUnder cX10_isUnder 2 (some .boolean) 2 := ⟨wd618, wd568, by decide +kernel⟩
theorem wd619 : Cond.static ⟨"CopiedFireModel", "isUnder", "(II)Z"⟩ ∈ TB := TBm (tk5 (List.mem_of_getElem? (i := 150) (by decide +kernel))) rfl
theorem csX10_isUnder : gCs yX10_isUnder := wd619
theorem wd620 : Cond.code ⟨"CopiedFireModel", "turns", "(II)I"⟩ prog_12_method_20_code 3 (Option.some Jvm.ClassFile.FieldType.int) ∈ TB := TBm (tk5 (List.mem_of_getElem? (i := 156) (by decide +kernel))) rfl
theorem cwX10_turns : gCw yX10_turns cX10_turns 3 (some .int) 2 := ⟨wd620, wd568, by decide +kernel⟩
theorem wd621 : Cond.instanceMethod ⟨"CopiedFireModel", "turns", "(II)I"⟩ ∈ TB := TBm (tk5 (List.mem_of_getElem? (i := 154) (by decide +kernel))) rfl
theorem wd622 : Cond.selects "CopiedFireModel" ⟨"CopiedFireModel", "turns", "(II)I"⟩ ⟨"CopiedFireModel", "turns", "(II)I"⟩ ∈ TB := TBm (tk5 (List.mem_of_getElem? (i := 155) (by decide +kernel))) rfl
theorem ciX10_turns : gCi yX10_turns := ⟨wd621, wd622⟩
theorem wd623 : Cond.code ⟨"CopiedFireModel", "swaps", "(II)I"⟩ prog_12_method_9_code 4 (Option.some Jvm.ClassFile.FieldType.int) ∈ TB := TBm (tk5 (List.mem_of_getElem? (i := 160) (by decide +kernel))) rfl
theorem cwX10_swaps : gCw yX10_swaps cX10_swaps 4 (some .int) 2 := ⟨wd623, wd568, by decide +kernel⟩
theorem wd624 : Cond.instanceMethod ⟨"CopiedFireModel", "swaps", "(II)I"⟩ ∈ TB := TBm (tk5 (List.mem_of_getElem? (i := 159) (by decide +kernel))) rfl
theorem wd625 : Cond.selects "CopiedFireModel" ⟨"CopiedFireModel", "swaps", "(II)I"⟩ ⟨"CopiedFireModel", "swaps", "(II)I"⟩ ∈ TB := TBm (List.mem_of_getElem? (i := 38) (by decide +kernel)) rfl
theorem ciX10_swaps : gCi yX10_swaps := ⟨wd624, wd625⟩
theorem wd626 : Cond.code ⟨"CopiedFireModel", "set", "(III)I"⟩ prog_12_method_21_code 4 (Option.some Jvm.ClassFile.FieldType.int) ∈ TB := TBm (tk5 (List.mem_of_getElem? (i := 164) (by decide +kernel))) rfl
theorem cwX10_set : gCw yX10_set cX10_set 4 (some .int) 3 := ⟨wd626, wd568, by decide +kernel⟩
theorem wd627 : Cond.instanceMethod ⟨"CopiedFireModel", "set", "(III)I"⟩ ∈ TB := TBm (tk5 (List.mem_of_getElem? (i := 162) (by decide +kernel))) rfl
theorem wd628 : Cond.selects "CopiedFireModel" ⟨"CopiedFireModel", "set", "(III)I"⟩ ⟨"CopiedFireModel", "set", "(III)I"⟩ ∈ TB := TBm (tk5 (List.mem_of_getElem? (i := 163) (by decide +kernel))) rfl
theorem ciX10_set : gCi yX10_set := ⟨wd627, wd628⟩
theorem wd629 : Cond.code ⟨"CopiedFireModel", "deal", "(I)I"⟩ prog_12_method_23_code 6 (Option.some Jvm.ClassFile.FieldType.int) ∈ TB := TBm (tk5 (List.mem_of_getElem? (i := 168) (by decide +kernel))) rfl
theorem cwX10_deal : gCw yX10_deal cX10_deal 6 (some .int) 1 := ⟨wd629, wd568, by decide +kernel⟩
theorem wd630 : Cond.instanceMethod ⟨"CopiedFireModel", "deal", "(I)I"⟩ ∈ TB := TBm (tk5 (List.mem_of_getElem? (i := 166) (by decide +kernel))) rfl
theorem wd631 : Cond.selects "CopiedFireModel" ⟨"CopiedFireModel", "deal", "(I)I"⟩ ⟨"CopiedFireModel", "deal", "(I)I"⟩ ∈ TB := TBm (tk5 (List.mem_of_getElem? (i := 167) (by decide +kernel))) rfl
theorem ciX10_deal : gCi yX10_deal := ⟨wd630, wd631⟩
theorem wd632 : Cond.code ⟨"CopiedFireModel", "draw", "()I"⟩ prog_12_method_22_code 1 (Option.some Jvm.ClassFile.FieldType.int) ∈ TB := TBm (tk5 (List.mem_of_getElem? (i := 172) (by decide +kernel))) rfl
theorem cwX10_draw : gCw yX10_draw cX10_draw 1 (some .int) 0 := ⟨wd632, wd568, by decide +kernel⟩
theorem wd633 : Cond.instanceMethod ⟨"CopiedFireModel", "draw", "()I"⟩ ∈ TB := TBm (tk5 (List.mem_of_getElem? (i := 171) (by decide +kernel))) rfl
theorem wd634 : Cond.selects "CopiedFireModel" ⟨"CopiedFireModel", "draw", "()I"⟩ ⟨"CopiedFireModel", "draw", "()I"⟩ ∈ TB := TBm (List.mem_of_getElem? (i := 39) (by decide +kernel)) rfl
theorem ciX10_draw : gCi yX10_draw := ⟨wd633, wd634⟩
theorem wd635 : Cond.code ⟨"CopiedFireModel", "seed", "(I)I"⟩ prog_12_method_24_code 2 (Option.some Jvm.ClassFile.FieldType.int) ∈ TB := TBm (tk5 (List.mem_of_getElem? (i := 177) (by decide +kernel))) rfl
theorem cwX10_seed : gCw yX10_seed cX10_seed 2 (some .int) 1 := ⟨wd635, wd568, by decide +kernel⟩
theorem wd636 : Cond.instanceMethod ⟨"CopiedFireModel", "seed", "(I)I"⟩ ∈ TB := TBm (tk5 (List.mem_of_getElem? (i := 175) (by decide +kernel))) rfl
theorem wd637 : Cond.selects "CopiedFireModel" ⟨"CopiedFireModel", "seed", "(I)I"⟩ ⟨"CopiedFireModel", "seed", "(I)I"⟩ ∈ TB := TBm (tk5 (List.mem_of_getElem? (i := 176) (by decide +kernel))) rfl
theorem ciX10_seed : gCi yX10_seed := ⟨wd636, wd637⟩
theorem wd638 : Cond.code ⟨"CopiedFireModel", "heat", "(I)I"⟩ prog_12_method_25_code 2 (Option.some Jvm.ClassFile.FieldType.int) ∈ TB := TBm (tk5 (List.mem_of_getElem? (i := 181) (by decide +kernel))) rfl
theorem cwX10_heat : gCw yX10_heat cX10_heat 2 (some .int) 1 := ⟨wd638, wd568, by decide +kernel⟩
theorem wd639 : Cond.instanceMethod ⟨"CopiedFireModel", "heat", "(I)I"⟩ ∈ TB := TBm (tk5 (List.mem_of_getElem? (i := 179) (by decide +kernel))) rfl
theorem wd640 : Cond.selects "CopiedFireModel" ⟨"CopiedFireModel", "heat", "(I)I"⟩ ⟨"CopiedFireModel", "heat", "(I)I"⟩ ∈ TB := TBm (tk5 (List.mem_of_getElem? (i := 180) (by decide +kernel))) rfl
theorem ciX10_heat : gCi yX10_heat := ⟨wd639, wd640⟩
theorem wd641 : Cond.code ⟨"CopiedFireModel", "heats", "(II)I"⟩ prog_12_method_26_code 3 (Option.some Jvm.ClassFile.FieldType.int) ∈ TB := TBm (tk5 (List.mem_of_getElem? (i := 185) (by decide +kernel))) rfl
theorem cwX10_heats : gCw yX10_heats cX10_heats 3 (some .int) 2 := ⟨wd641, wd568, by decide +kernel⟩
theorem wd642 : Cond.instanceMethod ⟨"CopiedFireModel", "heats", "(II)I"⟩ ∈ TB := TBm (tk5 (List.mem_of_getElem? (i := 183) (by decide +kernel))) rfl
theorem wd643 : Cond.selects "CopiedFireModel" ⟨"CopiedFireModel", "heats", "(II)I"⟩ ⟨"CopiedFireModel", "heats", "(II)I"⟩ ∈ TB := TBm (tk5 (List.mem_of_getElem? (i := 184) (by decide +kernel))) rfl
theorem ciX10_heats : gCi yX10_heats := ⟨wd642, wd643⟩
theorem wd644 : Cond.code ⟨"CopiedFireModel", "door", "(III)I"⟩ prog_12_method_29_code 4 (Option.some Jvm.ClassFile.FieldType.int) ∈ TB := TBm (tk5 (List.mem_of_getElem? (i := 189) (by decide +kernel))) rfl
theorem cwX10_door : gCw yX10_door cX10_door 4 (some .int) 3 := ⟨wd644, wd568, by decide +kernel⟩
theorem wd645 : Cond.instanceMethod ⟨"CopiedFireModel", "door", "(III)I"⟩ ∈ TB := TBm (tk5 (List.mem_of_getElem? (i := 187) (by decide +kernel))) rfl
theorem wd646 : Cond.selects "CopiedFireModel" ⟨"CopiedFireModel", "door", "(III)I"⟩ ⟨"CopiedFireModel", "door", "(III)I"⟩ ∈ TB := TBm (tk5 (List.mem_of_getElem? (i := 188) (by decide +kernel))) rfl
theorem ciX10_door : gCi yX10_door := ⟨wd645, wd646⟩
theorem wd647 : Cond.code ⟨"CopiedFireModel", "areTwo", "(II)Z"⟩ prog_12_method_27_code 2 (Option.some Jvm.ClassFile.FieldType.boolean) ∈ TB := TBm (tk5 (List.mem_of_getElem? (i := 192) (by decide +kernel))) rfl
theorem cwX10_areTwo : gCw yX10_areTwo cX10_areTwo 2 (some .boolean) 2 := ⟨wd647, wd568, by decide +kernel⟩
theorem wd648 : Cond.static ⟨"CopiedFireModel", "areTwo", "(II)Z"⟩ ∈ TB := TBm (tk5 (List.mem_of_getElem? (i := 191) (by decide +kernel))) rfl
theorem csX10_areTwo : gCs yX10_areTwo := wd648
theorem wd649 : Cond.code ⟨"CopiedFireModel", "leaves", "(III)I"⟩ prog_12_method_28_code 4 (Option.some Jvm.ClassFile.FieldType.int) ∈ TB := TBm (tk5 (List.mem_of_getElem? (i := 196) (by decide +kernel))) rfl
theorem cwX10_leaves : gCw yX10_leaves cX10_leaves 4 (some .int) 3 := ⟨wd649, wd568, by decide +kernel⟩
theorem wd650 : Cond.instanceMethod ⟨"CopiedFireModel", "leaves", "(III)I"⟩ ∈ TB := TBm (tk5 (List.mem_of_getElem? (i := 195) (by decide +kernel))) rfl
theorem wd651 : Cond.selects "CopiedFireModel" ⟨"CopiedFireModel", "leaves", "(III)I"⟩ ⟨"CopiedFireModel", "leaves", "(III)I"⟩ ∈ TB := TBm (List.mem_of_getElem? (i := 40) (by decide +kernel)) rfl
theorem ciX10_leaves : gCi yX10_leaves := ⟨wd650, wd651⟩
theorem wd652 : Cond.code ⟨"CopiedFireModel", "doorTold", "(II)I"⟩ prog_12_method_30_code 3 (Option.some Jvm.ClassFile.FieldType.int) ∈ TB := TBm (tk5 (List.mem_of_getElem? (i := 200) (by decide +kernel))) rfl
theorem cwX10_doorTold : gCw yX10_doorTold cX10_doorTold 3 (some .int) 2 := ⟨wd652, wd568, by decide +kernel⟩
theorem wd653 : Cond.instanceMethod ⟨"CopiedFireModel", "doorTold", "(II)I"⟩ ∈ TB := TBm (tk5 (List.mem_of_getElem? (i := 198) (by decide +kernel))) rfl
theorem wd654 : Cond.selects "CopiedFireModel" ⟨"CopiedFireModel", "doorTold", "(II)I"⟩ ⟨"CopiedFireModel", "doorTold", "(II)I"⟩ ∈ TB := TBm (tk5 (List.mem_of_getElem? (i := 199) (by decide +kernel))) rfl
theorem ciX10_doorTold : gCi yX10_doorTold := ⟨wd653, wd654⟩
theorem wd655 : Cond.code ⟨"CopiedFireModel", "rule", "(II)I"⟩ prog_12_method_31_code 3 (Option.some Jvm.ClassFile.FieldType.int) ∈ TB := TBm (tk5 (List.mem_of_getElem? (i := 204) (by decide +kernel))) rfl
theorem cwX10_rule : gCw yX10_rule cX10_rule 3 (some .int) 2 := ⟨wd655, wd568, by decide +kernel⟩
theorem wd656 : Cond.instanceMethod ⟨"CopiedFireModel", "rule", "(II)I"⟩ ∈ TB := TBm (tk5 (List.mem_of_getElem? (i := 202) (by decide +kernel))) rfl
theorem wd657 : Cond.selects "CopiedFireModel" ⟨"CopiedFireModel", "rule", "(II)I"⟩ ⟨"CopiedFireModel", "rule", "(II)I"⟩ ∈ TB := TBm (tk5 (List.mem_of_getElem? (i := 203) (by decide +kernel))) rfl
theorem ciX10_rule : gCi yX10_rule := ⟨wd656, wd657⟩
theorem wd658 : Cond.code ⟨"CopiedFireModel", "visitor", "(I)I"⟩ prog_12_method_32_code 2 (Option.some Jvm.ClassFile.FieldType.int) ∈ TB := TBm (tk5 (List.mem_of_getElem? (i := 208) (by decide +kernel))) rfl
theorem cwX10_visitor : gCw yX10_visitor cX10_visitor 2 (some .int) 1 := ⟨wd658, wd568, by decide +kernel⟩
theorem wd659 : Cond.instanceMethod ⟨"CopiedFireModel", "visitor", "(I)I"⟩ ∈ TB := TBm (tk5 (List.mem_of_getElem? (i := 206) (by decide +kernel))) rfl
theorem wd660 : Cond.selects "CopiedFireModel" ⟨"CopiedFireModel", "visitor", "(I)I"⟩ ⟨"CopiedFireModel", "visitor", "(I)I"⟩ ∈ TB := TBm (tk5 (List.mem_of_getElem? (i := 207) (by decide +kernel))) rfl
theorem ciX10_visitor : gCi yX10_visitor := ⟨wd659, wd660⟩
theorem wd661 : Cond.code ⟨"CopiedFireModel", "likes", "(II)I"⟩ prog_12_method_33_code 3 (Option.some Jvm.ClassFile.FieldType.int) ∈ TB := TBm (tk5 (List.mem_of_getElem? (i := 212) (by decide +kernel))) rfl
theorem cwX10_likes : gCw yX10_likes cX10_likes 3 (some .int) 2 := ⟨wd661, wd568, by decide +kernel⟩
theorem wd662 : Cond.instanceMethod ⟨"CopiedFireModel", "likes", "(II)I"⟩ ∈ TB := TBm (tk5 (List.mem_of_getElem? (i := 210) (by decide +kernel))) rfl
theorem wd663 : Cond.selects "CopiedFireModel" ⟨"CopiedFireModel", "likes", "(II)I"⟩ ⟨"CopiedFireModel", "likes", "(II)I"⟩ ∈ TB := TBm (tk5 (List.mem_of_getElem? (i := 211) (by decide +kernel))) rfl
theorem ciX10_likes : gCi yX10_likes := ⟨wd662, wd663⟩
theorem wd664 : Cond.code ⟨"CopiedFireModel", "seats", "(I)I"⟩ prog_12_method_35_code 2 (Option.some Jvm.ClassFile.FieldType.int) ∈ TB := TBm (tk5 (List.mem_of_getElem? (i := 216) (by decide +kernel))) rfl
theorem cwX10_seats : gCw yX10_seats cX10_seats 2 (some .int) 1 := ⟨wd664, wd568, by decide +kernel⟩
theorem wd665 : Cond.instanceMethod ⟨"CopiedFireModel", "seats", "(I)I"⟩ ∈ TB := TBm (tk5 (List.mem_of_getElem? (i := 214) (by decide +kernel))) rfl
theorem wd666 : Cond.selects "CopiedFireModel" ⟨"CopiedFireModel", "seats", "(I)I"⟩ ⟨"CopiedFireModel", "seats", "(I)I"⟩ ∈ TB := TBm (tk5 (List.mem_of_getElem? (i := 215) (by decide +kernel))) rfl
theorem ciX10_seats : gCi yX10_seats := ⟨wd665, wd666⟩
theorem wd667 : Cond.code ⟨"CopiedFireModel", "gives", "(III)V"⟩ prog_12_method_34_code 5 (Option.none : Option Jvm.ClassFile.FieldType) ∈ TB := TBm (tk5 (List.mem_of_getElem? (i := 220) (by decide +kernel))) rfl
theorem cwX10_gives : gCw yX10_gives cX10_gives 5 none 3 := ⟨wd667, wd568, by decide +kernel⟩
theorem wd668 : Cond.instanceMethod ⟨"CopiedFireModel", "gives", "(III)V"⟩ ∈ TB := TBm (tk5 (List.mem_of_getElem? (i := 219) (by decide +kernel))) rfl
theorem wd669 : Cond.selects "CopiedFireModel" ⟨"CopiedFireModel", "gives", "(III)V"⟩ ⟨"CopiedFireModel", "gives", "(III)V"⟩ ∈ TB := TBm (List.mem_of_getElem? (i := 41) (by decide +kernel)) rfl
theorem ciX10_gives : gCi yX10_gives := ⟨wd668, wd669⟩
theorem wd670 : Cond.code ⟨"CopiedFireModel", "way", "(II)I"⟩ prog_12_method_36_code 7 (Option.some Jvm.ClassFile.FieldType.int) ∈ TB := TBm (tk5 (List.mem_of_getElem? (i := 225) (by decide +kernel))) rfl
theorem cwX10_way : gCw yX10_way cX10_way 7 (some .int) 2 := ⟨wd670, wd568, by decide +kernel⟩
theorem wd671 : Cond.instanceMethod ⟨"CopiedFireModel", "way", "(II)I"⟩ ∈ TB := TBm (tk5 (List.mem_of_getElem? (i := 223) (by decide +kernel))) rfl
theorem wd672 : Cond.selects "CopiedFireModel" ⟨"CopiedFireModel", "way", "(II)I"⟩ ⟨"CopiedFireModel", "way", "(II)I"⟩ ∈ TB := TBm (tk5 (List.mem_of_getElem? (i := 224) (by decide +kernel))) rfl
theorem ciX10_way : gCi yX10_way := ⟨wd671, wd672⟩
theorem wd673 : Cond.code ⟨"CopiedFireModel", "minutes", "(I)I"⟩ prog_12_method_46_code 3 (Option.some Jvm.ClassFile.FieldType.int) ∈ TB := TBm (tk5 (List.mem_of_getElem? (i := 229) (by decide +kernel))) rfl
theorem cwX10_minutes : gCw yX10_minutes cX10_minutes 3 (some .int) 1 := ⟨wd673, wd568, by decide +kernel⟩
theorem wd674 : Cond.instanceMethod ⟨"CopiedFireModel", "minutes", "(I)I"⟩ ∈ TB := TBm (tk5 (List.mem_of_getElem? (i := 227) (by decide +kernel))) rfl
theorem wd675 : Cond.selects "CopiedFireModel" ⟨"CopiedFireModel", "minutes", "(I)I"⟩ ⟨"CopiedFireModel", "minutes", "(I)I"⟩ ∈ TB := TBm (tk5 (List.mem_of_getElem? (i := 228) (by decide +kernel))) rfl
theorem ciX10_minutes : gCi yX10_minutes := ⟨wd674, wd675⟩
theorem wd676 : Cond.code ⟨"CopiedFireModel", "goesOn", "(I)V"⟩ prog_12_method_42_code 3 (Option.none : Option Jvm.ClassFile.FieldType) ∈ TB := TBm (tk5 (List.mem_of_getElem? (i := 233) (by decide +kernel))) rfl
theorem cwX10_goesOn : gCw yX10_goesOn cX10_goesOn 3 none 1 := ⟨wd676, wd568, by decide +kernel⟩
theorem wd677 : Cond.instanceMethod ⟨"CopiedFireModel", "goesOn", "(I)V"⟩ ∈ TB := TBm (tk5 (List.mem_of_getElem? (i := 232) (by decide +kernel))) rfl
theorem wd678 : Cond.selects "CopiedFireModel" ⟨"CopiedFireModel", "goesOn", "(I)V"⟩ ⟨"CopiedFireModel", "goesOn", "(I)V"⟩ ∈ TB := TBm (List.mem_of_getElem? (i := 42) (by decide +kernel)) rfl
theorem ciX10_goesOn : gCi yX10_goesOn := ⟨wd677, wd678⟩
theorem wd679 : Cond.code ⟨"CopiedFireModel", "minute", "()V"⟩ prog_12_method_41_code 2 (Option.none : Option Jvm.ClassFile.FieldType) ∈ TB := TBm (tk5 (List.mem_of_getElem? (i := 237) (by decide +kernel))) rfl
theorem cwX10_minute : gCw yX10_minute cX10_minute 2 none 0 := ⟨wd679, wd568, by decide +kernel⟩
theorem wd680 : Cond.instanceMethod ⟨"CopiedFireModel", "minute", "()V"⟩ ∈ TB := TBm (tk5 (List.mem_of_getElem? (i := 236) (by decide +kernel))) rfl
theorem wd681 : Cond.selects "CopiedFireModel" ⟨"CopiedFireModel", "minute", "()V"⟩ ⟨"CopiedFireModel", "minute", "()V"⟩ ∈ TB := TBm (List.mem_of_getElem? (i := 43) (by decide +kernel)) rfl
theorem ciX10_minute : gCi yX10_minute := ⟨wd680, wd681⟩
theorem wd682 : Cond.code ⟨"CopiedFireModel", "burns", "(I)V"⟩ prog_12_method_37_code 5 (Option.none : Option Jvm.ClassFile.FieldType) ∈ TB := TBm (tk6 (List.mem_of_getElem? (i := 1) (by decide +kernel))) rfl
theorem cwX10_burns : gCw yX10_burns cX10_burns 5 none 1 := ⟨wd682, wd568, by decide +kernel⟩
theorem wd683 : Cond.instanceMethod ⟨"CopiedFireModel", "burns", "(I)V"⟩ ∈ TB := TBm (tk6 (List.mem_of_getElem? (i := 0) (by decide +kernel))) rfl
theorem wd684 : Cond.selects "CopiedFireModel" ⟨"CopiedFireModel", "burns", "(I)V"⟩ ⟨"CopiedFireModel", "burns", "(I)V"⟩ ∈ TB := TBm (List.mem_of_getElem? (i := 44) (by decide +kernel)) rfl
theorem ciX10_burns : gCi yX10_burns := ⟨wd683, wd684⟩
theorem wd685 : Cond.code ⟨"CopiedFireModel", "evens", "()V"⟩ prog_12_method_38_code 4 (Option.none : Option Jvm.ClassFile.FieldType) ∈ TB := TBm (tk6 (List.mem_of_getElem? (i := 5) (by decide +kernel))) rfl
theorem cwX10_evens : gCw yX10_evens cX10_evens 4 none 0 := ⟨wd685, wd568, by decide +kernel⟩
theorem wd686 : Cond.instanceMethod ⟨"CopiedFireModel", "evens", "()V"⟩ ∈ TB := TBm (tk6 (List.mem_of_getElem? (i := 4) (by decide +kernel))) rfl
theorem wd687 : Cond.selects "CopiedFireModel" ⟨"CopiedFireModel", "evens", "()V"⟩ ⟨"CopiedFireModel", "evens", "()V"⟩ ∈ TB := TBm (List.mem_of_getElem? (i := 45) (by decide +kernel)) rfl
theorem ciX10_evens : gCi yX10_evens := ⟨wd686, wd687⟩
theorem wd688 : Cond.code ⟨"CopiedFireModel", "catches", "()V"⟩ prog_12_method_39_code 3 (Option.none : Option Jvm.ClassFile.FieldType) ∈ TB := TBm (tk6 (List.mem_of_getElem? (i := 9) (by decide +kernel))) rfl
theorem cwX10_catches : gCw yX10_catches cX10_catches 3 none 0 := ⟨wd688, wd568, by decide +kernel⟩
theorem wd689 : Cond.instanceMethod ⟨"CopiedFireModel", "catches", "()V"⟩ ∈ TB := TBm (tk6 (List.mem_of_getElem? (i := 8) (by decide +kernel))) rfl
theorem wd690 : Cond.selects "CopiedFireModel" ⟨"CopiedFireModel", "catches", "()V"⟩ ⟨"CopiedFireModel", "catches", "()V"⟩ ∈ TB := TBm (List.mem_of_getElem? (i := 46) (by decide +kernel)) rfl
theorem ciX10_catches : gCi yX10_catches := ⟨wd689, wd690⟩
theorem wd691 : Cond.code ⟨"CopiedFireModel", "blows", "()V"⟩ prog_12_method_40_code 4 (Option.none : Option Jvm.ClassFile.FieldType) ∈ TB := TBm (tk6 (List.mem_of_getElem? (i := 13) (by decide +kernel))) rfl
theorem cwX10_blows : gCw yX10_blows cX10_blows 4 none 0 := ⟨wd691, wd568, by decide +kernel⟩
theorem wd692 : Cond.instanceMethod ⟨"CopiedFireModel", "blows", "()V"⟩ ∈ TB := TBm (tk6 (List.mem_of_getElem? (i := 12) (by decide +kernel))) rfl
theorem wd693 : Cond.selects "CopiedFireModel" ⟨"CopiedFireModel", "blows", "()V"⟩ ⟨"CopiedFireModel", "blows", "()V"⟩ ∈ TB := TBm (List.mem_of_getElem? (i := 47) (by decide +kernel)) rfl
theorem ciX10_blows : gCi yX10_blows := ⟨wd692, wd693⟩
theorem wd694 : Cond.code ⟨"CopiedFireModel", "house", "(I)I"⟩ prog_12_method_47_code 2 (Option.some Jvm.ClassFile.FieldType.int) ∈ TB := TBm (tk6 (List.mem_of_getElem? (i := 17) (by decide +kernel))) rfl
theorem cwX10_house : gCw yX10_house cX10_house 2 (some .int) 1 := ⟨wd694, wd568, by decide +kernel⟩
theorem wd695 : Cond.instanceMethod ⟨"CopiedFireModel", "house", "(I)I"⟩ ∈ TB := TBm (tk6 (List.mem_of_getElem? (i := 15) (by decide +kernel))) rfl
theorem wd696 : Cond.selects "CopiedFireModel" ⟨"CopiedFireModel", "house", "(I)I"⟩ ⟨"CopiedFireModel", "house", "(I)I"⟩ ∈ TB := TBm (tk6 (List.mem_of_getElem? (i := 16) (by decide +kernel))) rfl
theorem ciX10_house : gCi yX10_house := ⟨wd695, wd696⟩
theorem wd697 : Cond.code ⟨"CopiedFireModel", "lit", "()I"⟩ prog_12_method_44_code 3 (Option.some Jvm.ClassFile.FieldType.int) ∈ TB := TBm (tk6 (List.mem_of_getElem? (i := 21) (by decide +kernel))) rfl
theorem cwX10_lit : gCw yX10_lit cX10_lit 3 (some .int) 0 := ⟨wd697, wd568, by decide +kernel⟩
theorem wd698 : Cond.instanceMethod ⟨"CopiedFireModel", "lit", "()I"⟩ ∈ TB := TBm (tk6 (List.mem_of_getElem? (i := 20) (by decide +kernel))) rfl
theorem wd699 : Cond.selects "CopiedFireModel" ⟨"CopiedFireModel", "lit", "()I"⟩ ⟨"CopiedFireModel", "lit", "()I"⟩ ∈ TB := TBm (List.mem_of_getElem? (i := 48) (by decide +kernel)) rfl
theorem ciX10_lit : gCi yX10_lit := ⟨wd698, wd699⟩
theorem wd700 : Cond.code ⟨"CopiedFireModel", "allHeat", "()I"⟩ prog_12_method_43_code 3 (Option.some Jvm.ClassFile.FieldType.int) ∈ TB := TBm (tk6 (List.mem_of_getElem? (i := 25) (by decide +kernel))) rfl
theorem cwX10_allHeat : gCw yX10_allHeat cX10_allHeat 3 (some .int) 0 := ⟨wd700, wd568, by decide +kernel⟩
theorem wd701 : Cond.instanceMethod ⟨"CopiedFireModel", "allHeat", "()I"⟩ ∈ TB := TBm (tk6 (List.mem_of_getElem? (i := 24) (by decide +kernel))) rfl
theorem wd702 : Cond.selects "CopiedFireModel" ⟨"CopiedFireModel", "allHeat", "()I"⟩ ⟨"CopiedFireModel", "allHeat", "()I"⟩ ∈ TB := TBm (List.mem_of_getElem? (i := 49) (by decide +kernel)) rfl
theorem ciX10_allHeat : gCi yX10_allHeat := ⟨wd701, wd702⟩
theorem wd703 : Cond.code ⟨"CopiedFireModel", "behind", "(II)I"⟩ prog_12_method_50_code 4 (Option.some Jvm.ClassFile.FieldType.int) ∈ TB := TBm (tk6 (List.mem_of_getElem? (i := 29) (by decide +kernel))) rfl
theorem cwX10_behind : gCw yX10_behind cX10_behind 4 (some .int) 2 := ⟨wd703, wd568, by decide +kernel⟩
theorem wd704 : Cond.instanceMethod ⟨"CopiedFireModel", "behind", "(II)I"⟩ ∈ TB := TBm (tk6 (List.mem_of_getElem? (i := 27) (by decide +kernel))) rfl
theorem wd705 : Cond.selects "CopiedFireModel" ⟨"CopiedFireModel", "behind", "(II)I"⟩ ⟨"CopiedFireModel", "behind", "(II)I"⟩ ∈ TB := TBm (tk6 (List.mem_of_getElem? (i := 28) (by decide +kernel))) rfl
theorem ciX10_behind : gCi yX10_behind := ⟨wd704, wd705⟩
theorem wd706 : Cond.code ⟨"CopiedFireModel", "thinks", "()V"⟩ prog_12_method_48_code 1 (Option.none : Option Jvm.ClassFile.FieldType) ∈ TB := TBm (tk6 (List.mem_of_getElem? (i := 33) (by decide +kernel))) rfl
theorem cwX10_thinks : gCw yX10_thinks cX10_thinks 1 none 0 := ⟨wd706, wd568, by decide +kernel⟩
theorem wd707 : Cond.instanceMethod ⟨"CopiedFireModel", "thinks", "()V"⟩ ∈ TB := TBm (tk6 (List.mem_of_getElem? (i := 32) (by decide +kernel))) rfl
theorem wd708 : Cond.selects "CopiedFireModel" ⟨"CopiedFireModel", "thinks", "()V"⟩ ⟨"CopiedFireModel", "thinks", "()V"⟩ ∈ TB := TBm (List.mem_of_getElem? (i := 50) (by decide +kernel)) rfl
theorem ciX10_thinks : gCi yX10_thinks := ⟨wd707, wd708⟩
theorem wd709 : Cond.code ⟨"CopiedFireModel", "copyAll", "([I[I)V"⟩ prog_12_method_4_code 3 (Option.none : Option Jvm.ClassFile.FieldType) ∈ TB := TBm (tk6 (List.mem_of_getElem? (i := 36) (by decide +kernel))) rfl
theorem cwX10_copyAll : gCw yX10_copyAll cX10_copyAll 3 none 2 := ⟨wd709, wd568, by decide +kernel⟩
theorem wd710 : Cond.static ⟨"CopiedFireModel", "copyAll", "([I[I)V"⟩ ∈ TB := TBm (tk6 (List.mem_of_getElem? (i := 35) (by decide +kernel))) rfl
theorem csX10_copyAll : gCs yX10_copyAll := wd710
theorem wd711 : Cond.code ⟨"CopiedFireModel", "putsBack", "()V"⟩ prog_12_method_49_code 1 (Option.none : Option Jvm.ClassFile.FieldType) ∈ TB := TBm (tk6 (List.mem_of_getElem? (i := 40) (by decide +kernel))) rfl
theorem cwX10_putsBack : gCw yX10_putsBack cX10_putsBack 1 none 0 := ⟨wd711, wd568, by decide +kernel⟩
theorem wd712 : Cond.instanceMethod ⟨"CopiedFireModel", "putsBack", "()V"⟩ ∈ TB := TBm (tk6 (List.mem_of_getElem? (i := 39) (by decide +kernel))) rfl
theorem wd713 : Cond.selects "CopiedFireModel" ⟨"CopiedFireModel", "putsBack", "()V"⟩ ⟨"CopiedFireModel", "putsBack", "()V"⟩ ∈ TB := TBm (List.mem_of_getElem? (i := 51) (by decide +kernel)) rfl
theorem ciX10_putsBack : gCi yX10_putsBack := ⟨wd712, wd713⟩
theorem wd714 : Cond.code ⟨"CopiedFireModel", "out", "()I"⟩ prog_12_method_51_code 2 (Option.some Jvm.ClassFile.FieldType.int) ∈ TB := TBm (tk6 (List.mem_of_getElem? (i := 44) (by decide +kernel))) rfl
theorem cwX10_out : gCw yX10_out cX10_out 2 (some .int) 0 := ⟨wd714, wd568, by decide +kernel⟩
theorem wd715 : Cond.instanceMethod ⟨"CopiedFireModel", "out", "()I"⟩ ∈ TB := TBm (tk6 (List.mem_of_getElem? (i := 42) (by decide +kernel))) rfl
theorem wd716 : Cond.selects "CopiedFireModel" ⟨"CopiedFireModel", "out", "()I"⟩ ⟨"CopiedFireModel", "out", "()I"⟩ ∈ TB := TBm (tk6 (List.mem_of_getElem? (i := 43) (by decide +kernel))) rfl
theorem ciX10_out : gCi yX10_out := ⟨wd715, wd716⟩
theorem wd717 : Cond.code ⟨"CopiedFireModel", "hot", "(I)I"⟩ prog_12_method_52_code 3 (Option.some Jvm.ClassFile.FieldType.int) ∈ TB := TBm (tk6 (List.mem_of_getElem? (i := 48) (by decide +kernel))) rfl
theorem cwX10_hot : gCw yX10_hot cX10_hot 3 (some .int) 1 := ⟨wd717, wd568, by decide +kernel⟩
theorem wd718 : Cond.instanceMethod ⟨"CopiedFireModel", "hot", "(I)I"⟩ ∈ TB := TBm (tk6 (List.mem_of_getElem? (i := 46) (by decide +kernel))) rfl
theorem wd719 : Cond.selects "CopiedFireModel" ⟨"CopiedFireModel", "hot", "(I)I"⟩ ⟨"CopiedFireModel", "hot", "(I)I"⟩ ∈ TB := TBm (tk6 (List.mem_of_getElem? (i := 47) (by decide +kernel))) rfl
theorem ciX10_hot : gCi yX10_hot := ⟨wd718, wd719⟩
theorem wd720 : Cond.code ⟨"CopiedFireModel", "shut", "(II)I"⟩ prog_12_method_54_code 8 (Option.some Jvm.ClassFile.FieldType.int) ∈ TB := TBm (tk6 (List.mem_of_getElem? (i := 52) (by decide +kernel))) rfl
theorem cwX10_shut : gCw yX10_shut cX10_shut 8 (some .int) 2 := ⟨wd720, wd568, by decide +kernel⟩
theorem wd721 : Cond.instanceMethod ⟨"CopiedFireModel", "shut", "(II)I"⟩ ∈ TB := TBm (tk6 (List.mem_of_getElem? (i := 50) (by decide +kernel))) rfl
theorem wd722 : Cond.selects "CopiedFireModel" ⟨"CopiedFireModel", "shut", "(II)I"⟩ ⟨"CopiedFireModel", "shut", "(II)I"⟩ ∈ TB := TBm (tk6 (List.mem_of_getElem? (i := 51) (by decide +kernel))) rfl
theorem ciX10_shut : gCi yX10_shut := ⟨wd721, wd722⟩
theorem wd723 : Cond.code ⟨"CopiedFireModel", "burntBy", "(I)I"⟩ prog_12_method_53_code 3 (Option.some Jvm.ClassFile.FieldType.int) ∈ TB := TBm (tk6 (List.mem_of_getElem? (i := 56) (by decide +kernel))) rfl
theorem cwX10_burntBy : gCw yX10_burntBy cX10_burntBy 3 (some .int) 1 := ⟨wd723, wd568, by decide +kernel⟩
theorem wd724 : Cond.instanceMethod ⟨"CopiedFireModel", "burntBy", "(I)I"⟩ ∈ TB := TBm (tk6 (List.mem_of_getElem? (i := 55) (by decide +kernel))) rfl
theorem wd725 : Cond.selects "CopiedFireModel" ⟨"CopiedFireModel", "burntBy", "(I)I"⟩ ⟨"CopiedFireModel", "burntBy", "(I)I"⟩ ∈ TB := TBm (List.mem_of_getElem? (i := 52) (by decide +kernel)) rfl
theorem ciX10_burntBy : gCi yX10_burntBy := ⟨wd724, wd725⟩
theorem wd726 : Cond.code ⟨"CopiedFireModel", "hired", "(II)I"⟩ prog_12_method_55_code 7 (Option.some Jvm.ClassFile.FieldType.int) ∈ TB := TBm (tk6 (List.mem_of_getElem? (i := 60) (by decide +kernel))) rfl
theorem cwX10_hired : gCw yX10_hired cX10_hired 7 (some .int) 2 := ⟨wd726, wd568, by decide +kernel⟩
theorem wd727 : Cond.instanceMethod ⟨"CopiedFireModel", "hired", "(II)I"⟩ ∈ TB := TBm (tk6 (List.mem_of_getElem? (i := 58) (by decide +kernel))) rfl
theorem wd728 : Cond.selects "CopiedFireModel" ⟨"CopiedFireModel", "hired", "(II)I"⟩ ⟨"CopiedFireModel", "hired", "(II)I"⟩ ∈ TB := TBm (tk6 (List.mem_of_getElem? (i := 59) (by decide +kernel))) rfl
theorem ciX10_hired : gCi yX10_hired := ⟨wd727, wd728⟩
theorem wd729 : Cond.code ⟨"CopiedFireModel", "becomes", "(III)I"⟩ prog_12_method_56_code 9 (Option.some Jvm.ClassFile.FieldType.int) ∈ TB := TBm (tk6 (List.mem_of_getElem? (i := 64) (by decide +kernel))) rfl
theorem cwX10_becomes : gCw yX10_becomes cX10_becomes 9 (some .int) 3 := ⟨wd729, wd568, by decide +kernel⟩
theorem wd730 : Cond.instanceMethod ⟨"CopiedFireModel", "becomes", "(III)I"⟩ ∈ TB := TBm (tk6 (List.mem_of_getElem? (i := 62) (by decide +kernel))) rfl
theorem wd731 : Cond.selects "CopiedFireModel" ⟨"CopiedFireModel", "becomes", "(III)I"⟩ ⟨"CopiedFireModel", "becomes", "(III)I"⟩ ∈ TB := TBm (tk6 (List.mem_of_getElem? (i := 63) (by decide +kernel))) rfl
theorem ciX10_becomes : gCi yX10_becomes := ⟨wd730, wd731⟩
theorem wd732 : Cond.code ⟨"CopiedFireModel", "began", "(I)I"⟩ prog_12_method_58_code 5 (Option.some Jvm.ClassFile.FieldType.int) ∈ TB := TBm (tk6 (List.mem_of_getElem? (i := 68) (by decide +kernel))) rfl
theorem cwX10_began : gCw yX10_began cX10_began 5 (some .int) 1 := ⟨wd732, wd568, by decide +kernel⟩
theorem wd733 : Cond.instanceMethod ⟨"CopiedFireModel", "began", "(I)I"⟩ ∈ TB := TBm (tk6 (List.mem_of_getElem? (i := 66) (by decide +kernel))) rfl
theorem wd734 : Cond.selects "CopiedFireModel" ⟨"CopiedFireModel", "began", "(I)I"⟩ ⟨"CopiedFireModel", "began", "(I)I"⟩ ∈ TB := TBm (tk6 (List.mem_of_getElem? (i := 67) (by decide +kernel))) rfl
theorem ciX10_began : gCi yX10_began := ⟨wd733, wd734⟩
theorem wd735 : Cond.code ⟨"CopiedFireModel", "isSheet", "(I)Z"⟩ prog_12_method_81_code 1 (Option.some Jvm.ClassFile.FieldType.boolean) ∈ TB := TBm (tk6 (List.mem_of_getElem? (i := 71) (by decide +kernel))) rfl
theorem cwX10_isSheet : gCw yX10_isSheet cX10_isSheet 1 (some .boolean) 1 := ⟨wd735, wd568, by decide +kernel⟩
theorem wd736 : Cond.static ⟨"CopiedFireModel", "isSheet", "(I)Z"⟩ ∈ TB := TBm (tk6 (List.mem_of_getElem? (i := 70) (by decide +kernel))) rfl
theorem csX10_isSheet : gCs yX10_isSheet := wd736
theorem wd737 : Cond.code ⟨"CopiedFireModel", "isSo", "(I)Z"⟩ prog_12_method_57_code 5 (Option.some Jvm.ClassFile.FieldType.boolean) ∈ TB := TBm (tk6 (List.mem_of_getElem? (i := 76) (by decide +kernel))) rfl
theorem cwX10_isSo : gCw yX10_isSo cX10_isSo 5 (some .boolean) 1 := ⟨wd737, wd568, by decide +kernel⟩
theorem wd738 : Cond.instanceMethod ⟨"CopiedFireModel", "isSo", "(I)Z"⟩ ∈ TB := TBm (tk6 (List.mem_of_getElem? (i := 75) (by decide +kernel))) rfl
theorem wd739 : Cond.selects "CopiedFireModel" ⟨"CopiedFireModel", "isSo", "(I)Z"⟩ ⟨"CopiedFireModel", "isSo", "(I)Z"⟩ ∈ TB := TBm (List.mem_of_getElem? (i := 53) (by decide +kernel)) rfl
theorem ciX10_isSo : gCi yX10_isSo := ⟨wd738, wd739⟩
theorem wd740 : Cond.code ⟨"CopiedFireModel", "bits", "(I)I"⟩ prog_12_method_45_code 3 (Option.some Jvm.ClassFile.FieldType.int) ∈ TB := TBm (tk6 (List.mem_of_getElem? (i := 79) (by decide +kernel))) rfl
theorem cwX10_bits : gCw yX10_bits cX10_bits 3 (some .int) 1 := ⟨wd740, wd568, by decide +kernel⟩
theorem wd741 : Cond.static ⟨"CopiedFireModel", "bits", "(I)I"⟩ ∈ TB := TBm (tk6 (List.mem_of_getElem? (i := 78) (by decide +kernel))) rfl
theorem csX10_bits : gCs yX10_bits := wd741
theorem wd742 : Cond.code ⟨"CopiedFireModel", "like", "(II)I"⟩ prog_12_method_59_code 7 (Option.some Jvm.ClassFile.FieldType.int) ∈ TB := TBm (tk6 (List.mem_of_getElem? (i := 83) (by decide +kernel))) rfl
theorem cwX10_like : gCw yX10_like cX10_like 7 (some .int) 2 := ⟨wd742, wd568, by decide +kernel⟩
theorem wd743 : Cond.instanceMethod ⟨"CopiedFireModel", "like", "(II)I"⟩ ∈ TB := TBm (tk6 (List.mem_of_getElem? (i := 81) (by decide +kernel))) rfl
theorem wd744 : Cond.selects "CopiedFireModel" ⟨"CopiedFireModel", "like", "(II)I"⟩ ⟨"CopiedFireModel", "like", "(II)I"⟩ ∈ TB := TBm (tk6 (List.mem_of_getElem? (i := 82) (by decide +kernel))) rfl
theorem ciX10_like : gCi yX10_like := ⟨wd743, wd744⟩
theorem wd745 : Cond.code ⟨"CopiedFireModel", "fee", "()I"⟩ prog_12_method_60_code 2 (Option.some Jvm.ClassFile.FieldType.int) ∈ TB := TBm (tk6 (List.mem_of_getElem? (i := 87) (by decide +kernel))) rfl
theorem cwX10_fee : gCw yX10_fee cX10_fee 2 (some .int) 0 := ⟨wd745, wd568, by decide +kernel⟩
theorem wd746 : Cond.instanceMethod ⟨"CopiedFireModel", "fee", "()I"⟩ ∈ TB := TBm (tk6 (List.mem_of_getElem? (i := 85) (by decide +kernel))) rfl
theorem wd747 : Cond.selects "CopiedFireModel" ⟨"CopiedFireModel", "fee", "()I"⟩ ⟨"CopiedFireModel", "fee", "()I"⟩ ∈ TB := TBm (tk6 (List.mem_of_getElem? (i := 86) (by decide +kernel))) rfl
theorem ciX10_fee : gCi yX10_fee := ⟨wd746, wd747⟩
theorem wd748 : Cond.code ⟨"CopiedFireModel", "fine", "(I)I"⟩ prog_12_method_61_code 3 (Option.some Jvm.ClassFile.FieldType.int) ∈ TB := TBm (tk6 (List.mem_of_getElem? (i := 91) (by decide +kernel))) rfl
theorem cwX10_fine : gCw yX10_fine cX10_fine 3 (some .int) 1 := ⟨wd748, wd568, by decide +kernel⟩
theorem wd749 : Cond.instanceMethod ⟨"CopiedFireModel", "fine", "(I)I"⟩ ∈ TB := TBm (tk6 (List.mem_of_getElem? (i := 89) (by decide +kernel))) rfl
theorem wd750 : Cond.selects "CopiedFireModel" ⟨"CopiedFireModel", "fine", "(I)I"⟩ ⟨"CopiedFireModel", "fine", "(I)I"⟩ ∈ TB := TBm (tk6 (List.mem_of_getElem? (i := 90) (by decide +kernel))) rfl
theorem ciX10_fine : gCi yX10_fine := ⟨wd749, wd750⟩
theorem wd751 : Cond.code ⟨"CopiedFireModel", "feed", "(III)I"⟩ prog_12_method_62_code 6 (Option.some Jvm.ClassFile.FieldType.int) ∈ TB := TBm (tk6 (List.mem_of_getElem? (i := 95) (by decide +kernel))) rfl
theorem cwX10_feed : gCw yX10_feed cX10_feed 6 (some .int) 3 := ⟨wd751, wd568, by decide +kernel⟩
theorem wd752 : Cond.instanceMethod ⟨"CopiedFireModel", "feed", "(III)I"⟩ ∈ TB := TBm (tk6 (List.mem_of_getElem? (i := 93) (by decide +kernel))) rfl
theorem wd753 : Cond.selects "CopiedFireModel" ⟨"CopiedFireModel", "feed", "(III)I"⟩ ⟨"CopiedFireModel", "feed", "(III)I"⟩ ∈ TB := TBm (tk6 (List.mem_of_getElem? (i := 94) (by decide +kernel))) rfl
theorem ciX10_feed : gCi yX10_feed := ⟨wd752, wd753⟩
theorem wd754 : Cond.code ⟨"CopiedFireModel", "trim", "(I)I"⟩ prog_12_method_63_code 2 (Option.some Jvm.ClassFile.FieldType.int) ∈ TB := TBm (tk6 (List.mem_of_getElem? (i := 99) (by decide +kernel))) rfl
theorem cwX10_trim : gCw yX10_trim cX10_trim 2 (some .int) 1 := ⟨wd754, wd568, by decide +kernel⟩
theorem wd755 : Cond.instanceMethod ⟨"CopiedFireModel", "trim", "(I)I"⟩ ∈ TB := TBm (tk6 (List.mem_of_getElem? (i := 97) (by decide +kernel))) rfl
theorem wd756 : Cond.selects "CopiedFireModel" ⟨"CopiedFireModel", "trim", "(I)I"⟩ ⟨"CopiedFireModel", "trim", "(I)I"⟩ ∈ TB := TBm (tk6 (List.mem_of_getElem? (i := 98) (by decide +kernel))) rfl
theorem ciX10_trim : gCi yX10_trim := ⟨wd755, wd756⟩
theorem wd757 : Cond.code ⟨"CopiedFireModel", "text", "()I"⟩ prog_12_method_75_code 4 (Option.some Jvm.ClassFile.FieldType.int) ∈ TB := TBm (tk6 (List.mem_of_getElem? (i := 103) (by decide +kernel))) rfl
theorem cwX10_text : gCw yX10_text cX10_text 4 (some .int) 0 := ⟨wd757, wd568, by decide +kernel⟩
theorem wd758 : Cond.instanceMethod ⟨"CopiedFireModel", "text", "()I"⟩ ∈ TB := TBm (tk6 (List.mem_of_getElem? (i := 101) (by decide +kernel))) rfl
theorem wd759 : Cond.selects "CopiedFireModel" ⟨"CopiedFireModel", "text", "()I"⟩ ⟨"CopiedFireModel", "text", "()I"⟩ ∈ TB := TBm (tk6 (List.mem_of_getElem? (i := 102) (by decide +kernel))) rfl
theorem ciX10_text : gCi yX10_text := ⟨wd758, wd759⟩
theorem wd760 : Cond.code ⟨"CopiedFireModel", "go", "()V"⟩ prog_12_method_66_code 2 (Option.none : Option Jvm.ClassFile.FieldType) ∈ TB := TBm (tk6 (List.mem_of_getElem? (i := 107) (by decide +kernel))) rfl
theorem cwX10_go : gCw yX10_go cX10_go 2 none 0 := ⟨wd760, wd568, by decide +kernel⟩
theorem wd761 : Cond.instanceMethod ⟨"CopiedFireModel", "go", "()V"⟩ ∈ TB := TBm (tk6 (List.mem_of_getElem? (i := 106) (by decide +kernel))) rfl
theorem wd762 : Cond.selects "CopiedFireModel" ⟨"CopiedFireModel", "go", "()V"⟩ ⟨"CopiedFireModel", "go", "()V"⟩ ∈ TB := TBm (List.mem_of_getElem? (i := 54) (by decide +kernel)) rfl
theorem ciX10_go : gCi yX10_go := ⟨wd761, wd762⟩
theorem wd763 : Cond.code ⟨"CopiedFireModel", "isLetter", "(I)Z"⟩ prog_12_method_64_code 2 (Option.some Jvm.ClassFile.FieldType.boolean) ∈ TB := TBm (tk6 (List.mem_of_getElem? (i := 111) (by decide +kernel))) rfl
theorem cwX10_isLetter : gCw yX10_isLetter cX10_isLetter 2 (some .boolean) 1 := ⟨wd763, wd568, by decide +kernel⟩
theorem wd764 : Cond.instanceMethod ⟨"CopiedFireModel", "isLetter", "(I)Z"⟩ ∈ TB := TBm (tk6 (List.mem_of_getElem? (i := 110) (by decide +kernel))) rfl
theorem wd765 : Cond.selects "CopiedFireModel" ⟨"CopiedFireModel", "isLetter", "(I)Z"⟩ ⟨"CopiedFireModel", "isLetter", "(I)Z"⟩ ∈ TB := TBm (List.mem_of_getElem? (i := 55) (by decide +kernel)) rfl
theorem ciX10_isLetter : gCi yX10_isLetter := ⟨wd764, wd765⟩
theorem wd766 : Cond.code ⟨"CopiedFireModel", "isFigure", "(I)Z"⟩ prog_12_method_65_code 2 (Option.some Jvm.ClassFile.FieldType.boolean) ∈ TB := TBm (tk6 (List.mem_of_getElem? (i := 115) (by decide +kernel))) rfl
theorem cwX10_isFigure : gCw yX10_isFigure cX10_isFigure 2 (some .boolean) 1 := ⟨wd766, wd568, by decide +kernel⟩
theorem wd767 : Cond.instanceMethod ⟨"CopiedFireModel", "isFigure", "(I)Z"⟩ ∈ TB := TBm (tk6 (List.mem_of_getElem? (i := 114) (by decide +kernel))) rfl
theorem wd768 : Cond.selects "CopiedFireModel" ⟨"CopiedFireModel", "isFigure", "(I)Z"⟩ ⟨"CopiedFireModel", "isFigure", "(I)Z"⟩ ∈ TB := TBm (List.mem_of_getElem? (i := 56) (by decide +kernel)) rfl
theorem ciX10_isFigure : gCi yX10_isFigure := ⟨wd767, wd768⟩
theorem wd769 : Cond.code ⟨"CopiedFireModel", "takesKey", "()Z"⟩ prog_12_method_67_code 5 (Option.some Jvm.ClassFile.FieldType.boolean) ∈ TB := TBm (tk6 (List.mem_of_getElem? (i := 119) (by decide +kernel))) rfl
theorem cwX10_takesKey : gCw yX10_takesKey cX10_takesKey 5 (some .boolean) 0 := ⟨wd769, wd568, by decide +kernel⟩
theorem wd770 : Cond.instanceMethod ⟨"CopiedFireModel", "takesKey", "()Z"⟩ ∈ TB := TBm (tk6 (List.mem_of_getElem? (i := 118) (by decide +kernel))) rfl
theorem wd771 : Cond.selects "CopiedFireModel" ⟨"CopiedFireModel", "takesKey", "()Z"⟩ ⟨"CopiedFireModel", "takesKey", "()Z"⟩ ∈ TB := TBm (List.mem_of_getElem? (i := 57) (by decide +kernel)) rfl
theorem ciX10_takesKey : gCi yX10_takesKey := ⟨wd770, wd771⟩
theorem wd772 : Cond.code ⟨"CopiedFireModel", "takesE", "()Z"⟩ prog_12_method_73_code 5 (Option.some Jvm.ClassFile.FieldType.boolean) ∈ TB := TBm (tk6 (List.mem_of_getElem? (i := 123) (by decide +kernel))) rfl
theorem cwX10_takesE : gCw yX10_takesE cX10_takesE 5 (some .boolean) 0 := ⟨wd772, wd568, by decide +kernel⟩
theorem wd773 : Cond.instanceMethod ⟨"CopiedFireModel", "takesE", "()Z"⟩ ∈ TB := TBm (tk6 (List.mem_of_getElem? (i := 122) (by decide +kernel))) rfl
theorem wd774 : Cond.selects "CopiedFireModel" ⟨"CopiedFireModel", "takesE", "()Z"⟩ ⟨"CopiedFireModel", "takesE", "()Z"⟩ ∈ TB := TBm (List.mem_of_getElem? (i := 58) (by decide +kernel)) rfl
theorem ciX10_takesE : gCi yX10_takesE := ⟨wd773, wd774⟩
theorem wd775 : Cond.code ⟨"CopiedFireModel", "takesPart", "()Z"⟩ prog_12_method_72_code 2 (Option.some Jvm.ClassFile.FieldType.boolean) ∈ TB := TBm (tk6 (List.mem_of_getElem? (i := 127) (by decide +kernel))) rfl
theorem cwX10_takesPart : gCw yX10_takesPart cX10_takesPart 2 (some .boolean) 0 := ⟨wd775, wd568, by decide +kernel⟩
theorem wd776 : Cond.instanceMethod ⟨"CopiedFireModel", "takesPart", "()Z"⟩ ∈ TB := TBm (tk6 (List.mem_of_getElem? (i := 126) (by decide +kernel))) rfl
theorem wd777 : Cond.selects "CopiedFireModel" ⟨"CopiedFireModel", "takesPart", "()Z"⟩ ⟨"CopiedFireModel", "takesPart", "()Z"⟩ ∈ TB := TBm (List.mem_of_getElem? (i := 59) (by decide +kernel)) rfl
theorem ciX10_takesPart : gCi yX10_takesPart := ⟨wd776, wd777⟩
theorem wd778 : Cond.code ⟨"CopiedFireModel", "nameOf", "(I)I"⟩ prog_12_method_68_code 2 (Option.some Jvm.ClassFile.FieldType.int) ∈ TB := TBm (tk6 (List.mem_of_getElem? (i := 131) (by decide +kernel))) rfl
theorem cwX10_nameOf : gCw yX10_nameOf cX10_nameOf 2 (some .int) 1 := ⟨wd778, wd568, by decide +kernel⟩
theorem wd779 : Cond.instanceMethod ⟨"CopiedFireModel", "nameOf", "(I)I"⟩ ∈ TB := TBm (tk6 (List.mem_of_getElem? (i := 130) (by decide +kernel))) rfl
theorem wd780 : Cond.selects "CopiedFireModel" ⟨"CopiedFireModel", "nameOf", "(I)I"⟩ ⟨"CopiedFireModel", "nameOf", "(I)I"⟩ ∈ TB := TBm (List.mem_of_getElem? (i := 60) (by decide +kernel)) rfl
theorem ciX10_nameOf : gCi yX10_nameOf := ⟨wd779, wd780⟩
theorem wd781 : Cond.code ⟨"CopiedFireModel", "settle", "(I)V"⟩ prog_12_method_70_code 2 (Option.none : Option Jvm.ClassFile.FieldType) ∈ TB := TBm (tk6 (List.mem_of_getElem? (i := 135) (by decide +kernel))) rfl
theorem cwX10_settle : gCw yX10_settle cX10_settle 2 none 1 := ⟨wd781, wd568, by decide +kernel⟩
theorem wd782 : Cond.instanceMethod ⟨"CopiedFireModel", "settle", "(I)V"⟩ ∈ TB := TBm (tk6 (List.mem_of_getElem? (i := 134) (by decide +kernel))) rfl
theorem wd783 : Cond.selects "CopiedFireModel" ⟨"CopiedFireModel", "settle", "(I)V"⟩ ⟨"CopiedFireModel", "settle", "(I)V"⟩ ∈ TB := TBm (List.mem_of_getElem? (i := 61) (by decide +kernel)) rfl
theorem ciX10_settle : gCi yX10_settle := ⟨wd782, wd783⟩
theorem wd784 : Cond.code ⟨"CopiedFireModel", "rank", "(I)I"⟩ prog_12_method_69_code 1 (Option.some Jvm.ClassFile.FieldType.int) ∈ TB := TBm (tk6 (List.mem_of_getElem? (i := 138) (by decide +kernel))) rfl
theorem cwX10_rank : gCw yX10_rank cX10_rank 1 (some .int) 1 := ⟨wd784, wd568, by decide +kernel⟩
theorem wd785 : Cond.static ⟨"CopiedFireModel", "rank", "(I)I"⟩ ∈ TB := TBm (tk6 (List.mem_of_getElem? (i := 137) (by decide +kernel))) rfl
theorem csX10_rank : gCs yX10_rank := wd785
theorem wd786 : Cond.code ⟨"CopiedFireModel", "notsOpen", "()I"⟩ prog_12_method_74_code 3 (Option.some Jvm.ClassFile.FieldType.int) ∈ TB := TBm (tk6 (List.mem_of_getElem? (i := 142) (by decide +kernel))) rfl
theorem cwX10_notsOpen : gCw yX10_notsOpen cX10_notsOpen 3 (some .int) 0 := ⟨wd786, wd568, by decide +kernel⟩
theorem wd787 : Cond.instanceMethod ⟨"CopiedFireModel", "notsOpen", "()I"⟩ ∈ TB := TBm (tk6 (List.mem_of_getElem? (i := 141) (by decide +kernel))) rfl
theorem wd788 : Cond.selects "CopiedFireModel" ⟨"CopiedFireModel", "notsOpen", "()I"⟩ ⟨"CopiedFireModel", "notsOpen", "()I"⟩ ∈ TB := TBm (List.mem_of_getElem? (i := 62) (by decide +kernel)) rfl
theorem ciX10_notsOpen : gCi yX10_notsOpen := ⟨wd787, wd788⟩
theorem wd789 : Cond.code ⟨"CopiedFireModel", "signHere", "()I"⟩ prog_12_method_71_code 1 (Option.some Jvm.ClassFile.FieldType.int) ∈ TB := TBm (tk6 (List.mem_of_getElem? (i := 146) (by decide +kernel))) rfl
theorem cwX10_signHere : gCw yX10_signHere cX10_signHere 1 (some .int) 0 := ⟨wd789, wd568, by decide +kernel⟩
theorem wd790 : Cond.instanceMethod ⟨"CopiedFireModel", "signHere", "()I"⟩ ∈ TB := TBm (tk6 (List.mem_of_getElem? (i := 145) (by decide +kernel))) rfl
theorem wd791 : Cond.selects "CopiedFireModel" ⟨"CopiedFireModel", "signHere", "()I"⟩ ⟨"CopiedFireModel", "signHere", "()I"⟩ ∈ TB := TBm (List.mem_of_getElem? (i := 63) (by decide +kernel)) rfl
theorem ciX10_signHere : gCi yX10_signHere := ⟨wd790, wd791⟩
theorem wd792 : Cond.code ⟨"CopiedFireModel", "textTold", "(II)I"⟩ prog_12_method_76_code 3 (Option.some Jvm.ClassFile.FieldType.int) ∈ TB := TBm (tk6 (List.mem_of_getElem? (i := 150) (by decide +kernel))) rfl
theorem cwX10_textTold : gCw yX10_textTold cX10_textTold 3 (some .int) 2 := ⟨wd792, wd568, by decide +kernel⟩
theorem wd793 : Cond.instanceMethod ⟨"CopiedFireModel", "textTold", "(II)I"⟩ ∈ TB := TBm (tk6 (List.mem_of_getElem? (i := 148) (by decide +kernel))) rfl
theorem wd794 : Cond.selects "CopiedFireModel" ⟨"CopiedFireModel", "textTold", "(II)I"⟩ ⟨"CopiedFireModel", "textTold", "(II)I"⟩ ∈ TB := TBm (tk6 (List.mem_of_getElem? (i := 149) (by decide +kernel))) rfl
theorem ciX10_textTold : gCi yX10_textTold := ⟨wd793, wd794⟩
theorem wd795 : Cond.code ⟨"CopiedFireModel", "why", "(I)I"⟩ prog_12_method_78_code 3 (Option.some Jvm.ClassFile.FieldType.int) ∈ TB := TBm (tk6 (List.mem_of_getElem? (i := 154) (by decide +kernel))) rfl
theorem cwX10_why : gCw yX10_why cX10_why 3 (some .int) 1 := ⟨wd795, wd568, by decide +kernel⟩
theorem wd796 : Cond.instanceMethod ⟨"CopiedFireModel", "why", "(I)I"⟩ ∈ TB := TBm (tk6 (List.mem_of_getElem? (i := 152) (by decide +kernel))) rfl
theorem wd797 : Cond.selects "CopiedFireModel" ⟨"CopiedFireModel", "why", "(I)I"⟩ ⟨"CopiedFireModel", "why", "(I)I"⟩ ∈ TB := TBm (tk6 (List.mem_of_getElem? (i := 153) (by decide +kernel))) rfl
theorem ciX10_why : gCi yX10_why := ⟨wd796, wd797⟩
theorem wd798 : Cond.code ⟨"CopiedFireModel", "sheet", "(III)I"⟩ prog_12_method_83_code 5 (Option.some Jvm.ClassFile.FieldType.int) ∈ TB := TBm (tk6 (List.mem_of_getElem? (i := 158) (by decide +kernel))) rfl
theorem cwX10_sheet : gCw yX10_sheet cX10_sheet 5 (some .int) 3 := ⟨wd798, wd568, by decide +kernel⟩
theorem wd799 : Cond.instanceMethod ⟨"CopiedFireModel", "sheet", "(III)I"⟩ ∈ TB := TBm (tk6 (List.mem_of_getElem? (i := 156) (by decide +kernel))) rfl
theorem wd800 : Cond.selects "CopiedFireModel" ⟨"CopiedFireModel", "sheet", "(III)I"⟩ ⟨"CopiedFireModel", "sheet", "(III)I"⟩ ∈ TB := TBm (tk6 (List.mem_of_getElem? (i := 157) (by decide +kernel))) rfl
theorem ciX10_sheet : gCi yX10_sheet := ⟨wd799, wd800⟩
theorem wd801 : Cond.code ⟨"CopiedFireModel", "mark", "(III)I"⟩ prog_12_method_84_code 4 (Option.some Jvm.ClassFile.FieldType.int) ∈ TB := TBm (tk6 (List.mem_of_getElem? (i := 163) (by decide +kernel))) rfl
theorem cwX10_mark : gCw yX10_mark cX10_mark 4 (some .int) 3 := ⟨wd801, wd568, by decide +kernel⟩
theorem wd802 : Cond.instanceMethod ⟨"CopiedFireModel", "mark", "(III)I"⟩ ∈ TB := TBm (tk6 (List.mem_of_getElem? (i := 161) (by decide +kernel))) rfl
theorem wd803 : Cond.selects "CopiedFireModel" ⟨"CopiedFireModel", "mark", "(III)I"⟩ ⟨"CopiedFireModel", "mark", "(III)I"⟩ ∈ TB := TBm (tk6 (List.mem_of_getElem? (i := 162) (by decide +kernel))) rfl
theorem ciX10_mark : gCi yX10_mark := ⟨wd802, wd803⟩
theorem wd804 : Cond.code ⟨"CopiedFireModel", "pour", "(I)I"⟩ prog_12_method_85_code 6 (Option.some Jvm.ClassFile.FieldType.int) ∈ TB := TBm (tk6 (List.mem_of_getElem? (i := 170) (by decide +kernel))) rfl
theorem cwX10_pour : gCw yX10_pour cX10_pour 6 (some .int) 1 := ⟨wd804, wd568, by decide +kernel⟩
theorem wd805 : Cond.instanceMethod ⟨"CopiedFireModel", "pour", "(I)I"⟩ ∈ TB := TBm (tk6 (List.mem_of_getElem? (i := 168) (by decide +kernel))) rfl
theorem wd806 : Cond.selects "CopiedFireModel" ⟨"CopiedFireModel", "pour", "(I)I"⟩ ⟨"CopiedFireModel", "pour", "(I)I"⟩ ∈ TB := TBm (tk6 (List.mem_of_getElem? (i := 169) (by decide +kernel))) rfl
theorem ciX10_pour : gCi yX10_pour := ⟨wd805, wd806⟩
theorem wd807 : Cond.code ⟨"CopiedFireModel", "reads", "(I)I"⟩ prog_12_method_86_code 4 (Option.some Jvm.ClassFile.FieldType.int) ∈ TB := TBm (tk6 (List.mem_of_getElem? (i := 174) (by decide +kernel))) rfl
theorem cwX10_reads : gCw yX10_reads cX10_reads 4 (some .int) 1 := ⟨wd807, wd568, by decide +kernel⟩
theorem wd808 : Cond.instanceMethod ⟨"CopiedFireModel", "reads", "(I)I"⟩ ∈ TB := TBm (tk6 (List.mem_of_getElem? (i := 172) (by decide +kernel))) rfl
theorem wd809 : Cond.selects "CopiedFireModel" ⟨"CopiedFireModel", "reads", "(I)I"⟩ ⟨"CopiedFireModel", "reads", "(I)I"⟩ ∈ TB := TBm (tk6 (List.mem_of_getElem? (i := 173) (by decide +kernel))) rfl
theorem ciX10_reads : gCi yX10_reads := ⟨wd808, wd809⟩
theorem wd810 : Cond.code ⟨"CopiedFireModel", "copy", "(IIIII)I"⟩ prog_12_method_87_code 7 (Option.some Jvm.ClassFile.FieldType.int) ∈ TB := TBm (tk6 (List.mem_of_getElem? (i := 178) (by decide +kernel))) rfl
theorem cwX10_copy : gCw yX10_copy cX10_copy 7 (some .int) 5 := ⟨wd810, wd568, by decide +kernel⟩
theorem wd811 : Cond.instanceMethod ⟨"CopiedFireModel", "copy", "(IIIII)I"⟩ ∈ TB := TBm (tk6 (List.mem_of_getElem? (i := 176) (by decide +kernel))) rfl
theorem wd812 : Cond.selects "CopiedFireModel" ⟨"CopiedFireModel", "copy", "(IIIII)I"⟩ ⟨"CopiedFireModel", "copy", "(IIIII)I"⟩ ∈ TB := TBm (tk6 (List.mem_of_getElem? (i := 177) (by decide +kernel))) rfl
theorem ciX10_copy : gCi yX10_copy := ⟨wd811, wd812⟩
theorem wd813 : Cond.code ⟨"CopiedFireModel", "lay", "(III)I"⟩ prog_12_method_88_code 6 (Option.some Jvm.ClassFile.FieldType.int) ∈ TB := TBm (tk6 (List.mem_of_getElem? (i := 182) (by decide +kernel))) rfl
theorem cwX10_lay : gCw yX10_lay cX10_lay 6 (some .int) 3 := ⟨wd813, wd568, by decide +kernel⟩
theorem wd814 : Cond.instanceMethod ⟨"CopiedFireModel", "lay", "(III)I"⟩ ∈ TB := TBm (tk6 (List.mem_of_getElem? (i := 180) (by decide +kernel))) rfl
theorem wd815 : Cond.selects "CopiedFireModel" ⟨"CopiedFireModel", "lay", "(III)I"⟩ ⟨"CopiedFireModel", "lay", "(III)I"⟩ ∈ TB := TBm (tk6 (List.mem_of_getElem? (i := 181) (by decide +kernel))) rfl
theorem ciX10_lay : gCi yX10_lay := ⟨wd814, wd815⟩
theorem wd816 : Cond.code ⟨"CopiedFireModel", "isSlot", "(I)Z"⟩ prog_12_method_82_code 1 (Option.some Jvm.ClassFile.FieldType.boolean) ∈ TB := TBm (tk6 (List.mem_of_getElem? (i := 185) (by decide +kernel))) rfl
theorem cwX10_isSlot : gCw yX10_isSlot cX10_isSlot 1 (some .boolean) 1 := ⟨wd816, wd568, by decide +kernel⟩
theorem wd817 : Cond.static ⟨"CopiedFireModel", "isSlot", "(I)Z"⟩ ∈ TB := TBm (tk6 (List.mem_of_getElem? (i := 184) (by decide +kernel))) rfl
theorem csX10_isSlot : gCs yX10_isSlot := wd817
theorem wd818 : Cond.code ⟨"CopiedFireModel", "ask", "(II)I"⟩ prog_12_method_89_code 3 (Option.some Jvm.ClassFile.FieldType.int) ∈ TB := TBm (tk6 (List.mem_of_getElem? (i := 189) (by decide +kernel))) rfl
theorem cwX10_ask : gCw yX10_ask cX10_ask 3 (some .int) 2 := ⟨wd818, wd568, by decide +kernel⟩
theorem wd819 : Cond.instanceMethod ⟨"CopiedFireModel", "ask", "(II)I"⟩ ∈ TB := TBm (tk6 (List.mem_of_getElem? (i := 187) (by decide +kernel))) rfl
theorem wd820 : Cond.selects "CopiedFireModel" ⟨"CopiedFireModel", "ask", "(II)I"⟩ ⟨"CopiedFireModel", "ask", "(II)I"⟩ ∈ TB := TBm (tk6 (List.mem_of_getElem? (i := 188) (by decide +kernel))) rfl
theorem ciX10_ask : gCi yX10_ask := ⟨wd819, wd820⟩
theorem wd821 : Cond.code ⟨"CopiedFireModel", "item", "(II)I"⟩ prog_12_method_90_code 4 (Option.some Jvm.ClassFile.FieldType.int) ∈ TB := TBm (tk6 (List.mem_of_getElem? (i := 193) (by decide +kernel))) rfl
theorem cwX10_item : gCw yX10_item cX10_item 4 (some .int) 2 := ⟨wd821, wd568, by decide +kernel⟩
theorem wd822 : Cond.instanceMethod ⟨"CopiedFireModel", "item", "(II)I"⟩ ∈ TB := TBm (tk6 (List.mem_of_getElem? (i := 191) (by decide +kernel))) rfl
theorem wd823 : Cond.selects "CopiedFireModel" ⟨"CopiedFireModel", "item", "(II)I"⟩ ⟨"CopiedFireModel", "item", "(II)I"⟩ ∈ TB := TBm (tk6 (List.mem_of_getElem? (i := 192) (by decide +kernel))) rfl
theorem ciX10_item : gCi yX10_item := ⟨wd822, wd823⟩
theorem wd824 : Cond.code ⟨"CopiedFireModel", "rest", "(II)I"⟩ prog_12_method_91_code 3 (Option.some Jvm.ClassFile.FieldType.int) ∈ TB := TBm (tk6 (List.mem_of_getElem? (i := 197) (by decide +kernel))) rfl
theorem cwX10_rest : gCw yX10_rest cX10_rest 3 (some .int) 2 := ⟨wd824, wd568, by decide +kernel⟩
theorem wd825 : Cond.instanceMethod ⟨"CopiedFireModel", "rest", "(II)I"⟩ ∈ TB := TBm (tk6 (List.mem_of_getElem? (i := 195) (by decide +kernel))) rfl
theorem wd826 : Cond.selects "CopiedFireModel" ⟨"CopiedFireModel", "rest", "(II)I"⟩ ⟨"CopiedFireModel", "rest", "(II)I"⟩ ∈ TB := TBm (tk6 (List.mem_of_getElem? (i := 196) (by decide +kernel))) rfl
theorem ciX10_rest : gCi yX10_rest := ⟨wd825, wd826⟩
theorem wd827 : Cond.code ⟨"CopiedFireModel", "tell", "(I)I"⟩ prog_12_method_92_code 2 (Option.some Jvm.ClassFile.FieldType.int) ∈ TB := TBm (tk6 (List.mem_of_getElem? (i := 202) (by decide +kernel))) rfl
theorem cwX10_tell : gCw yX10_tell cX10_tell 2 (some .int) 1 := ⟨wd827, wd568, by decide +kernel⟩
theorem wd828 : Cond.instanceMethod ⟨"CopiedFireModel", "tell", "(I)I"⟩ ∈ TB := TBm (tk6 (List.mem_of_getElem? (i := 200) (by decide +kernel))) rfl
theorem wd829 : Cond.selects "CopiedFireModel" ⟨"CopiedFireModel", "tell", "(I)I"⟩ ⟨"CopiedFireModel", "tell", "(I)I"⟩ ∈ TB := TBm (tk6 (List.mem_of_getElem? (i := 201) (by decide +kernel))) rfl
theorem ciX10_tell : gCi yX10_tell := ⟨wd828, wd829⟩
theorem wd830 : Cond.code ⟨"CopiedFireModel", "check", "(I)I"⟩ prog_12_method_93_code 6 (Option.some Jvm.ClassFile.FieldType.int) ∈ TB := TBm (tk6 (List.mem_of_getElem? (i := 206) (by decide +kernel))) rfl
theorem cwX10_check : gCw yX10_check cX10_check 6 (some .int) 1 := ⟨wd830, wd568, by decide +kernel⟩
theorem wd831 : Cond.instanceMethod ⟨"CopiedFireModel", "check", "(I)I"⟩ ∈ TB := TBm (tk6 (List.mem_of_getElem? (i := 204) (by decide +kernel))) rfl
theorem wd832 : Cond.selects "CopiedFireModel" ⟨"CopiedFireModel", "check", "(I)I"⟩ ⟨"CopiedFireModel", "check", "(I)I"⟩ ∈ TB := TBm (tk6 (List.mem_of_getElem? (i := 205) (by decide +kernel))) rfl
theorem ciX10_check : gCi yX10_check := ⟨wd831, wd832⟩
theorem wd833 : Cond.code ⟨"CopiedFireModel", "keep", "()I"⟩ prog_12_method_94_code 1 (Option.some Jvm.ClassFile.FieldType.int) ∈ TB := TBm (tk6 (List.mem_of_getElem? (i := 210) (by decide +kernel))) rfl
theorem cwX10_keep : gCw yX10_keep cX10_keep 1 (some .int) 0 := ⟨wd833, wd568, by decide +kernel⟩
theorem wd834 : Cond.instanceMethod ⟨"CopiedFireModel", "keep", "()I"⟩ ∈ TB := TBm (tk6 (List.mem_of_getElem? (i := 208) (by decide +kernel))) rfl
theorem wd835 : Cond.selects "CopiedFireModel" ⟨"CopiedFireModel", "keep", "()I"⟩ ⟨"CopiedFireModel", "keep", "()I"⟩ ∈ TB := TBm (tk6 (List.mem_of_getElem? (i := 209) (by decide +kernel))) rfl
theorem ciX10_keep : gCi yX10_keep := ⟨wd834, wd835⟩
theorem wd836 : Cond.code ⟨"CopiedFireModel", "back", "()I"⟩ prog_12_method_95_code 1 (Option.some Jvm.ClassFile.FieldType.int) ∈ TB := TBm (tk6 (List.mem_of_getElem? (i := 214) (by decide +kernel))) rfl
theorem cwX10_back : gCw yX10_back cX10_back 1 (some .int) 0 := ⟨wd836, wd568, by decide +kernel⟩
theorem wd837 : Cond.instanceMethod ⟨"CopiedFireModel", "back", "()I"⟩ ∈ TB := TBm (tk6 (List.mem_of_getElem? (i := 212) (by decide +kernel))) rfl
theorem wd838 : Cond.selects "CopiedFireModel" ⟨"CopiedFireModel", "back", "()I"⟩ ⟨"CopiedFireModel", "back", "()I"⟩ ∈ TB := TBm (tk6 (List.mem_of_getElem? (i := 213) (by decide +kernel))) rfl
theorem ciX10_back : gCi yX10_back := ⟨wd837, wd838⟩
theorem wd839 : Cond.code ⟨"CopiedFireModel", "count", "(I)I"⟩ prog_12_method_96_code 2 (Option.some Jvm.ClassFile.FieldType.int) ∈ TB := TBm (tk6 (List.mem_of_getElem? (i := 218) (by decide +kernel))) rfl
theorem cwX10_count : gCw yX10_count cX10_count 2 (some .int) 1 := ⟨wd839, wd568, by decide +kernel⟩
theorem wd840 : Cond.instanceMethod ⟨"CopiedFireModel", "count", "(I)I"⟩ ∈ TB := TBm (tk6 (List.mem_of_getElem? (i := 216) (by decide +kernel))) rfl
theorem wd841 : Cond.selects "CopiedFireModel" ⟨"CopiedFireModel", "count", "(I)I"⟩ ⟨"CopiedFireModel", "count", "(I)I"⟩ ∈ TB := TBm (tk6 (List.mem_of_getElem? (i := 217) (by decide +kernel))) rfl
theorem ciX10_count : gCi yX10_count := ⟨wd840, wd841⟩
theorem wd842 : Cond.methodLink "CopiedFireLaw" 9 ⟨"CopiedFire", "<init>", "()V"⟩ ∈ TB := TBm (tk1 (List.mem_of_getElem? (i := 23) (by decide +kernel))) rfl
theorem cnL_9 : gCn RL 9 yX9_init := Or.inl wd842
theorem wd843 : Cond.methodLink "CopiedFire" 9 ⟨"CopiedFire$Laws", "<init>", "()V"⟩ ∈ TB := TBm (tk1 (List.mem_of_getElem? (i := 31) (by decide +kernel))) rfl
theorem cnX9_9 : gCn RX9 9 yX2_init := Or.inl wd843
theorem wd844 : Cond.methodLink "CopiedFire" 18 ⟨"CopiedFire$House", "<init>", "(LCopiedFire$Laws;)V"⟩ ∈ TB := TBm (tk1 (List.mem_of_getElem? (i := 47) (by decide +kernel))) rfl
theorem cnX9_18 : gCn RX9 18 yX0_init := Or.inl wd844
theorem wd845 : Cond.methodLink "CopiedFire$House" 40 ⟨"java/util/Arrays", "fill", "([II)V"⟩ ∈ TB := TBm (tk1 (List.mem_of_getElem? (i := 51) (by decide +kernel))) rfl
theorem cnX0_40 : gCn RX0 40 yJA_fill := Or.inl wd845
theorem wd846 : Cond.methodLink "CopiedFire" 33 ⟨"CopiedFire$Seating", "<init>", "()V"⟩ ∈ TB := TBm (tk1 (List.mem_of_getElem? (i := 134) (by decide +kernel))) rfl
theorem cnX9_33 : gCn RX9 33 yX4_init := Or.inl wd846
theorem wd847 : Cond.methodLink "CopiedFire" 40 ⟨"CopiedFire$Tape", "<init>", "()V"⟩ ∈ TB := TBm (tk1 (List.mem_of_getElem? (i := 148) (by decide +kernel))) rfl
theorem cnX9_40 : gCn RX9 40 yX7_init := Or.inl wd847
theorem wd848 : Cond.methodLink "CopiedFire" 47 ⟨"CopiedFire$Reader", "<init>", "(LCopiedFire$Tape;)V"⟩ ∈ TB := TBm (tk1 (List.mem_of_getElem? (i := 164) (by decide +kernel))) rfl
theorem cnX9_47 : gCn RX9 47 yX3_init := Or.inl wd848
theorem wd849 : Cond.methodLink "CopiedFire" 60 ⟨"CopiedFire$Sheet", "<init>", "()V"⟩ ∈ TB := TBm (tk1 (List.mem_of_getElem? (i := 201) (by decide +kernel))) rfl
theorem cnX9_60 : gCn RX9 60 yX5_init := Or.inl wd849
theorem wd850 : Cond.methodLink "CopiedFire" 67 ⟨"CopiedFire$Slot", "<init>", "()V"⟩ ∈ TB := TBm (tk1 (List.mem_of_getElem? (i := 221) (by decide +kernel))) rfl
theorem cnX9_67 : gCn RX9 67 yX6_init := Or.inl wd850
theorem wd851 : Cond.methodLink "CopiedFire$Slot" 11 ⟨"CopiedFire$Sheet", "<init>", "()V"⟩ ∈ TB := TBm (tk1 (List.mem_of_getElem? (i := 226) (by decide +kernel))) rfl
theorem cnX6_11 : gCn RX6 11 yX5_init := Or.inl wd851
theorem wd852 : Cond.methodLink "CopiedFireLaw" 13 ⟨"CopiedFire", "thing", "(IIII)I"⟩ ∈ TB := TBm (tk2 (List.mem_of_getElem? (i := 45) (by decide +kernel))) rfl
theorem cnL_13 : gCn RL 13 yX9_thing := Or.inl wd852
theorem wd853 : Cond.methodLink "CopiedFire" 83 ⟨"CopiedFire", "isKind", "(I)Z"⟩ ∈ TB := TBm (tk2 (List.mem_of_getElem? (i := 49) (by decide +kernel))) rfl
theorem cnX9_83 : gCn RX9 83 yX9_isKind := Or.inl wd853
theorem wd854 : Cond.methodLink "CopiedFire" 90 ⟨"CopiedFire", "within", "(III)Z"⟩ ∈ TB := TBm (tk2 (List.mem_of_getElem? (i := 52) (by decide +kernel))) rfl
theorem cnX9_90 : gCn RX9 90 yX9_within := Or.inl wd854
theorem wd855 : Cond.methodLink "CopiedFire" 87 ⟨"CopiedFire", "isRoom", "(I)Z"⟩ ∈ TB := TBm (tk2 (List.mem_of_getElem? (i := 55) (by decide +kernel))) rfl
theorem cnX9_87 : gCn RX9 87 yX9_isRoom := Or.inl wd855
theorem wd856 : Cond.methodLink "CopiedFire" 99 ⟨"CopiedFire$House", "addThing", "(IIII)I"⟩ ∈ TB := TBm (tk2 (List.mem_of_getElem? (i := 60) (by decide +kernel))) rfl
theorem cnX9_99 : gCn RX9 99 yX0_addThing := Or.inl wd856
theorem wd857 : Cond.methodLink "CopiedFireLaw" 18 ⟨"CopiedFire", "told", "(II)I"⟩ ∈ TB := TBm (tk2 (List.mem_of_getElem? (i := 64) (by decide +kernel))) rfl
theorem cnL_18 : gCn RL 18 yX9_told := Or.inl wd857
theorem wd858 : Cond.methodLink "CopiedFire" 103 ⟨"CopiedFire", "isThing", "(I)Z"⟩ ∈ TB := TBm (tk2 (List.mem_of_getElem? (i := 68) (by decide +kernel))) rfl
theorem cnX9_103 : gCn RX9 103 yX9_isThing := Or.inl wd858
theorem wd859 : Cond.methodLink "CopiedFire" 118 ⟨"CopiedFire$House", "burnsOf", "(I)I"⟩ ∈ TB := TBm (tk2 (List.mem_of_getElem? (i := 72) (by decide +kernel))) rfl
theorem cnX9_118 : gCn RX9 118 yX0_burnsOf := Or.inl wd859
theorem wd860 : Cond.methodLink "CopiedFire$House" 95 ⟨"CopiedFire$Laws", "work", "(IIII)I"⟩ ∈ TB := TBm (tk2 (List.mem_of_getElem? (i := 76) (by decide +kernel))) rfl
theorem cnX0_95 : gCn RX0 95 yX2_work := Or.inl wd860
theorem wd861 : Cond.methodLink "CopiedFire$Laws" 25 ⟨"CopiedFire$Laws", "has", "(I)Z"⟩ ∈ TB := TBm (tk2 (List.mem_of_getElem? (i := 80) (by decide +kernel))) rfl
theorem cnX2_25 : gCn RX2 25 yX2_has := Or.inl wd861
theorem wn37 : Cond.methodLinkNest "CopiedFire$Laws" 21 ⟨"CopiedFire", "within", "(III)Z"⟩ "CopiedFire" ∈ NW := NWm (tk2 (List.mem_of_getElem? (i := 84) (by decide +kernel))) rfl
theorem cnX2_21 : gCn RX2 21 yX9_within := Or.inr ⟨_, wn37⟩
theorem wd862 : Cond.methodLink "CopiedFire$Laws" 40 ⟨"CopiedFire$Laws", "joined", "(III)I"⟩ ∈ TB := TBm (tk2 (List.mem_of_getElem? (i := 85) (by decide +kernel))) rfl
theorem cnX2_40 : gCn RX2 40 yX2_joined := Or.inl wd862
theorem wn38 : Cond.methodLinkNest "CopiedFire$House" 100 ⟨"CopiedFire", "held", "(II)I"⟩ "CopiedFire" ∈ NW := NWm (tk2 (List.mem_of_getElem? (i := 88) (by decide +kernel))) rfl
theorem cnX0_100 : gCn RX0 100 yX9_held := Or.inr ⟨_, wn38⟩
theorem wd863 : Cond.methodLink "CopiedFire" 143 ⟨"java/lang/Math", "min", "(II)I"⟩ ∈ TB := TBm (tk2 (List.mem_of_getElem? (i := 91) (by decide +kernel))) rfl
theorem cnX9_143 : Cond.methodLink RX9 143 Lib.Math.min.name ∈ TB := wd863
theorem wd864 : Cond.methodLink "CopiedFire" 336 ⟨"java/lang/Math", "max", "(II)I"⟩ ∈ TB := TBm (tk2 (List.mem_of_getElem? (i := 94) (by decide +kernel))) rfl
theorem cnX9_336 : Cond.methodLink RX9 336 Lib.Math.max.name ∈ TB := wd864
theorem wd865 : Cond.methodLink "CopiedFire$House" 103 ⟨"CopiedFire$Kinds", "burns", "(II)I"⟩ ∈ TB := TBm (tk2 (List.mem_of_getElem? (i := 97) (by decide +kernel))) rfl
theorem cnX0_103 : gCn RX0 103 yX1_burns := Or.inl wd865
theorem wd866 : Cond.methodLink "CopiedFire$Kinds" 13 ⟨"java/lang/Math", "max", "(II)I"⟩ ∈ TB := TBm (tk2 (List.mem_of_getElem? (i := 100) (by decide +kernel))) rfl
theorem cnX1_13 : Cond.methodLink RX1 13 Lib.Math.max.name ∈ TB := wd866
theorem wd867 : Cond.methodLink "CopiedFire" 122 ⟨"CopiedFire$Kinds", "gives", "(II)I"⟩ ∈ TB := TBm (tk2 (List.mem_of_getElem? (i := 101) (by decide +kernel))) rfl
theorem cnX9_122 : gCn RX9 122 yX1_gives := Or.inl wd867
theorem wd868 : Cond.methodLink "CopiedFire" 128 ⟨"CopiedFire$Kinds", "catchesFrom", "(I)I"⟩ ∈ TB := TBm (tk2 (List.mem_of_getElem? (i := 104) (by decide +kernel))) rfl
theorem cnX9_128 : gCn RX9 128 yX1_catchesFrom := Or.inl wd868
theorem wd869 : Cond.methodLink "CopiedFire" 131 ⟨"CopiedFire$Kinds", "worth", "(II)I"⟩ ∈ TB := TBm (tk2 (List.mem_of_getElem? (i := 107) (by decide +kernel))) rfl
theorem cnX9_131 : gCn RX9 131 yX1_worth := Or.inl wd869
theorem wd870 : Cond.methodLink "CopiedFireLaw" 23 ⟨"CopiedFire", "as", "(II)I"⟩ ∈ TB := TBm (tk2 (List.mem_of_getElem? (i := 110) (by decide +kernel))) rfl
theorem cnL_23 : gCn RL 23 yX9_as := Or.inl wd870
theorem wd871 : Cond.methodLink "CopiedFire" 134 ⟨"CopiedFire$Kinds", "isOf", "(II)Z"⟩ ∈ TB := TBm (tk2 (List.mem_of_getElem? (i := 114) (by decide +kernel))) rfl
theorem cnX9_134 : gCn RX9 134 yX1_isOf := Or.inl wd871
theorem wd872 : Cond.methodLink "CopiedFireLaw" 27 ⟨"CopiedFire", "turns", "(II)I"⟩ ∈ TB := TBm (tk2 (List.mem_of_getElem? (i := 120) (by decide +kernel))) rfl
theorem cnL_27 : gCn RL 27 yX9_turns := Or.inl wd872
theorem wd873 : Cond.methodLink "CopiedFireLaw" 31 ⟨"CopiedFire", "set", "(III)I"⟩ ∈ TB := TBm (tk2 (List.mem_of_getElem? (i := 124) (by decide +kernel))) rfl
theorem cnL_31 : gCn RL 31 yX9_set := Or.inl wd873
theorem wd874 : Cond.methodLink "CopiedFire" 139 ⟨"CopiedFire", "replaced", "([IIII)I"⟩ ∈ TB := TBm (tk2 (List.mem_of_getElem? (i := 128) (by decide +kernel))) rfl
theorem cnX9_139 : gCn RX9 139 yX9_replaced := Or.inl wd874
theorem wd875 : Cond.methodLink "CopiedFireLaw" 36 ⟨"CopiedFire", "deal", "(I)I"⟩ ∈ TB := TBm (tk2 (List.mem_of_getElem? (i := 131) (by decide +kernel))) rfl
theorem cnL_36 : gCn RL 36 yX9_deal := Or.inl wd875
theorem wd876 : Cond.methodLink "CopiedFire" 148 ⟨"CopiedFire$House", "drawThing", "()V"⟩ ∈ TB := TBm (tk2 (List.mem_of_getElem? (i := 135) (by decide +kernel))) rfl
theorem cnX9_148 : gCn RX9 148 yX0_drawThing := Or.inl wd876
theorem wd877 : Cond.methodLink "CopiedFire$House" 83 ⟨"CopiedFire$House", "draw", "()I"⟩ ∈ TB := TBm (tk2 (List.mem_of_getElem? (i := 139) (by decide +kernel))) rfl
theorem cnX0_83 : gCn RX0 83 yX0_draw := Or.inl wd877
theorem wd878 : Cond.methodLink "CopiedFire$House" 87 ⟨"CopiedFire$House", "addThing", "(IIII)I"⟩ ∈ TB := TBm (tk2 (List.mem_of_getElem? (i := 144) (by decide +kernel))) rfl
theorem cnX0_87 : gCn RX0 87 yX0_addThing := Or.inl wd878
theorem wd879 : Cond.methodLink "CopiedFireLaw" 41 ⟨"CopiedFire", "seed", "(I)I"⟩ ∈ TB := TBm (tk2 (List.mem_of_getElem? (i := 145) (by decide +kernel))) rfl
theorem cnL_41 : gCn RL 41 yX9_seed := Or.inl wd879
theorem wd880 : Cond.methodLink "CopiedFireLaw" 45 ⟨"CopiedFire", "heat", "(I)I"⟩ ∈ TB := TBm (tk2 (List.mem_of_getElem? (i := 149) (by decide +kernel))) rfl
theorem cnL_45 : gCn RL 45 yX9_heat := Or.inl wd880
theorem wd881 : Cond.methodLink "CopiedFireLaw" 49 ⟨"CopiedFire", "heats", "(II)I"⟩ ∈ TB := TBm (tk2 (List.mem_of_getElem? (i := 153) (by decide +kernel))) rfl
theorem cnL_49 : gCn RL 49 yX9_heats := Or.inl wd881
theorem wd882 : Cond.methodLink "CopiedFireLaw" 53 ⟨"CopiedFire", "door", "(III)I"⟩ ∈ TB := TBm (tk2 (List.mem_of_getElem? (i := 157) (by decide +kernel))) rfl
theorem cnL_53 : gCn RL 53 yX9_door := Or.inl wd882
theorem wd883 : Cond.methodLink "CopiedFire" 157 ⟨"CopiedFire", "areTwoRooms", "(II)Z"⟩ ∈ TB := TBm (tk2 (List.mem_of_getElem? (i := 161) (by decide +kernel))) rfl
theorem cnX9_157 : gCn RX9 157 yX9_areTwoRooms := Or.inl wd883
theorem wd884 : Cond.methodLink "CopiedFire" 160 ⟨"CopiedFire$House", "doorBetween", "(II)I"⟩ ∈ TB := TBm (tk2 (List.mem_of_getElem? (i := 164) (by decide +kernel))) rfl
theorem cnX9_160 : gCn RX9 160 yX0_doorBetween := Or.inl wd884
theorem wd885 : Cond.methodLink "CopiedFire" 163 ⟨"CopiedFire$House", "putDoor", "(III)V"⟩ ∈ TB := TBm (tk2 (List.mem_of_getElem? (i := 168) (by decide +kernel))) rfl
theorem cnX9_163 : gCn RX9 163 yX0_putDoor := Or.inl wd885
theorem wd886 : Cond.methodLink "CopiedFireLaw" 57 ⟨"CopiedFire", "doorTold", "(II)I"⟩ ∈ TB := TBm (tk2 (List.mem_of_getElem? (i := 172) (by decide +kernel))) rfl
theorem cnL_57 : gCn RL 57 yX9_doorTold := Or.inl wd886
theorem wd887 : Cond.methodLink "CopiedFireLaw" 61 ⟨"CopiedFire", "rule", "(II)I"⟩ ∈ TB := TBm (tk2 (List.mem_of_getElem? (i := 176) (by decide +kernel))) rfl
theorem cnL_61 : gCn RL 61 yX9_rule := Or.inl wd887
theorem wd888 : Cond.methodLink "CopiedFireLaw" 65 ⟨"CopiedFire", "visitor", "(I)I"⟩ ∈ TB := TBm (tk2 (List.mem_of_getElem? (i := 180) (by decide +kernel))) rfl
theorem cnL_65 : gCn RL 65 yX9_visitor := Or.inl wd888
theorem wd889 : Cond.methodLink "CopiedFireLaw" 69 ⟨"CopiedFire", "likes", "(II)I"⟩ ∈ TB := TBm (tk2 (List.mem_of_getElem? (i := 184) (by decide +kernel))) rfl
theorem cnL_69 : gCn RL 69 yX9_likes := Or.inl wd889
theorem wd890 : Cond.methodLink "CopiedFire" 179 ⟨"CopiedFire", "isVisitor", "(I)Z"⟩ ∈ TB := TBm (tk2 (List.mem_of_getElem? (i := 188) (by decide +kernel))) rfl
theorem cnX9_179 : gCn RX9 179 yX9_isVisitor := Or.inl wd890
theorem wd891 : Cond.methodLink "CopiedFireLaw" 73 ⟨"CopiedFire", "seats", "(I)I"⟩ ∈ TB := TBm (tk2 (List.mem_of_getElem? (i := 192) (by decide +kernel))) rfl
theorem cnL_73 : gCn RL 73 yX9_seats := Or.inl wd891
theorem wd892 : Cond.methodLink "CopiedFire" 182 ⟨"CopiedFire$Seating", "seatAll", "(LCopiedFire$House;)I"⟩ ∈ TB := TBm (tk2 (List.mem_of_getElem? (i := 196) (by decide +kernel))) rfl
theorem cnX9_182 : gCn RX9 182 yX4_seatAll := Or.inl wd892
theorem wd893 : Cond.methodLink "CopiedFire$Seating" 18 ⟨"CopiedFire$Seating", "gatherLikes", "(LCopiedFire$House;)V"⟩ ∈ TB := TBm (tk2 (List.mem_of_getElem? (i := 200) (by decide +kernel))) rfl
theorem cnX4_18 : gCn RX4 18 yX4_gatherLikes := Or.inl wd893
theorem wd894 : Cond.methodLink "CopiedFire$Seating" 28 ⟨"CopiedFire$Seating", "mostSeated", "(III)I"⟩ ∈ TB := TBm (tk2 (List.mem_of_getElem? (i := 204) (by decide +kernel))) rfl
theorem cnX4_28 : gCn RX4 28 yX4_mostSeated := Or.inl wd894
theorem wd895 : Cond.methodLink "CopiedFire$Seating" 43 ⟨"java/lang/Integer", "bitCount", "(I)I"⟩ ∈ TB := TBm (tk2 (List.mem_of_getElem? (i := 208) (by decide +kernel))) rfl
theorem cnX4_43 : gCn RX4 43 yJI_bitCount := Or.inl wd895
theorem wd896 : Cond.methodLink "CopiedFire$Seating" 49 ⟨"java/lang/Math", "min", "(II)I"⟩ ∈ TB := TBm (tk2 (List.mem_of_getElem? (i := 214) (by decide +kernel))) rfl
theorem cnX4_49 : Cond.methodLink RX4 49 Lib.Math.min.name ∈ TB := wd896
theorem wd897 : Cond.methodLink "CopiedFire$Seating" 32 ⟨"CopiedFire$Seating", "leastRoom", "(IIII)I"⟩ ∈ TB := TBm (tk2 (List.mem_of_getElem? (i := 215) (by decide +kernel))) rfl
theorem cnX4_32 : gCn RX4 32 yX4_leastRoom := Or.inl wd897
theorem wd898 : Cond.methodLink "CopiedFireLaw" 77 ⟨"CopiedFire", "way", "(II)I"⟩ ∈ TB := TBm (tk2 (List.mem_of_getElem? (i := 220) (by decide +kernel))) rfl
theorem cnL_77 : gCn RL 77 yX9_way := Or.inl wd898
theorem wd899 : Cond.methodLink "CopiedFire" 189 ⟨"CopiedFire$House", "reachedNext", "(I)I"⟩ ∈ TB := TBm (tk2 (List.mem_of_getElem? (i := 224) (by decide +kernel))) rfl
theorem cnX9_189 : gCn RX9 189 yX0_reachedNext := Or.inl wd899
theorem wd900 : Cond.methodLink "CopiedFire$House" 91 ⟨"CopiedFire$House", "doorBetween", "(II)I"⟩ ∈ TB := TBm (tk2 (List.mem_of_getElem? (i := 228) (by decide +kernel))) rfl
theorem cnX0_91 : gCn RX0 91 yX0_doorBetween := Or.inl wd900
theorem wd901 : Cond.methodLink "CopiedFireLaw" 81 ⟨"CopiedFire", "minutes", "(I)I"⟩ ∈ TB := TBm (tk2 (List.mem_of_getElem? (i := 230) (by decide +kernel))) rfl
theorem cnL_81 : gCn RL 81 yX9_minutes := Or.inl wd901
theorem wd902 : Cond.methodLink "CopiedFire" 199 ⟨"CopiedFire$House", "passMinute", "()V"⟩ ∈ TB := TBm (tk2 (List.mem_of_getElem? (i := 234) (by decide +kernel))) rfl
theorem cnX9_199 : gCn RX9 199 yX0_passMinute := Or.inl wd902
theorem wd903 : Cond.methodLink "CopiedFire$House" 108 ⟨"CopiedFire$House", "burnThings", "()V"⟩ ∈ TB := TBm (tk2 (List.mem_of_getElem? (i := 238) (by decide +kernel))) rfl
theorem cnX0_108 : gCn RX0 108 yX0_burnThings := Or.inl wd903
theorem wd904 : Cond.methodLink "CopiedFire$House" 123 ⟨"CopiedFire$House", "burnsOf", "(I)I"⟩ ∈ TB := TBm (tk3 (List.mem_of_getElem? (i := 2) (by decide +kernel))) rfl
theorem cnX0_123 : gCn RX0 123 yX0_burnsOf := Or.inl wd904
theorem wd905 : Cond.methodLink "CopiedFire$House" 127 ⟨"java/lang/Math", "min", "(II)I"⟩ ∈ TB := TBm (tk3 (List.mem_of_getElem? (i := 3) (by decide +kernel))) rfl
theorem cnX0_127 : Cond.methodLink RX0 127 Lib.Math.min.name ∈ TB := wd905
theorem wd906 : Cond.methodLink "CopiedFire$House" 132 ⟨"CopiedFire$Kinds", "gives", "(II)I"⟩ ∈ TB := TBm (tk3 (List.mem_of_getElem? (i := 4) (by decide +kernel))) rfl
theorem cnX0_132 : gCn RX0 132 yX1_gives := Or.inl wd906
theorem wd907 : Cond.methodLink "CopiedFire$House" 111 ⟨"CopiedFire$House", "spreadHeat", "()V"⟩ ∈ TB := TBm (tk3 (List.mem_of_getElem? (i := 5) (by decide +kernel))) rfl
theorem cnX0_111 : gCn RX0 111 yX0_spreadHeat := Or.inl wd907
theorem wd908 : Cond.methodLink "CopiedFire$House" 114 ⟨"CopiedFire$House", "coolRooms", "()V"⟩ ∈ TB := TBm (tk3 (List.mem_of_getElem? (i := 9) (by decide +kernel))) rfl
theorem cnX0_114 : gCn RX0 114 yX0_coolRooms := Or.inl wd908
theorem wd909 : Cond.methodLink "CopiedFire$House" 135 ⟨"java/lang/Math", "max", "(II)I"⟩ ∈ TB := TBm (tk3 (List.mem_of_getElem? (i := 13) (by decide +kernel))) rfl
theorem cnX0_135 : Cond.methodLink RX0 135 Lib.Math.max.name ∈ TB := wd909
theorem wd910 : Cond.methodLink "CopiedFire$House" 117 ⟨"CopiedFire$House", "lightThings", "()V"⟩ ∈ TB := TBm (tk3 (List.mem_of_getElem? (i := 14) (by decide +kernel))) rfl
theorem cnX0_117 : gCn RX0 117 yX0_lightThings := Or.inl wd910
theorem wd911 : Cond.methodLink "CopiedFire$House" 138 ⟨"CopiedFire$Kinds", "catchesFrom", "(I)I"⟩ ∈ TB := TBm (tk3 (List.mem_of_getElem? (i := 18) (by decide +kernel))) rfl
theorem cnX0_138 : gCn RX0 138 yX1_catchesFrom := Or.inl wd911
theorem wd912 : Cond.methodLink "CopiedFire$House" 120 ⟨"CopiedFire$House", "blowWind", "()V"⟩ ∈ TB := TBm (tk3 (List.mem_of_getElem? (i := 19) (by decide +kernel))) rfl
theorem cnX0_120 : gCn RX0 120 yX0_blowWind := Or.inl wd912
theorem wd913 : Cond.methodLink "CopiedFire$House" 141 ⟨"CopiedFire$House", "putDoor", "(III)V"⟩ ∈ TB := TBm (tk3 (List.mem_of_getElem? (i := 23) (by decide +kernel))) rfl
theorem cnX0_141 : gCn RX0 141 yX0_putDoor := Or.inl wd913
theorem wd914 : Cond.methodLink "CopiedFireLaw" 85 ⟨"CopiedFire", "house", "(I)I"⟩ ∈ TB := TBm (tk3 (List.mem_of_getElem? (i := 24) (by decide +kernel))) rfl
theorem cnL_85 : gCn RL 85 yX9_house := Or.inl wd914
theorem wd915 : Cond.methodLink "CopiedFire" 208 ⟨"CopiedFire$House", "litSet", "()I"⟩ ∈ TB := TBm (tk3 (List.mem_of_getElem? (i := 28) (by decide +kernel))) rfl
theorem cnX9_208 : gCn RX9 208 yX0_litSet := Or.inl wd915
theorem wd916 : Cond.methodLink "CopiedFire" 212 ⟨"CopiedFire$House", "heatTogether", "()I"⟩ ∈ TB := TBm (tk3 (List.mem_of_getElem? (i := 32) (by decide +kernel))) rfl
theorem cnX9_212 : gCn RX9 212 yX0_heatTogether := Or.inl wd916
theorem wd917 : Cond.methodLink "CopiedFireLaw" 89 ⟨"CopiedFire", "behind", "(II)I"⟩ ∈ TB := TBm (tk3 (List.mem_of_getElem? (i := 36) (by decide +kernel))) rfl
theorem cnL_89 : gCn RL 89 yX9_behind := Or.inl wd917
theorem wd918 : Cond.methodLink "CopiedFire" 215 ⟨"CopiedFire$House", "becomeAs", "(LCopiedFire$House;)V"⟩ ∈ TB := TBm (tk3 (List.mem_of_getElem? (i := 40) (by decide +kernel))) rfl
theorem cnX9_215 : gCn RX9 215 yX0_becomeAs := Or.inl wd918
theorem wd919 : Cond.methodLink "CopiedFire$House" 56 ⟨"java/lang/System", "arraycopy", "(Ljava/lang/Object;ILjava/lang/Object;II)V"⟩ ∈ TB := TBm (tk3 (List.mem_of_getElem? (i := 44) (by decide +kernel))) rfl
theorem cnX0_56 : Cond.methodLink RX0 56 arraycopyName ∈ TB := wd919
theorem wd920 : Cond.methodLink "CopiedFire" 220 ⟨"CopiedFire", "thinkOn", "(II)I"⟩ ∈ TB := TBm (tk3 (List.mem_of_getElem? (i := 48) (by decide +kernel))) rfl
theorem cnX9_220 : gCn RX9 220 yX9_thinkOn := Or.inl wd920
theorem wd921 : Cond.methodLink "CopiedFireLaw" 93 ⟨"CopiedFire", "out", "()I"⟩ ∈ TB := TBm (tk3 (List.mem_of_getElem? (i := 52) (by decide +kernel))) rfl
theorem cnL_93 : gCn RL 93 yX9_out := Or.inl wd921
theorem wd922 : Cond.methodLink "CopiedFireLaw" 98 ⟨"CopiedFire", "hot", "(I)I"⟩ ∈ TB := TBm (tk3 (List.mem_of_getElem? (i := 56) (by decide +kernel))) rfl
theorem cnL_98 : gCn RL 98 yX9_hot := Or.inl wd922
theorem wd923 : Cond.methodLink "CopiedFireLaw" 102 ⟨"CopiedFire", "shut", "(II)I"⟩ ∈ TB := TBm (tk3 (List.mem_of_getElem? (i := 60) (by decide +kernel))) rfl
theorem cnL_102 : gCn RL 102 yX9_shut := Or.inl wd923
theorem wd924 : Cond.methodLink "CopiedFireLaw" 106 ⟨"CopiedFire", "hired", "(II)I"⟩ ∈ TB := TBm (tk3 (List.mem_of_getElem? (i := 64) (by decide +kernel))) rfl
theorem cnL_106 : gCn RL 106 yX9_hired := Or.inl wd924
theorem wd925 : Cond.methodLink "CopiedFireLaw" 110 ⟨"CopiedFire", "becomes", "(III)I"⟩ ∈ TB := TBm (tk3 (List.mem_of_getElem? (i := 68) (by decide +kernel))) rfl
theorem cnL_110 : gCn RL 110 yX9_becomes := Or.inl wd925
theorem wd926 : Cond.methodLink "CopiedFireLaw" 114 ⟨"CopiedFire", "began", "(I)I"⟩ ∈ TB := TBm (tk3 (List.mem_of_getElem? (i := 72) (by decide +kernel))) rfl
theorem cnL_114 : gCn RL 114 yX9_began := Or.inl wd926
theorem wd927 : Cond.methodLink "CopiedFire" 223 ⟨"CopiedFire", "isSheet", "(I)Z"⟩ ∈ TB := TBm (tk3 (List.mem_of_getElem? (i := 76) (by decide +kernel))) rfl
theorem cnX9_223 : gCn RX9 223 yX9_isSheet := Or.inl wd927
theorem wd928 : Cond.methodLink "CopiedFire" 226 ⟨"CopiedFire$Sheet", "isMissing", "()Z"⟩ ∈ TB := TBm (tk3 (List.mem_of_getElem? (i := 79) (by decide +kernel))) rfl
theorem cnX9_226 : gCn RX9 226 yX5_isMissing := Or.inl wd928
theorem wd929 : Cond.methodLink "CopiedFire" 231 ⟨"CopiedFire", "canHaveBegunBy", "(ILCopiedFire$Sheet;)Z"⟩ ∈ TB := TBm (tk3 (List.mem_of_getElem? (i := 84) (by decide +kernel))) rfl
theorem cnX9_231 : gCn RX9 231 yX9_canHaveBegunBy := Or.inl wd929
theorem wd930 : Cond.methodLink "CopiedFire" 339 ⟨"java/util/Arrays", "fill", "([II)V"⟩ ∈ TB := TBm (tk3 (List.mem_of_getElem? (i := 88) (by decide +kernel))) rfl
theorem cnX9_339 : gCn RX9 339 yJA_fill := Or.inl wd930
theorem wd931 : Cond.methodLink "CopiedFire" 295 ⟨"CopiedFire$Sheet", "hasNumber", "(I)Z"⟩ ∈ TB := TBm (tk3 (List.mem_of_getElem? (i := 89) (by decide +kernel))) rfl
theorem cnX9_295 : gCn RX9 295 yX5_hasNumber := Or.inl wd931
theorem wd932 : Cond.methodLink "CopiedFire$Sheet" 38 ⟨"CopiedFire$Sheet", "hasPlace", "(I)Z"⟩ ∈ TB := TBm (tk3 (List.mem_of_getElem? (i := 93) (by decide +kernel))) rfl
theorem cnX5_38 : gCn RX5 38 yX5_hasPlace := Or.inl wd932
theorem wn39 : Cond.methodLinkNest "CopiedFire$Sheet" 34 ⟨"CopiedFire", "within", "(III)Z"⟩ "CopiedFire" ∈ NW := NWm (tk3 (List.mem_of_getElem? (i := 97) (by decide +kernel))) rfl
theorem cnX5_34 : gCn RX5 34 yX9_within := Or.inr ⟨_, wn39⟩
theorem wd933 : Cond.methodLink "CopiedFire" 345 ⟨"java/lang/Integer", "bitCount", "(I)I"⟩ ∈ TB := TBm (tk3 (List.mem_of_getElem? (i := 99) (by decide +kernel))) rfl
theorem cnX9_345 : gCn RX9 345 yJI_bitCount := Or.inl wd933
theorem wd934 : Cond.methodLink "CopiedFireLaw" 118 ⟨"CopiedFire", "like", "(II)I"⟩ ∈ TB := TBm (tk3 (List.mem_of_getElem? (i := 100) (by decide +kernel))) rfl
theorem cnL_118 : gCn RL 118 yX9_like := Or.inl wd934
theorem wd935 : Cond.methodLink "CopiedFire" 235 ⟨"CopiedFire", "sumDifferences", "(LCopiedFire$Sheet;)V"⟩ ∈ TB := TBm (tk3 (List.mem_of_getElem? (i := 104) (by decide +kernel))) rfl
theorem cnX9_235 : gCn RX9 235 yX9_sumDifferences := Or.inl wd935
theorem wd936 : Cond.methodLink "CopiedFire" 350 ⟨"java/lang/Math", "abs", "(I)I"⟩ ∈ TB := TBm (tk3 (List.mem_of_getElem? (i := 108) (by decide +kernel))) rfl
theorem cnX9_350 : Cond.methodLink RX9 350 Lib.Math.abs.name ∈ TB := wd936
theorem wd937 : Cond.methodLink "CopiedFireLaw" 122 ⟨"CopiedFire", "fee", "()I"⟩ ∈ TB := TBm (tk3 (List.mem_of_getElem? (i := 111) (by decide +kernel))) rfl
theorem cnL_122 : gCn RL 122 yX9_fee := Or.inl wd937
theorem wd938 : Cond.methodLink "CopiedFire" 242 ⟨"CopiedFire$Laws", "work", "(IIII)I"⟩ ∈ TB := TBm (tk3 (List.mem_of_getElem? (i := 115) (by decide +kernel))) rfl
theorem cnX9_242 : gCn RX9 242 yX2_work := Or.inl wd938
theorem wd939 : Cond.methodLink "CopiedFireLaw" 126 ⟨"CopiedFire", "fine", "(I)I"⟩ ∈ TB := TBm (tk3 (List.mem_of_getElem? (i := 116) (by decide +kernel))) rfl
theorem cnL_126 : gCn RL 126 yX9_fine := Or.inl wd939
theorem wd940 : Cond.methodLink "CopiedFireLaw" 130 ⟨"CopiedFire", "feed", "(III)I"⟩ ∈ TB := TBm (tk3 (List.mem_of_getElem? (i := 120) (by decide +kernel))) rfl
theorem cnL_130 : gCn RL 130 yX9_feed := Or.inl wd940
theorem wd941 : Cond.methodLink "CopiedFire" 248 ⟨"CopiedFire$Tape", "addFour", "(I)V"⟩ ∈ TB := TBm (tk3 (List.mem_of_getElem? (i := 124) (by decide +kernel))) rfl
theorem cnX9_248 : gCn RX9 248 yX7_addFour := Or.inl wd941
theorem wd942 : Cond.methodLink "CopiedFireLaw" 134 ⟨"CopiedFire", "trim", "(I)I"⟩ ∈ TB := TBm (tk3 (List.mem_of_getElem? (i := 128) (by decide +kernel))) rfl
theorem cnL_134 : gCn RL 134 yX9_trim := Or.inl wd942
theorem wd943 : Cond.methodLink "CopiedFireLaw" 138 ⟨"CopiedFire", "text", "()I"⟩ ∈ TB := TBm (tk3 (List.mem_of_getElem? (i := 132) (by decide +kernel))) rfl
theorem cnL_138 : gCn RL 138 yX9_text := Or.inl wd943
theorem wd944 : Cond.methodLink "CopiedFire" 252 ⟨"CopiedFire$Reader", "readText", "()V"⟩ ∈ TB := TBm (tk3 (List.mem_of_getElem? (i := 136) (by decide +kernel))) rfl
theorem cnX9_252 : gCn RX9 252 yX3_readText := Or.inl wd944
theorem wd945 : Cond.methodLink "CopiedFire$Reader" 35 ⟨"CopiedFire$Reader", "goOn", "()V"⟩ ∈ TB := TBm (tk3 (List.mem_of_getElem? (i := 140) (by decide +kernel))) rfl
theorem cnX3_35 : gCn RX3 35 yX3_goOn := Or.inl wd945
theorem wd946 : Cond.methodLink "CopiedFire$Reader" 66 ⟨"CopiedFire$Reader", "endOfRow", "(III)I"⟩ ∈ TB := TBm (tk3 (List.mem_of_getElem? (i := 144) (by decide +kernel))) rfl
theorem cnX3_66 : gCn RX3 66 yX3_endOfRow := Or.inl wd946
theorem wn40 : Cond.methodLinkNest "CopiedFire$Reader" 78 ⟨"CopiedFire", "within", "(III)Z"⟩ "CopiedFire" ∈ NW := NWm (tk3 (List.mem_of_getElem? (i := 148) (by decide +kernel))) rfl
theorem cnX3_78 : gCn RX3 78 yX9_within := Or.inr ⟨_, wn40⟩
theorem wd947 : Cond.methodLink "CopiedFire$Reader" 38 ⟨"CopiedFire$Reader", "keyRead", "()I"⟩ ∈ TB := TBm (tk3 (List.mem_of_getElem? (i := 149) (by decide +kernel))) rfl
theorem cnX3_38 : gCn RX3 38 yX3_keyRead := Or.inl wd947
theorem wd948 : Cond.methodLink "CopiedFire$Reader" 84 ⟨"CopiedFire$Reader", "isWord", "(Ljava/lang/String;)Z"⟩ ∈ TB := TBm (tk3 (List.mem_of_getElem? (i := 154) (by decide +kernel))) rfl
theorem cnX3_84 : gCn RX3 84 yX3_isWord := Or.inl wd948
theorem wd949 : Cond.methodLink "CopiedFire$Reader" 92 ⟨"java/lang/String", "length", "()I"⟩ ∈ TB := TBm (tk3 (List.mem_of_getElem? (i := 158) (by decide +kernel))) rfl
theorem cnX3_92 : gCn RX3 92 yJS_length := Or.inl wd949
theorem wd950 : Cond.methodLink "java/lang/String" 335 ⟨"java/lang/String", "coder", "()B"⟩ ∈ TB := TBm (tk3 (List.mem_of_getElem? (i := 162) (by decide +kernel))) rfl
theorem cnJS_335 : gCn RJS 335 yJS_coder := Or.inl wd950
theorem wd951 : Cond.methodLink "CopiedFire$Reader" 96 ⟨"java/lang/String", "charAt", "(I)C"⟩ ∈ TB := TBm (tk3 (List.mem_of_getElem? (i := 168) (by decide +kernel))) rfl
theorem cnX3_96 : gCn RX3 96 yJS_charAt := Or.inl wd951
theorem wd952 : Cond.methodLink "java/lang/String" 492 ⟨"java/lang/String", "isLatin1", "()Z"⟩ ∈ TB := TBm (tk3 (List.mem_of_getElem? (i := 172) (by decide +kernel))) rfl
theorem cnJS_492 : gCn RJS 492 yJS_isLatin1 := Or.inl wd952
theorem wd953 : Cond.methodLink "java/lang/String" 495 ⟨"java/lang/StringLatin1", "charAt", "([BI)C"⟩ ∈ TB := TBm (tk3 (List.mem_of_getElem? (i := 176) (by decide +kernel))) rfl
theorem cnJS_495 : gCn RJS 495 yJL_charAt := Or.inl wd953
theorem wd954 : Cond.methodLink "java/lang/StringLatin1" 9 ⟨"java/lang/String", "checkIndex", "(II)V"⟩ ∈ TB := TBm (tk3 (List.mem_of_getElem? (i := 179) (by decide +kernel))) rfl
theorem cnJL_9 : gCn RJL 9 yJS_checkIndex := Or.inl wd954
theorem wd955 : Cond.methodLink "java/lang/String" 1059 ⟨"jdk/internal/util/Preconditions", "checkIndex", "(IILjava/util/function/BiFunction;)I"⟩ ∈ TB := TBm (tk3 (List.mem_of_getElem? (i := 184) (by decide +kernel))) rfl
theorem cnJS_1059 : gCn RJS 1059 yJP_checkIndex := Or.inl wd955
theorem wd956 : Cond.methodLink "CopiedFire$Reader" 45 ⟨"CopiedFire$Reader", "stop", "()V"⟩ ∈ TB := TBm (tk3 (List.mem_of_getElem? (i := 208) (by decide +kernel))) rfl
theorem cnX3_45 : gCn RX3 45 yX3_stop := Or.inl wd956
theorem wd957 : Cond.methodLink "CopiedFire$Reader" 48 ⟨"CopiedFire$Reader", "readLevel", "(III)V"⟩ ∈ TB := TBm (tk3 (List.mem_of_getElem? (i := 212) (by decide +kernel))) rfl
theorem cnX3_48 : gCn RX3 48 yX3_readLevel := Or.inl wd957
theorem wd958 : Cond.methodLink "CopiedFire$Reader" 110 ⟨"CopiedFire$Reader", "readPiece", "(II)V"⟩ ∈ TB := TBm (tk3 (List.mem_of_getElem? (i := 216) (by decide +kernel))) rfl
theorem cnX3_110 : gCn RX3 110 yX3_readPiece := Or.inl wd958
theorem wd959 : Cond.methodLink "CopiedFire$Reader" 122 ⟨"CopiedFire$Reader", "nameRead", "()I"⟩ ∈ TB := TBm (tk3 (List.mem_of_getElem? (i := 220) (by decide +kernel))) rfl
theorem cnX3_122 : gCn RX3 122 yX3_nameRead := Or.inl wd959
theorem wd960 : Cond.methodLink "CopiedFire$Reader" 106 ⟨"java/lang/String", "indexOf", "(I)I"⟩ ∈ TB := TBm (tk3 (List.mem_of_getElem? (i := 227) (by decide +kernel))) rfl
theorem cnX3_106 : gCn RX3 106 yJS_indexOf := Or.inl wd960
theorem wd961 : Cond.methodLink "java/lang/String" 633 ⟨"java/lang/String", "indexOf", "(II)I"⟩ ∈ TB := TBm (tk3 (List.mem_of_getElem? (i := 231) (by decide +kernel))) rfl
theorem cnJS_633 : gCn RJS 633 yJS_indexOf2 := Or.inl wd961
theorem wd962 : Cond.methodLink "java/lang/String" 505 ⟨"java/lang/String", "length", "()I"⟩ ∈ TB := TBm (tk3 (List.mem_of_getElem? (i := 235) (by decide +kernel))) rfl
theorem cnJS_505 : gCn RJS 505 yJS_length := Or.inl wd962
theorem wd963 : Cond.methodLink "java/lang/String" 637 ⟨"java/lang/StringLatin1", "indexOf", "([BIII)I"⟩ ∈ TB := TBm (tk3 (List.mem_of_getElem? (i := 236) (by decide +kernel))) rfl
theorem cnJS_637 : gCn RJS 637 yJL_indexOf := Or.inl wd963
theorem wd964 : Cond.methodLink "java/lang/StringLatin1" 88 ⟨"java/lang/StringLatin1", "canEncode", "(I)Z"⟩ ∈ TB := TBm (tk3 (List.mem_of_getElem? (i := 239) (by decide +kernel))) rfl
theorem cnJL_88 : gCn RJL 88 yJL_canEncode := Or.inl wd964
theorem wd965 : Cond.methodLink "java/lang/StringLatin1" 92 ⟨"java/lang/Math", "max", "(II)I"⟩ ∈ TB := TBm (tk4 (List.mem_of_getElem? (i := 2) (by decide +kernel))) rfl
theorem cnJL_92 : Cond.methodLink RJL 92 Lib.Math.max.name ∈ TB := wd965
theorem wd966 : Cond.methodLink "java/lang/StringLatin1" 38 ⟨"java/lang/Math", "min", "(II)I"⟩ ∈ TB := TBm (tk4 (List.mem_of_getElem? (i := 3) (by decide +kernel))) rfl
theorem cnJL_38 : Cond.methodLink RJL 38 Lib.Math.min.name ∈ TB := wd966
theorem wd967 : Cond.methodLink "java/lang/StringLatin1" 95 ⟨"java/lang/StringLatin1", "indexOfChar", "([BIII)I"⟩ ∈ TB := TBm (tk4 (List.mem_of_getElem? (i := 4) (by decide +kernel))) rfl
theorem cnJL_95 : gCn RJL 95 yJL_indexOfChar := Or.inl wd967
theorem wd968 : Cond.methodLink "CopiedFire$Reader" 127 ⟨"CopiedFire$Reader", "addOperand", "(I)V"⟩ ∈ TB := TBm (tk4 (List.mem_of_getElem? (i := 42) (by decide +kernel))) rfl
theorem cnX3_127 : gCn RX3 127 yX3_addOperand := Or.inl wd968
theorem wd969 : Cond.methodLink "CopiedFire$Reader" 118 ⟨"CopiedFire$Reader", "addStep", "(I)V"⟩ ∈ TB := TBm (tk4 (List.mem_of_getElem? (i := 46) (by decide +kernel))) rfl
theorem cnX3_118 : gCn RX3 118 yX3_addStep := Or.inl wd969
theorem wd970 : Cond.methodLink "CopiedFire$Reader" 130 ⟨"CopiedFire$Reader", "numberRead", "()I"⟩ ∈ TB := TBm (tk4 (List.mem_of_getElem? (i := 50) (by decide +kernel))) rfl
theorem cnX3_130 : gCn RX3 130 yX3_numberRead := Or.inl wd970
theorem wd971 : Cond.methodLink "CopiedFire$Reader" 114 ⟨"CopiedFire$Reader", "isSignOf", "(I)Z"⟩ ∈ TB := TBm (tk4 (List.mem_of_getElem? (i := 54) (by decide +kernel))) rfl
theorem cnX3_114 : gCn RX3 114 yX3_isSignOf := Or.inl wd971
theorem wd972 : Cond.methodLink "CopiedFire" 261 ⟨"CopiedFire$Reader", "madeText", "()LCopiedFire$Text;"⟩ ∈ TB := TBm (tk4 (List.mem_of_getElem? (i := 58) (by decide +kernel))) rfl
theorem cnX9_261 : gCn RX9 261 yX3_madeText := Or.inl wd972
theorem wd973 : Cond.methodLink "CopiedFire$Reader" 54 ⟨"java/util/Arrays", "copyOf", "([II)[I"⟩ ∈ TB := TBm (tk4 (List.mem_of_getElem? (i := 64) (by decide +kernel))) rfl
theorem cnX3_54 : gCn RX3 54 yJA_copyOf := Or.inl wd973
theorem wd974 : Cond.methodLink "java/util/Arrays" 304 ⟨"java/lang/Math", "min", "(II)I"⟩ ∈ TB := TBm (tk4 (List.mem_of_getElem? (i := 74) (by decide +kernel))) rfl
theorem cnJA_304 : Cond.methodLink RJA 304 Lib.Math.min.name ∈ TB := wd974
theorem wd975 : Cond.methodLink "java/util/Arrays" 150 ⟨"java/lang/System", "arraycopy", "(Ljava/lang/Object;ILjava/lang/Object;II)V"⟩ ∈ TB := TBm (tk4 (List.mem_of_getElem? (i := 75) (by decide +kernel))) rfl
theorem cnJA_150 : Cond.methodLink RJA 150 arraycopyName ∈ TB := wd975
theorem wd976 : Cond.methodLink "CopiedFire$Reader" 60 ⟨"CopiedFire$Text", "<init>", "(II[I)V"⟩ ∈ TB := TBm (tk4 (List.mem_of_getElem? (i := 76) (by decide +kernel))) rfl
theorem cnX3_60 : gCn RX3 60 yX8_init := Or.inl wd976
theorem wd977 : Cond.methodLink "CopiedFire" 265 ⟨"CopiedFire$Laws", "put", "(ILCopiedFire$Text;)V"⟩ ∈ TB := TBm (tk4 (List.mem_of_getElem? (i := 94) (by decide +kernel))) rfl
theorem cnX9_265 : gCn RX9 265 yX2_put := Or.inl wd977
theorem wd978 : Cond.methodLink "CopiedFireLaw" 142 ⟨"CopiedFire", "textTold", "(II)I"⟩ ∈ TB := TBm (tk4 (List.mem_of_getElem? (i := 98) (by decide +kernel))) rfl
theorem cnL_142 : gCn RL 142 yX9_textTold := Or.inl wd978
theorem wd979 : Cond.methodLink "CopiedFire" 272 ⟨"CopiedFire$Laws", "keyOf", "(I)I"⟩ ∈ TB := TBm (tk4 (List.mem_of_getElem? (i := 102) (by decide +kernel))) rfl
theorem cnX9_272 : gCn RX9 272 yX2_keyOf := Or.inl wd979
theorem wd980 : Cond.methodLink "CopiedFire" 275 ⟨"CopiedFire$Laws", "operandsOf", "(I)I"⟩ ∈ TB := TBm (tk4 (List.mem_of_getElem? (i := 107) (by decide +kernel))) rfl
theorem cnX9_275 : gCn RX9 275 yX2_operandsOf := Or.inl wd980
theorem wd981 : Cond.methodLink "CopiedFireLaw" 146 ⟨"CopiedFire", "why", "(I)I"⟩ ∈ TB := TBm (tk4 (List.mem_of_getElem? (i := 111) (by decide +kernel))) rfl
theorem cnL_146 : gCn RL 146 yX9_why := Or.inl wd981
theorem wd982 : Cond.methodLink "CopiedFireLaw" 150 ⟨"CopiedFire", "sheet", "(III)I"⟩ ∈ TB := TBm (tk4 (List.mem_of_getElem? (i := 115) (by decide +kernel))) rfl
theorem cnL_150 : gCn RL 150 yX9_sheet := Or.inl wd982
theorem wd983 : Cond.methodLink "CopiedFire" 278 ⟨"CopiedFire$Sheet", "renew", "(II)V"⟩ ∈ TB := TBm (tk4 (List.mem_of_getElem? (i := 119) (by decide +kernel))) rfl
theorem cnX9_278 : gCn RX9 278 yX5_renew := Or.inl wd983
theorem wd984 : Cond.methodLink "CopiedFire$Sheet" 22 ⟨"java/util/Arrays", "fill", "([II)V"⟩ ∈ TB := TBm (tk4 (List.mem_of_getElem? (i := 123) (by decide +kernel))) rfl
theorem cnX5_22 : gCn RX5 22 yJA_fill := Or.inl wd984
theorem wd985 : Cond.methodLink "CopiedFireLaw" 154 ⟨"CopiedFire", "mark", "(III)I"⟩ ∈ TB := TBm (tk4 (List.mem_of_getElem? (i := 125) (by decide +kernel))) rfl
theorem cnL_154 : gCn RL 154 yX9_mark := Or.inl wd985
theorem wd986 : Cond.methodLink "CopiedFire" 283 ⟨"CopiedFire$Sheet", "hasPlace", "(I)Z"⟩ ∈ TB := TBm (tk4 (List.mem_of_getElem? (i := 129) (by decide +kernel))) rfl
theorem cnX9_283 : gCn RX9 283 yX5_hasPlace := Or.inl wd986
theorem wd987 : Cond.methodLink "CopiedFireLaw" 158 ⟨"CopiedFire", "pour", "(I)I"⟩ ∈ TB := TBm (tk4 (List.mem_of_getElem? (i := 133) (by decide +kernel))) rfl
theorem cnL_158 : gCn RL 158 yX9_pour := Or.inl wd987
theorem wd988 : Cond.methodLink "CopiedFire" 298 ⟨"CopiedFire", "held", "(II)I"⟩ ∈ TB := TBm (tk4 (List.mem_of_getElem? (i := 137) (by decide +kernel))) rfl
theorem cnX9_298 : gCn RX9 298 yX9_held := Or.inl wd988
theorem wd989 : Cond.methodLink "CopiedFireLaw" 162 ⟨"CopiedFire", "reads", "(I)I"⟩ ∈ TB := TBm (tk4 (List.mem_of_getElem? (i := 138) (by decide +kernel))) rfl
theorem cnL_162 : gCn RL 162 yX9_reads := Or.inl wd989
theorem wd990 : Cond.methodLink "CopiedFireLaw" 166 ⟨"CopiedFire", "copy", "(IIIII)I"⟩ ∈ TB := TBm (tk4 (List.mem_of_getElem? (i := 142) (by decide +kernel))) rfl
theorem cnL_166 : gCn RL 166 yX9_copy := Or.inl wd990
theorem wd991 : Cond.methodLink "CopiedFire" 302 ⟨"CopiedFire$Sheet", "hasRow", "(II)Z"⟩ ∈ TB := TBm (tk4 (List.mem_of_getElem? (i := 146) (by decide +kernel))) rfl
theorem cnX9_302 : gCn RX9 302 yX5_hasRow := Or.inl wd991
theorem wd992 : Cond.methodLink "CopiedFire" 305 ⟨"java/lang/System", "arraycopy", "(Ljava/lang/Object;ILjava/lang/Object;II)V"⟩ ∈ TB := TBm (tk4 (List.mem_of_getElem? (i := 150) (by decide +kernel))) rfl
theorem cnX9_305 : Cond.methodLink RX9 305 arraycopyName ∈ TB := wd992
theorem wd993 : Cond.methodLink "CopiedFireLaw" 171 ⟨"CopiedFire", "lay", "(III)I"⟩ ∈ TB := TBm (tk4 (List.mem_of_getElem? (i := 151) (by decide +kernel))) rfl
theorem cnL_171 : gCn RL 171 yX9_lay := Or.inl wd993
theorem wd994 : Cond.methodLink "CopiedFire" 311 ⟨"CopiedFire", "isSlot", "(I)Z"⟩ ∈ TB := TBm (tk4 (List.mem_of_getElem? (i := 155) (by decide +kernel))) rfl
theorem cnX9_311 : gCn RX9 311 yX9_isSlot := Or.inl wd994
theorem wd995 : Cond.methodLink "CopiedFire" 327 ⟨"CopiedFire$Sheet", "becomeAs", "(LCopiedFire$Sheet;)V"⟩ ∈ TB := TBm (tk4 (List.mem_of_getElem? (i := 158) (by decide +kernel))) rfl
theorem cnX9_327 : gCn RX9 327 yX5_becomeAs := Or.inl wd995
theorem wd996 : Cond.methodLink "CopiedFire$Sheet" 28 ⟨"java/lang/System", "arraycopy", "(Ljava/lang/Object;ILjava/lang/Object;II)V"⟩ ∈ TB := TBm (tk4 (List.mem_of_getElem? (i := 162) (by decide +kernel))) rfl
theorem cnX5_28 : Cond.methodLink RX5 28 arraycopyName ∈ TB := wd996
theorem wd997 : Cond.methodLink "CopiedFireLaw" 175 ⟨"CopiedFire", "ask", "(II)I"⟩ ∈ TB := TBm (tk4 (List.mem_of_getElem? (i := 163) (by decide +kernel))) rfl
theorem cnL_175 : gCn RL 175 yX9_ask := Or.inl wd997
theorem wd998 : Cond.methodLink "CopiedFire" 332 ⟨"CopiedFire", "findingFor", "(II)I"⟩ ∈ TB := TBm (tk4 (List.mem_of_getElem? (i := 167) (by decide +kernel))) rfl
theorem cnX9_332 : gCn RX9 332 yX9_findingFor := Or.inl wd998
theorem wd999 : Cond.methodLink "CopiedFireLaw" 179 ⟨"CopiedFire", "item", "(II)I"⟩ ∈ TB := TBm (tk4 (List.mem_of_getElem? (i := 171) (by decide +kernel))) rfl
theorem cnL_179 : gCn RL 179 yX9_item := Or.inl wd999
theorem wd1000 : Cond.methodLink "CopiedFireLaw" 183 ⟨"CopiedFire", "rest", "(II)I"⟩ ∈ TB := TBm (tk4 (List.mem_of_getElem? (i := 175) (by decide +kernel))) rfl
theorem cnL_183 : gCn RL 183 yX9_rest := Or.inl wd1000
theorem wd1001 : Cond.methodLink "CopiedFireLaw" 187 ⟨"CopiedFire", "tell", "(I)I"⟩ ∈ TB := TBm (tk4 (List.mem_of_getElem? (i := 180) (by decide +kernel))) rfl
theorem cnL_187 : gCn RL 187 yX9_tell := Or.inl wd1001
theorem wd1002 : Cond.methodLink "CopiedFireLaw" 191 ⟨"CopiedFire", "check", "(I)I"⟩ ∈ TB := TBm (tk4 (List.mem_of_getElem? (i := 184) (by decide +kernel))) rfl
theorem cnL_191 : gCn RL 191 yX9_check := Or.inl wd1002
theorem wd1003 : Cond.methodLink "CopiedFireLaw" 195 ⟨"CopiedFire", "keep", "()I"⟩ ∈ TB := TBm (tk4 (List.mem_of_getElem? (i := 188) (by decide +kernel))) rfl
theorem cnL_195 : gCn RL 195 yX9_keep := Or.inl wd1003
theorem wd1004 : Cond.methodLink "CopiedFireLaw" 199 ⟨"CopiedFire", "back", "()I"⟩ ∈ TB := TBm (tk4 (List.mem_of_getElem? (i := 192) (by decide +kernel))) rfl
theorem cnL_199 : gCn RL 199 yX9_back := Or.inl wd1004
theorem wd1005 : Cond.methodLink "CopiedFireLaw" 203 ⟨"CopiedFire", "count", "(I)I"⟩ ∈ TB := TBm (tk4 (List.mem_of_getElem? (i := 196) (by decide +kernel))) rfl
theorem cnL_203 : gCn RL 203 yX9_count := Or.inl wd1005
theorem wd1006 : Cond.methodLink "CopiedFireLaw" 12 ⟨"CopiedFireModel", "<init>", "()V"⟩ ∈ TB := TBm (tk4 (List.mem_of_getElem? (i := 202) (by decide +kernel))) rfl
theorem cnL_12 : gCn RL 12 yX10_init := Or.inl wd1006
theorem wd1007 : Cond.methodLink "CopiedFireLaw" 17 ⟨"CopiedFireModel", "thing", "(IIII)I"⟩ ∈ TB := TBm (tk5 (List.mem_of_getElem? (i := 80) (by decide +kernel))) rfl
theorem cnL_17 : gCn RL 17 yX10_thing := Or.inl wd1007
theorem wd1008 : Cond.methodLink "CopiedFireModel" 84 ⟨"CopiedFireModel", "in", "(III)Z"⟩ ∈ TB := TBm (tk5 (List.mem_of_getElem? (i := 84) (by decide +kernel))) rfl
theorem cnX10_84 : gCn RX10 84 yX10_in := Or.inl wd1008
theorem wd1009 : Cond.methodLink "CopiedFireModel" 111 ⟨"CopiedFireModel", "isOf", "(II)Z"⟩ ∈ TB := TBm (tk5 (List.mem_of_getElem? (i := 87) (by decide +kernel))) rfl
theorem cnX10_111 : gCn RX10 111 yX10_isOf := Or.inl wd1009
theorem wd1010 : Cond.methodLink "CopiedFireModel" 103 ⟨"CopiedFireModel", "isRoom", "(I)Z"⟩ ∈ TB := TBm (tk5 (List.mem_of_getElem? (i := 90) (by decide +kernel))) rfl
theorem cnX10_103 : gCn RX10 103 yX10_isRoom := Or.inl wd1010
theorem wd1011 : Cond.methodLink "CopiedFireModel" 117 ⟨"CopiedFireModel", "comes", "(IIII)I"⟩ ∈ TB := TBm (tk5 (List.mem_of_getElem? (i := 95) (by decide +kernel))) rfl
theorem cnX10_117 : gCn RX10 117 yX10_comes := Or.inl wd1011
theorem wd1012 : Cond.methodLink "CopiedFireModel" 107 ⟨"CopiedFireModel", "put", "(III)V"⟩ ∈ TB := TBm (tk5 (List.mem_of_getElem? (i := 99) (by decide +kernel))) rfl
theorem cnX10_107 : gCn RX10 107 yX10_put := Or.inl wd1012
theorem wd1013 : Cond.methodLink "CopiedFireLaw" 22 ⟨"CopiedFireModel", "told", "(II)I"⟩ ∈ TB := TBm (tk5 (List.mem_of_getElem? (i := 103) (by decide +kernel))) rfl
theorem cnL_22 : gCn RL 22 yX10_told := Or.inl wd1013
theorem wd1014 : Cond.methodLink "CopiedFireModel" 121 ⟨"CopiedFireModel", "isThing", "(I)Z"⟩ ∈ TB := TBm (tk5 (List.mem_of_getElem? (i := 107) (by decide +kernel))) rfl
theorem cnX10_121 : gCn RX10 121 yX10_isThing := Or.inl wd1014
theorem wd1015 : Cond.methodLink "CopiedFireModel" 92 ⟨"CopiedFireModel", "of", "(II)I"⟩ ∈ TB := TBm (tk5 (List.mem_of_getElem? (i := 111) (by decide +kernel))) rfl
theorem cnX10_92 : gCn RX10 92 yX10_of := Or.inl wd1015
theorem wd1016 : Cond.methodLink "CopiedFireModel" 124 ⟨"CopiedFireModel", "burnsOf", "(I)I"⟩ ∈ TB := TBm (tk5 (List.mem_of_getElem? (i := 115) (by decide +kernel))) rfl
theorem cnX10_124 : gCn RX10 124 yX10_burnsOf := Or.inl wd1016
theorem wd1017 : Cond.methodLink "CopiedFireModel" 88 ⟨"CopiedFireModel", "counts", "(I)I"⟩ ∈ TB := TBm (tk5 (List.mem_of_getElem? (i := 119) (by decide +kernel))) rfl
theorem cnX10_88 : gCn RX10 88 yX10_counts := Or.inl wd1017
theorem wd1018 : Cond.methodLink "CopiedFireModel" 96 ⟨"CopiedFireModel", "worksOut", "(I)I"⟩ ∈ TB := TBm (tk5 (List.mem_of_getElem? (i := 123) (by decide +kernel))) rfl
theorem cnX10_96 : gCn RX10 96 yX10_worksOut := Or.inl wd1018
theorem wd1019 : Cond.methodLink "CopiedFireModel" 274 ⟨"CopiedFireModel", "two", "(III)I"⟩ ∈ TB := TBm (tk5 (List.mem_of_getElem? (i := 127) (by decide +kernel))) rfl
theorem cnX10_274 : gCn RX10 274 yX10_two := Or.inl wd1019
theorem wd1020 : Cond.methodLink "CopiedFireModel" 99 ⟨"CopiedFireModel", "within", "(III)I"⟩ ∈ TB := TBm (tk5 (List.mem_of_getElem? (i := 130) (by decide +kernel))) rfl
theorem cnX10_99 : gCn RX10 99 yX10_within := Or.inl wd1020
theorem wd1021 : Cond.methodLink "CopiedFireModel" 127 ⟨"CopiedFireModel", "givesOf", "(II)I"⟩ ∈ TB := TBm (tk5 (List.mem_of_getElem? (i := 133) (by decide +kernel))) rfl
theorem cnX10_127 : gCn RX10 127 yX10_givesOf := Or.inl wd1021
theorem wd1022 : Cond.methodLink "CopiedFireModel" 130 ⟨"CopiedFireModel", "catchesOf", "(I)I"⟩ ∈ TB := TBm (tk5 (List.mem_of_getElem? (i := 137) (by decide +kernel))) rfl
theorem cnX10_130 : gCn RX10 130 yX10_catchesOf := Or.inl wd1022
theorem wd1023 : Cond.methodLink "CopiedFireModel" 133 ⟨"CopiedFireModel", "worthOf", "(I)I"⟩ ∈ TB := TBm (tk5 (List.mem_of_getElem? (i := 141) (by decide +kernel))) rfl
theorem cnX10_133 : gCn RX10 133 yX10_worthOf := Or.inl wd1023
theorem wd1024 : Cond.methodLink "CopiedFireLaw" 26 ⟨"CopiedFireModel", "as", "(II)I"⟩ ∈ TB := TBm (tk5 (List.mem_of_getElem? (i := 145) (by decide +kernel))) rfl
theorem cnL_26 : gCn RL 26 yX10_as := Or.inl wd1024
theorem wd1025 : Cond.methodLink "CopiedFireModel" 136 ⟨"CopiedFireModel", "isUnder", "(II)Z"⟩ ∈ TB := TBm (tk5 (List.mem_of_getElem? (i := 149) (by decide +kernel))) rfl
theorem cnX10_136 : gCn RX10 136 yX10_isUnder := Or.inl wd1025
theorem wd1026 : Cond.methodLink "CopiedFireLaw" 30 ⟨"CopiedFireModel", "turns", "(II)I"⟩ ∈ TB := TBm (tk5 (List.mem_of_getElem? (i := 153) (by decide +kernel))) rfl
theorem cnL_30 : gCn RL 30 yX10_turns := Or.inl wd1026
theorem wd1027 : Cond.methodLink "CopiedFireModel" 140 ⟨"CopiedFireModel", "swaps", "(II)I"⟩ ∈ TB := TBm (tk5 (List.mem_of_getElem? (i := 157) (by decide +kernel))) rfl
theorem cnX10_140 : gCn RX10 140 yX10_swaps := Or.inl wd1027
theorem wd1028 : Cond.methodLink "CopiedFireLaw" 35 ⟨"CopiedFireModel", "set", "(III)I"⟩ ∈ TB := TBm (tk5 (List.mem_of_getElem? (i := 161) (by decide +kernel))) rfl
theorem cnL_35 : gCn RL 35 yX10_set := Or.inl wd1028
theorem wd1029 : Cond.methodLink "CopiedFireLaw" 40 ⟨"CopiedFireModel", "deal", "(I)I"⟩ ∈ TB := TBm (tk5 (List.mem_of_getElem? (i := 165) (by decide +kernel))) rfl
theorem cnL_40 : gCn RL 40 yX10_deal := Or.inl wd1029
theorem wd1030 : Cond.methodLink "CopiedFireModel" 144 ⟨"CopiedFireModel", "draw", "()I"⟩ ∈ TB := TBm (tk5 (List.mem_of_getElem? (i := 169) (by decide +kernel))) rfl
theorem cnX10_144 : gCn RX10 144 yX10_draw := Or.inl wd1030
theorem wd1031 : Cond.methodLink "CopiedFireLaw" 44 ⟨"CopiedFireModel", "seed", "(I)I"⟩ ∈ TB := TBm (tk5 (List.mem_of_getElem? (i := 174) (by decide +kernel))) rfl
theorem cnL_44 : gCn RL 44 yX10_seed := Or.inl wd1031
theorem wd1032 : Cond.methodLink "CopiedFireLaw" 48 ⟨"CopiedFireModel", "heat", "(I)I"⟩ ∈ TB := TBm (tk5 (List.mem_of_getElem? (i := 178) (by decide +kernel))) rfl
theorem cnL_48 : gCn RL 48 yX10_heat := Or.inl wd1032
theorem wd1033 : Cond.methodLink "CopiedFireLaw" 52 ⟨"CopiedFireModel", "heats", "(II)I"⟩ ∈ TB := TBm (tk5 (List.mem_of_getElem? (i := 182) (by decide +kernel))) rfl
theorem cnL_52 : gCn RL 52 yX10_heats := Or.inl wd1033
theorem wd1034 : Cond.methodLink "CopiedFireLaw" 56 ⟨"CopiedFireModel", "door", "(III)I"⟩ ∈ TB := TBm (tk5 (List.mem_of_getElem? (i := 186) (by decide +kernel))) rfl
theorem cnL_56 : gCn RL 56 yX10_door := Or.inl wd1034
theorem wd1035 : Cond.methodLink "CopiedFireModel" 148 ⟨"CopiedFireModel", "areTwo", "(II)Z"⟩ ∈ TB := TBm (tk5 (List.mem_of_getElem? (i := 190) (by decide +kernel))) rfl
theorem cnX10_148 : gCn RX10 148 yX10_areTwo := Or.inl wd1035
theorem wd1036 : Cond.methodLink "CopiedFireModel" 151 ⟨"CopiedFireModel", "leaves", "(III)I"⟩ ∈ TB := TBm (tk5 (List.mem_of_getElem? (i := 193) (by decide +kernel))) rfl
theorem cnX10_151 : gCn RX10 151 yX10_leaves := Or.inl wd1036
theorem wd1037 : Cond.methodLink "CopiedFireLaw" 60 ⟨"CopiedFireModel", "doorTold", "(II)I"⟩ ∈ TB := TBm (tk5 (List.mem_of_getElem? (i := 197) (by decide +kernel))) rfl
theorem cnL_60 : gCn RL 60 yX10_doorTold := Or.inl wd1037
theorem wd1038 : Cond.methodLink "CopiedFireLaw" 64 ⟨"CopiedFireModel", "rule", "(II)I"⟩ ∈ TB := TBm (tk5 (List.mem_of_getElem? (i := 201) (by decide +kernel))) rfl
theorem cnL_64 : gCn RL 64 yX10_rule := Or.inl wd1038
theorem wd1039 : Cond.methodLink "CopiedFireLaw" 68 ⟨"CopiedFireModel", "visitor", "(I)I"⟩ ∈ TB := TBm (tk5 (List.mem_of_getElem? (i := 205) (by decide +kernel))) rfl
theorem cnL_68 : gCn RL 68 yX10_visitor := Or.inl wd1039
theorem wd1040 : Cond.methodLink "CopiedFireLaw" 72 ⟨"CopiedFireModel", "likes", "(II)I"⟩ ∈ TB := TBm (tk5 (List.mem_of_getElem? (i := 209) (by decide +kernel))) rfl
theorem cnL_72 : gCn RL 72 yX10_likes := Or.inl wd1040
theorem wd1041 : Cond.methodLink "CopiedFireLaw" 76 ⟨"CopiedFireModel", "seats", "(I)I"⟩ ∈ TB := TBm (tk5 (List.mem_of_getElem? (i := 213) (by decide +kernel))) rfl
theorem cnL_76 : gCn RL 76 yX10_seats := Or.inl wd1041
theorem wd1042 : Cond.methodLink "CopiedFireModel" 158 ⟨"CopiedFireModel", "gives", "(III)V"⟩ ∈ TB := TBm (tk5 (List.mem_of_getElem? (i := 217) (by decide +kernel))) rfl
theorem cnX10_158 : gCn RX10 158 yX10_gives := Or.inl wd1042
theorem wd1043 : Cond.methodLink "CopiedFireLaw" 80 ⟨"CopiedFireModel", "way", "(II)I"⟩ ∈ TB := TBm (tk5 (List.mem_of_getElem? (i := 222) (by decide +kernel))) rfl
theorem cnL_80 : gCn RL 80 yX10_way := Or.inl wd1043
theorem wd1044 : Cond.methodLink "CopiedFireLaw" 84 ⟨"CopiedFireModel", "minutes", "(I)I"⟩ ∈ TB := TBm (tk5 (List.mem_of_getElem? (i := 226) (by decide +kernel))) rfl
theorem cnL_84 : gCn RL 84 yX10_minutes := Or.inl wd1044
theorem wd1045 : Cond.methodLink "CopiedFireModel" 178 ⟨"CopiedFireModel", "goesOn", "(I)V"⟩ ∈ TB := TBm (tk5 (List.mem_of_getElem? (i := 230) (by decide +kernel))) rfl
theorem cnX10_178 : gCn RX10 178 yX10_goesOn := Or.inl wd1045
theorem wd1046 : Cond.methodLink "CopiedFireModel" 175 ⟨"CopiedFireModel", "minute", "()V"⟩ ∈ TB := TBm (tk5 (List.mem_of_getElem? (i := 234) (by decide +kernel))) rfl
theorem cnX10_175 : gCn RX10 175 yX10_minute := Or.inl wd1046
theorem wd1047 : Cond.methodLink "CopiedFireModel" 162 ⟨"CopiedFireModel", "burns", "(I)V"⟩ ∈ TB := TBm (tk5 (List.mem_of_getElem? (i := 238) (by decide +kernel))) rfl
theorem cnX10_162 : gCn RX10 162 yX10_burns := Or.inl wd1047
theorem wd1048 : Cond.methodLink "CopiedFireModel" 166 ⟨"CopiedFireModel", "evens", "()V"⟩ ∈ TB := TBm (tk6 (List.mem_of_getElem? (i := 2) (by decide +kernel))) rfl
theorem cnX10_166 : gCn RX10 166 yX10_evens := Or.inl wd1048
theorem wd1049 : Cond.methodLink "CopiedFireModel" 169 ⟨"CopiedFireModel", "catches", "()V"⟩ ∈ TB := TBm (tk6 (List.mem_of_getElem? (i := 6) (by decide +kernel))) rfl
theorem cnX10_169 : gCn RX10 169 yX10_catches := Or.inl wd1049
theorem wd1050 : Cond.methodLink "CopiedFireModel" 172 ⟨"CopiedFireModel", "blows", "()V"⟩ ∈ TB := TBm (tk6 (List.mem_of_getElem? (i := 10) (by decide +kernel))) rfl
theorem cnX10_172 : gCn RX10 172 yX10_blows := Or.inl wd1050
theorem wd1051 : Cond.methodLink "CopiedFireLaw" 88 ⟨"CopiedFireModel", "house", "(I)I"⟩ ∈ TB := TBm (tk6 (List.mem_of_getElem? (i := 14) (by decide +kernel))) rfl
theorem cnL_88 : gCn RL 88 yX10_house := Or.inl wd1051
theorem wd1052 : Cond.methodLink "CopiedFireModel" 181 ⟨"CopiedFireModel", "lit", "()I"⟩ ∈ TB := TBm (tk6 (List.mem_of_getElem? (i := 18) (by decide +kernel))) rfl
theorem cnX10_181 : gCn RX10 181 yX10_lit := Or.inl wd1052
theorem wd1053 : Cond.methodLink "CopiedFireModel" 184 ⟨"CopiedFireModel", "allHeat", "()I"⟩ ∈ TB := TBm (tk6 (List.mem_of_getElem? (i := 22) (by decide +kernel))) rfl
theorem cnX10_184 : gCn RX10 184 yX10_allHeat := Or.inl wd1053
theorem wd1054 : Cond.methodLink "CopiedFireLaw" 92 ⟨"CopiedFireModel", "behind", "(II)I"⟩ ∈ TB := TBm (tk6 (List.mem_of_getElem? (i := 26) (by decide +kernel))) rfl
theorem cnL_92 : gCn RL 92 yX10_behind := Or.inl wd1054
theorem wd1055 : Cond.methodLink "CopiedFireModel" 191 ⟨"CopiedFireModel", "thinks", "()V"⟩ ∈ TB := TBm (tk6 (List.mem_of_getElem? (i := 30) (by decide +kernel))) rfl
theorem cnX10_191 : gCn RX10 191 yX10_thinks := Or.inl wd1055
theorem wd1056 : Cond.methodLink "CopiedFireModel" 187 ⟨"CopiedFireModel", "copyAll", "([I[I)V"⟩ ∈ TB := TBm (tk6 (List.mem_of_getElem? (i := 34) (by decide +kernel))) rfl
theorem cnX10_187 : gCn RX10 187 yX10_copyAll := Or.inl wd1056
theorem wd1057 : Cond.methodLink "CopiedFireModel" 194 ⟨"CopiedFireModel", "putsBack", "()V"⟩ ∈ TB := TBm (tk6 (List.mem_of_getElem? (i := 37) (by decide +kernel))) rfl
theorem cnX10_194 : gCn RX10 194 yX10_putsBack := Or.inl wd1057
theorem wd1058 : Cond.methodLink "CopiedFireLaw" 97 ⟨"CopiedFireModel", "out", "()I"⟩ ∈ TB := TBm (tk6 (List.mem_of_getElem? (i := 41) (by decide +kernel))) rfl
theorem cnL_97 : gCn RL 97 yX10_out := Or.inl wd1058
theorem wd1059 : Cond.methodLink "CopiedFireLaw" 101 ⟨"CopiedFireModel", "hot", "(I)I"⟩ ∈ TB := TBm (tk6 (List.mem_of_getElem? (i := 45) (by decide +kernel))) rfl
theorem cnL_101 : gCn RL 101 yX10_hot := Or.inl wd1059
theorem wd1060 : Cond.methodLink "CopiedFireLaw" 105 ⟨"CopiedFireModel", "shut", "(II)I"⟩ ∈ TB := TBm (tk6 (List.mem_of_getElem? (i := 49) (by decide +kernel))) rfl
theorem cnL_105 : gCn RL 105 yX10_shut := Or.inl wd1060
theorem wd1061 : Cond.methodLink "CopiedFireModel" 197 ⟨"CopiedFireModel", "burntBy", "(I)I"⟩ ∈ TB := TBm (tk6 (List.mem_of_getElem? (i := 53) (by decide +kernel))) rfl
theorem cnX10_197 : gCn RX10 197 yX10_burntBy := Or.inl wd1061
theorem wd1062 : Cond.methodLink "CopiedFireLaw" 109 ⟨"CopiedFireModel", "hired", "(II)I"⟩ ∈ TB := TBm (tk6 (List.mem_of_getElem? (i := 57) (by decide +kernel))) rfl
theorem cnL_109 : gCn RL 109 yX10_hired := Or.inl wd1062
theorem wd1063 : Cond.methodLink "CopiedFireLaw" 113 ⟨"CopiedFireModel", "becomes", "(III)I"⟩ ∈ TB := TBm (tk6 (List.mem_of_getElem? (i := 61) (by decide +kernel))) rfl
theorem cnL_113 : gCn RL 113 yX10_becomes := Or.inl wd1063
theorem wd1064 : Cond.methodLink "CopiedFireLaw" 117 ⟨"CopiedFireModel", "began", "(I)I"⟩ ∈ TB := TBm (tk6 (List.mem_of_getElem? (i := 65) (by decide +kernel))) rfl
theorem cnL_117 : gCn RL 117 yX10_began := Or.inl wd1064
theorem wd1065 : Cond.methodLink "CopiedFireModel" 203 ⟨"CopiedFireModel", "isSheet", "(I)Z"⟩ ∈ TB := TBm (tk6 (List.mem_of_getElem? (i := 69) (by decide +kernel))) rfl
theorem cnX10_203 : gCn RX10 203 yX10_isSheet := Or.inl wd1065
theorem wd1066 : Cond.methodLink "CopiedFireModel" 207 ⟨"CopiedFireModel", "isSo", "(I)Z"⟩ ∈ TB := TBm (tk6 (List.mem_of_getElem? (i := 73) (by decide +kernel))) rfl
theorem cnX10_207 : gCn RX10 207 yX10_isSo := Or.inl wd1066
theorem wd1067 : Cond.methodLink "CopiedFireModel" 200 ⟨"CopiedFireModel", "bits", "(I)I"⟩ ∈ TB := TBm (tk6 (List.mem_of_getElem? (i := 77) (by decide +kernel))) rfl
theorem cnX10_200 : gCn RX10 200 yX10_bits := Or.inl wd1067
theorem wd1068 : Cond.methodLink "CopiedFireLaw" 121 ⟨"CopiedFireModel", "like", "(II)I"⟩ ∈ TB := TBm (tk6 (List.mem_of_getElem? (i := 80) (by decide +kernel))) rfl
theorem cnL_121 : gCn RL 121 yX10_like := Or.inl wd1068
theorem wd1069 : Cond.methodLink "CopiedFireLaw" 125 ⟨"CopiedFireModel", "fee", "()I"⟩ ∈ TB := TBm (tk6 (List.mem_of_getElem? (i := 84) (by decide +kernel))) rfl
theorem cnL_125 : gCn RL 125 yX10_fee := Or.inl wd1069
theorem wd1070 : Cond.methodLink "CopiedFireLaw" 129 ⟨"CopiedFireModel", "fine", "(I)I"⟩ ∈ TB := TBm (tk6 (List.mem_of_getElem? (i := 88) (by decide +kernel))) rfl
theorem cnL_129 : gCn RL 129 yX10_fine := Or.inl wd1070
theorem wd1071 : Cond.methodLink "CopiedFireLaw" 133 ⟨"CopiedFireModel", "feed", "(III)I"⟩ ∈ TB := TBm (tk6 (List.mem_of_getElem? (i := 92) (by decide +kernel))) rfl
theorem cnL_133 : gCn RL 133 yX10_feed := Or.inl wd1071
theorem wd1072 : Cond.methodLink "CopiedFireLaw" 137 ⟨"CopiedFireModel", "trim", "(I)I"⟩ ∈ TB := TBm (tk6 (List.mem_of_getElem? (i := 96) (by decide +kernel))) rfl
theorem cnL_137 : gCn RL 137 yX10_trim := Or.inl wd1072
theorem wd1073 : Cond.methodLink "CopiedFireLaw" 141 ⟨"CopiedFireModel", "text", "()I"⟩ ∈ TB := TBm (tk6 (List.mem_of_getElem? (i := 100) (by decide +kernel))) rfl
theorem cnL_141 : gCn RL 141 yX10_text := Or.inl wd1073
theorem wd1074 : Cond.methodLink "CopiedFireModel" 237 ⟨"CopiedFireModel", "go", "()V"⟩ ∈ TB := TBm (tk6 (List.mem_of_getElem? (i := 104) (by decide +kernel))) rfl
theorem cnX10_237 : gCn RX10 237 yX10_go := Or.inl wd1074
theorem wd1075 : Cond.methodLink "CopiedFireModel" 225 ⟨"CopiedFireModel", "isLetter", "(I)Z"⟩ ∈ TB := TBm (tk6 (List.mem_of_getElem? (i := 108) (by decide +kernel))) rfl
theorem cnX10_225 : gCn RX10 225 yX10_isLetter := Or.inl wd1075
theorem wd1076 : Cond.methodLink "CopiedFireModel" 231 ⟨"CopiedFireModel", "isFigure", "(I)Z"⟩ ∈ TB := TBm (tk6 (List.mem_of_getElem? (i := 112) (by decide +kernel))) rfl
theorem cnX10_231 : gCn RX10 231 yX10_isFigure := Or.inl wd1076
theorem wd1077 : Cond.methodLink "CopiedFireModel" 268 ⟨"CopiedFireModel", "takesKey", "()Z"⟩ ∈ TB := TBm (tk6 (List.mem_of_getElem? (i := 116) (by decide +kernel))) rfl
theorem cnX10_268 : gCn RX10 268 yX10_takesKey := Or.inl wd1077
theorem wd1078 : Cond.methodLink "CopiedFireModel" 271 ⟨"CopiedFireModel", "takesE", "()Z"⟩ ∈ TB := TBm (tk6 (List.mem_of_getElem? (i := 120) (by decide +kernel))) rfl
theorem cnX10_271 : gCn RX10 271 yX10_takesE := Or.inl wd1078
theorem wd1079 : Cond.methodLink "CopiedFireModel" 258 ⟨"CopiedFireModel", "takesPart", "()Z"⟩ ∈ TB := TBm (tk6 (List.mem_of_getElem? (i := 124) (by decide +kernel))) rfl
theorem cnX10_258 : gCn RX10 258 yX10_takesPart := Or.inl wd1079
theorem wd1080 : Cond.methodLink "CopiedFireModel" 249 ⟨"CopiedFireModel", "nameOf", "(I)I"⟩ ∈ TB := TBm (tk6 (List.mem_of_getElem? (i := 128) (by decide +kernel))) rfl
theorem cnX10_249 : gCn RX10 249 yX10_nameOf := Or.inl wd1080
theorem wd1081 : Cond.methodLink "CopiedFireModel" 255 ⟨"CopiedFireModel", "settle", "(I)V"⟩ ∈ TB := TBm (tk6 (List.mem_of_getElem? (i := 132) (by decide +kernel))) rfl
theorem cnX10_255 : gCn RX10 255 yX10_settle := Or.inl wd1081
theorem wd1082 : Cond.methodLink "CopiedFireModel" 243 ⟨"CopiedFireModel", "rank", "(I)I"⟩ ∈ TB := TBm (tk6 (List.mem_of_getElem? (i := 136) (by decide +kernel))) rfl
theorem cnX10_243 : gCn RX10 243 yX10_rank := Or.inl wd1082
theorem wd1083 : Cond.methodLink "CopiedFireModel" 262 ⟨"CopiedFireModel", "notsOpen", "()I"⟩ ∈ TB := TBm (tk6 (List.mem_of_getElem? (i := 139) (by decide +kernel))) rfl
theorem cnX10_262 : gCn RX10 262 yX10_notsOpen := Or.inl wd1083
theorem wd1084 : Cond.methodLink "CopiedFireModel" 265 ⟨"CopiedFireModel", "signHere", "()I"⟩ ∈ TB := TBm (tk6 (List.mem_of_getElem? (i := 143) (by decide +kernel))) rfl
theorem cnX10_265 : gCn RX10 265 yX10_signHere := Or.inl wd1084
theorem wd1085 : Cond.methodLink "CopiedFireLaw" 145 ⟨"CopiedFireModel", "textTold", "(II)I"⟩ ∈ TB := TBm (tk6 (List.mem_of_getElem? (i := 147) (by decide +kernel))) rfl
theorem cnL_145 : gCn RL 145 yX10_textTold := Or.inl wd1085
theorem wd1086 : Cond.methodLink "CopiedFireLaw" 149 ⟨"CopiedFireModel", "why", "(I)I"⟩ ∈ TB := TBm (tk6 (List.mem_of_getElem? (i := 151) (by decide +kernel))) rfl
theorem cnL_149 : gCn RL 149 yX10_why := Or.inl wd1086
theorem wd1087 : Cond.methodLink "CopiedFireLaw" 153 ⟨"CopiedFireModel", "sheet", "(III)I"⟩ ∈ TB := TBm (tk6 (List.mem_of_getElem? (i := 155) (by decide +kernel))) rfl
theorem cnL_153 : gCn RL 153 yX10_sheet := Or.inl wd1087
theorem wd1088 : Cond.methodLink "CopiedFireLaw" 157 ⟨"CopiedFireModel", "mark", "(III)I"⟩ ∈ TB := TBm (tk6 (List.mem_of_getElem? (i := 160) (by decide +kernel))) rfl
theorem cnL_157 : gCn RL 157 yX10_mark := Or.inl wd1088
theorem wd1089 : Cond.methodLink "CopiedFireLaw" 161 ⟨"CopiedFireModel", "pour", "(I)I"⟩ ∈ TB := TBm (tk6 (List.mem_of_getElem? (i := 167) (by decide +kernel))) rfl
theorem cnL_161 : gCn RL 161 yX10_pour := Or.inl wd1089
theorem wd1090 : Cond.methodLink "CopiedFireLaw" 165 ⟨"CopiedFireModel", "reads", "(I)I"⟩ ∈ TB := TBm (tk6 (List.mem_of_getElem? (i := 171) (by decide +kernel))) rfl
theorem cnL_165 : gCn RL 165 yX10_reads := Or.inl wd1090
theorem wd1091 : Cond.methodLink "CopiedFireLaw" 170 ⟨"CopiedFireModel", "copy", "(IIIII)I"⟩ ∈ TB := TBm (tk6 (List.mem_of_getElem? (i := 175) (by decide +kernel))) rfl
theorem cnL_170 : gCn RL 170 yX10_copy := Or.inl wd1091
theorem wd1092 : Cond.methodLink "CopiedFireLaw" 174 ⟨"CopiedFireModel", "lay", "(III)I"⟩ ∈ TB := TBm (tk6 (List.mem_of_getElem? (i := 179) (by decide +kernel))) rfl
theorem cnL_174 : gCn RL 174 yX10_lay := Or.inl wd1092
theorem wd1093 : Cond.methodLink "CopiedFireModel" 281 ⟨"CopiedFireModel", "isSlot", "(I)Z"⟩ ∈ TB := TBm (tk6 (List.mem_of_getElem? (i := 183) (by decide +kernel))) rfl
theorem cnX10_281 : gCn RX10 281 yX10_isSlot := Or.inl wd1093
theorem wd1094 : Cond.methodLink "CopiedFireLaw" 178 ⟨"CopiedFireModel", "ask", "(II)I"⟩ ∈ TB := TBm (tk6 (List.mem_of_getElem? (i := 186) (by decide +kernel))) rfl
theorem cnL_178 : gCn RL 178 yX10_ask := Or.inl wd1094
theorem wd1095 : Cond.methodLink "CopiedFireLaw" 182 ⟨"CopiedFireModel", "item", "(II)I"⟩ ∈ TB := TBm (tk6 (List.mem_of_getElem? (i := 190) (by decide +kernel))) rfl
theorem cnL_182 : gCn RL 182 yX10_item := Or.inl wd1095
theorem wd1096 : Cond.methodLink "CopiedFireLaw" 186 ⟨"CopiedFireModel", "rest", "(II)I"⟩ ∈ TB := TBm (tk6 (List.mem_of_getElem? (i := 194) (by decide +kernel))) rfl
theorem cnL_186 : gCn RL 186 yX10_rest := Or.inl wd1096
theorem wd1097 : Cond.methodLink "CopiedFireLaw" 190 ⟨"CopiedFireModel", "tell", "(I)I"⟩ ∈ TB := TBm (tk6 (List.mem_of_getElem? (i := 199) (by decide +kernel))) rfl
theorem cnL_190 : gCn RL 190 yX10_tell := Or.inl wd1097
theorem wd1098 : Cond.methodLink "CopiedFireLaw" 194 ⟨"CopiedFireModel", "check", "(I)I"⟩ ∈ TB := TBm (tk6 (List.mem_of_getElem? (i := 203) (by decide +kernel))) rfl
theorem cnL_194 : gCn RL 194 yX10_check := Or.inl wd1098
theorem wd1099 : Cond.methodLink "CopiedFireLaw" 198 ⟨"CopiedFireModel", "keep", "()I"⟩ ∈ TB := TBm (tk6 (List.mem_of_getElem? (i := 207) (by decide +kernel))) rfl
theorem cnL_198 : gCn RL 198 yX10_keep := Or.inl wd1099
theorem wd1100 : Cond.methodLink "CopiedFireLaw" 202 ⟨"CopiedFireModel", "back", "()I"⟩ ∈ TB := TBm (tk6 (List.mem_of_getElem? (i := 211) (by decide +kernel))) rfl
theorem cnL_202 : gCn RL 202 yX10_back := Or.inl wd1100
theorem wd1101 : Cond.methodLink "CopiedFireLaw" 206 ⟨"CopiedFireModel", "count", "(I)I"⟩ ∈ TB := TBm (tk6 (List.mem_of_getElem? (i := 215) (by decide +kernel))) rfl
theorem cnL_206 : gCn RL 206 yX10_count := Or.inl wd1101
theorem wd1102 : Cond.static ⟨"java/lang/Math", "max", "(II)I"⟩ ∈ TB := TBm (tk2 (List.mem_of_getElem? (i := 95) (by decide +kernel))) rfl
theorem wd1103 : Cond.initialized "java/lang/Math" ∈ TB := TBm (tk1 (List.mem_of_getElem? (i := 11) (by decide +kernel))) rfl
theorem wm_max : Cond.static Lib.Math.max.name ∈ TB ∧ Cond.initialized "java/lang/Math" ∈ TB ∧ Cond.code Lib.Math.max.name Lib.Math.max.code 2 (some .int) ∈ TB := ⟨wd1102, wd1103, TBm (tk2 (List.mem_of_getElem? (i := 96) (by decide +kernel))) rfl⟩
theorem wd1104 : Cond.static ⟨"java/lang/Math", "min", "(II)I"⟩ ∈ TB := TBm (tk2 (List.mem_of_getElem? (i := 92) (by decide +kernel))) rfl
theorem wm_min : Cond.static Lib.Math.min.name ∈ TB ∧ Cond.initialized "java/lang/Math" ∈ TB ∧ Cond.code Lib.Math.min.name Lib.Math.min.code 2 (some .int) ∈ TB := ⟨wd1104, wd1103, TBm (tk2 (List.mem_of_getElem? (i := 93) (by decide +kernel))) rfl⟩
theorem wd1105 : Cond.static ⟨"java/lang/Math", "abs", "(I)I"⟩ ∈ TB := TBm (tk3 (List.mem_of_getElem? (i := 109) (by decide +kernel))) rfl
theorem wm_abs : Cond.static Lib.Math.abs.name ∈ TB ∧ Cond.initialized "java/lang/Math" ∈ TB ∧ Cond.code Lib.Math.abs.name Lib.Math.abs.code 1 (some .int) ∈ TB := ⟨wd1105, wd1103, TBm (tk3 (List.mem_of_getElem? (i := 110) (by decide +kernel))) rfl⟩
theorem wd1106 : Cond.native ⟨"java/lang/System", "arraycopy", "(Ljava/lang/Object;ILjava/lang/Object;II)V"⟩ ∈ TB := TBm (tk3 (List.mem_of_getElem? (i := 46) (by decide +kernel))) rfl
theorem wd1107 : Cond.static ⟨"java/lang/System", "arraycopy", "(Ljava/lang/Object;ILjava/lang/Object;II)V"⟩ ∈ TB := TBm (tk3 (List.mem_of_getElem? (i := 45) (by decide +kernel))) rfl
theorem wd1108 : Cond.initialized "java/lang/System" ∈ TB := TBm (tk1 (List.mem_of_getElem? (i := 14) (by decide +kernel))) rfl
theorem wm_copy : Cond.native arraycopyName ∈ TB ∧ Cond.static arraycopyName ∈ TB ∧ Cond.initialized "java/lang/System" ∈ TB := ⟨wd1106, wd1107, wd1108⟩
theorem wd1109 : Cond.constant "CopiedFire" 94 (-1000000001) ∈ TB := TBm (tk2 (List.mem_of_getElem? (i := 58) (by decide +kernel))) rfl
theorem kcX9_94 : Cond.constant RX9 94 (-1000000001) ∈ TB := wd1109
theorem wd1110 : Cond.constant "CopiedFire" 98 (-1000000003) ∈ TB := TBm (tk2 (List.mem_of_getElem? (i := 59) (by decide +kernel))) rfl
theorem kcX9_98 : Cond.constant RX9 98 (-1000000003) ∈ TB := wd1110
theorem wd1111 : Cond.constant "CopiedFire" 138 (-1000000012) ∈ TB := TBm (tk2 (List.mem_of_getElem? (i := 119) (by decide +kernel))) rfl
theorem kcX9_138 : Cond.constant RX9 138 (-1000000012) ∈ TB := wd1111
theorem wd1112 : Cond.constant "CopiedFire$House" 145 1103515245 ∈ TB := TBm (tk2 (List.mem_of_getElem? (i := 143) (by decide +kernel))) rfl
theorem kcX0_145 : Cond.constant RX0 145 (1103515245) ∈ TB := wd1112
theorem wd1113 : Cond.constant "java/lang/Integer" 265 1431655765 ∈ TB := TBm (tk2 (List.mem_of_getElem? (i := 211) (by decide +kernel))) rfl
theorem kcJI_265 : Cond.constant RJI 265 (1431655765) ∈ TB := wd1113
theorem wd1114 : Cond.constant "java/lang/Integer" 266 858993459 ∈ TB := TBm (tk2 (List.mem_of_getElem? (i := 212) (by decide +kernel))) rfl
theorem kcJI_266 : Cond.constant RJI 266 (858993459) ∈ TB := wd1114
theorem wd1115 : Cond.constant "java/lang/Integer" 267 252645135 ∈ TB := TBm (tk2 (List.mem_of_getElem? (i := 213) (by decide +kernel))) rfl
theorem kcJI_267 : Cond.constant RJI 267 (252645135) ∈ TB := wd1115
theorem wd1116 : Cond.constant "CopiedFire$Seating" 36 (-1000000005) ∈ TB := TBm (tk2 (List.mem_of_getElem? (i := 219) (by decide +kernel))) rfl
theorem kcX4_36 : Cond.constant RX4 36 (-1000000005) ∈ TB := wd1116
theorem wd1117 : Cond.constant "CopiedFire" 192 (-1000000005) ∈ TB := TBm (tk2 (List.mem_of_getElem? (i := 229) (by decide +kernel))) rfl
theorem kcX9_192 : Cond.constant RX9 192 (-1000000005) ∈ TB := wd1117
theorem wd1118 : Cond.constant "CopiedFire" 219 2147483647 ∈ TB := TBm (tk3 (List.mem_of_getElem? (i := 47) (by decide +kernel))) rfl
theorem kcX9_219 : Cond.constant RX9 219 (2147483647) ∈ TB := wd1118
theorem wd1119 : Cond.constant "CopiedFire" 230 (-1000000011) ∈ TB := TBm (tk3 (List.mem_of_getElem? (i := 83) (by decide +kernel))) rfl
theorem kcX9_230 : Cond.constant RX9 230 (-1000000011) ∈ TB := wd1119
theorem wd1120 : Cond.constant "CopiedFire$Sheet" 42 (-1000000005) ∈ TB := TBm (tk3 (List.mem_of_getElem? (i := 98) (by decide +kernel))) rfl
theorem kcX5_42 : Cond.constant RX5 42 (-1000000005) ∈ TB := wd1120
theorem wd1121 : Cond.constant "CopiedFire$Laws" 33 (-1000000001) ∈ TB := TBm (tk4 (List.mem_of_getElem? (i := 106) (by decide +kernel))) rfl
theorem kcX2_33 : Cond.constant RX2 33 (-1000000001) ∈ TB := wd1121
theorem wd1122 : Cond.constant "CopiedFire" 282 (-1000000014) ∈ TB := TBm (tk4 (List.mem_of_getElem? (i := 124) (by decide +kernel))) rfl
theorem kcX9_282 : Cond.constant RX9 282 (-1000000014) ∈ TB := wd1122
theorem wd1123 : Cond.constant "CopiedFire" 286 (-1000000013) ∈ TB := TBm (tk4 (List.mem_of_getElem? (i := 130) (by decide +kernel))) rfl
theorem kcX9_286 : Cond.constant RX9 286 (-1000000013) ∈ TB := wd1123
theorem wd1124 : Cond.constant "CopiedFire" 293 (-99999) ∈ TB := TBm (tk4 (List.mem_of_getElem? (i := 131) (by decide +kernel))) rfl
theorem kcX9_293 : Cond.constant RX9 293 (-99999) ∈ TB := wd1124
theorem wd1125 : Cond.constant "CopiedFire" 294 99999 ∈ TB := TBm (tk4 (List.mem_of_getElem? (i := 132) (by decide +kernel))) rfl
theorem kcX9_294 : Cond.constant RX9 294 (99999) ∈ TB := wd1125
theorem wd1126 : Cond.constant "CopiedFire" 335 (-1000000002) ∈ TB := TBm (tk4 (List.mem_of_getElem? (i := 179) (by decide +kernel))) rfl
theorem kcX9_335 : Cond.constant RX9 335 (-1000000002) ∈ TB := wd1126
theorem wd1127 : Cond.constant "CopiedFireModel" 115 (-1000000001) ∈ TB := TBm (tk5 (List.mem_of_getElem? (i := 93) (by decide +kernel))) rfl
theorem kcX10_115 : Cond.constant RX10 115 (-1000000001) ∈ TB := wd1127
theorem wd1128 : Cond.constant "CopiedFireModel" 116 (-1000000003) ∈ TB := TBm (tk5 (List.mem_of_getElem? (i := 94) (by decide +kernel))) rfl
theorem kcX10_116 : Cond.constant RX10 116 (-1000000003) ∈ TB := wd1128
theorem wd1129 : Cond.constant "CopiedFireModel" 139 (-1000000012) ∈ TB := TBm (tk5 (List.mem_of_getElem? (i := 152) (by decide +kernel))) rfl
theorem kcX10_139 : Cond.constant RX10 139 (-1000000012) ∈ TB := wd1129
theorem wd1130 : Cond.constant "CopiedFireModel" 143 1103515245 ∈ TB := TBm (tk5 (List.mem_of_getElem? (i := 173) (by decide +kernel))) rfl
theorem kcX10_143 : Cond.constant RX10 143 (1103515245) ∈ TB := wd1130
theorem wd1131 : Cond.constant "CopiedFireModel" 161 (-1000000005) ∈ TB := TBm (tk5 (List.mem_of_getElem? (i := 221) (by decide +kernel))) rfl
theorem kcX10_161 : Cond.constant RX10 161 (-1000000005) ∈ TB := wd1131
theorem wd1132 : Cond.constant "CopiedFireModel" 206 (-1000000011) ∈ TB := TBm (tk6 (List.mem_of_getElem? (i := 72) (by decide +kernel))) rfl
theorem kcX10_206 : Cond.constant RX10 206 (-1000000011) ∈ TB := wd1132
theorem wd1133 : Cond.constant "CopiedFireModel" 277 (-1000000014) ∈ TB := TBm (tk6 (List.mem_of_getElem? (i := 159) (by decide +kernel))) rfl
theorem kcX10_277 : Cond.constant RX10 277 (-1000000014) ∈ TB := wd1133
theorem wd1134 : Cond.constant "CopiedFireModel" 278 (-1000000013) ∈ TB := TBm (tk6 (List.mem_of_getElem? (i := 164) (by decide +kernel))) rfl
theorem kcX10_278 : Cond.constant RX10 278 (-1000000013) ∈ TB := wd1134
theorem wd1135 : Cond.constant "CopiedFireModel" 279 (-99999) ∈ TB := TBm (tk6 (List.mem_of_getElem? (i := 165) (by decide +kernel))) rfl
theorem kcX10_279 : Cond.constant RX10 279 (-99999) ∈ TB := wd1135
theorem wd1136 : Cond.constant "CopiedFireModel" 280 99999 ∈ TB := TBm (tk6 (List.mem_of_getElem? (i := 166) (by decide +kernel))) rfl
theorem kcX10_280 : Cond.constant RX10 280 (99999) ∈ TB := wd1136
theorem wd1137 : Cond.constant "CopiedFireModel" 284 (-1000000002) ∈ TB := TBm (tk6 (List.mem_of_getElem? (i := 198) (by decide +kernel))) rfl
theorem kcX10_284 : Cond.constant RX10 284 (-1000000002) ∈ TB := wd1137
theorem wn41 : Cond.fieldLinkNest "CopiedFire$Kinds" 9 "CopiedFire" "KIND_ABOVE" "[I" "CopiedFire" ∈ NW := NWm (tk2 (List.mem_of_getElem? (i := 117) (by decide +kernel))) rfl
theorem kx_kab : Cond.fieldLinkNest RX1 9 "CopiedFire" "KIND_ABOVE" "[I" "CopiedFire" ∈ NW := wn41
theorem wd1138 : Cond.fieldLink "java/lang/String" 38 "java/lang/String" "COMPACT_STRINGS" "Z" ∈ TB := TBm (tk3 (List.mem_of_getElem? (i := 166) (by decide +kernel))) rfl
theorem kx_cst : Cond.fieldLink RJS 38 "java/lang/String" "COMPACT_STRINGS" "Z" ∈ TB := wd1138
theorem wd1139 : Cond.fieldLink "java/lang/String" 1053 "jdk/internal/util/Preconditions" "SIOOBE_FORMATTER" "Ljava/util/function/BiFunction;" ∈ TB := TBm (tk3 (List.mem_of_getElem? (i := 182) (by decide +kernel))) rfl
theorem kx_siob : Cond.fieldLink RJS 1053 "jdk/internal/util/Preconditions" "SIOOBE_FORMATTER" "Ljava/util/function/BiFunction;" ∈ TB := wd1139
theorem wd1140 : Cond.fieldLink "java/lang/String" 9 "java/lang/String" "value" "[B" ∈ TB := TBm (tk6 (List.mem_of_getElem? (i := 219) (by decide +kernel))) rfl
theorem kx_sval : Cond.fieldLink RJS 9 "java/lang/String" "value" "[B" ∈ TB := wd1140
theorem wd1141 : Cond.fieldLink "java/lang/String" 15 "java/lang/String" "coder" "B" ∈ TB := TBm (tk6 (List.mem_of_getElem? (i := 220) (by decide +kernel))) rfl
theorem kx_scod : Cond.fieldLink RJS 15 "java/lang/String" "coder" "B" ∈ TB := wd1141
end
section
/-! ===== the layout of the fixed cells ===== -/
def hsh (h : Nat) : List (Option (Option Nat)) := [some (some 1), some (some (h + 1)), some (some (h + 2)), some (some (h + 3)), some (some (h + 4)), some (some (h + 5)), some (some (h + 6)), some (some (h + 7)), some (some (h + 8)), none, none, none, none, none, none, none, none, none, none]
def ssh (c : Nat) : List (Option (Option Nat)) := [some (some (c + 1)), none, none]
def lsh (c : Nat) : List (Option (Option Nat)) := [some (some (c + 1)), none, none, none, none]
def tsh (c : Nat) : List (Option (Option Nat)) := [none, none, some (some (c + 1))]
def rsh (n a b : Nat) (j : Nat) : Option Nat := if j < n then some (a + b * j) else none
def LAY : List gH := [.inl (8, [some (some 1), some (some 4), some (some 13), some (some 22), some (some 31), some (some 34), some (some 36), some (some 38), some (some 47), some (some 63), some (some 64), none, none]),
  .inl (1, [some (some 2), some (some 3)]),
  .inr (5, 14, some (fun _ => none)),
  .inr (0, 96, none),
  .inl (0, hsh 4),
  .inr (0, 12, none),
  .inr (0, 12, none),
  .inr (0, 12, none),
  .inr (0, 12, none),
  .inr (0, 8, none),
  .inr (0, 64, none),
  .inr (0, 6, none),
  .inr (0, 3, none),
  .inl (0, hsh 13),
  .inr (0, 12, none),
  .inr (0, 12, none),
  .inr (0, 12, none),
  .inr (0, 12, none),
  .inr (0, 8, none),
  .inr (0, 64, none),
  .inr (0, 6, none),
  .inr (0, 3, none),
  .inl (0, hsh 22),
  .inr (0, 12, none),
  .inr (0, 12, none),
  .inr (0, 12, none),
  .inr (0, 12, none),
  .inr (0, 8, none),
  .inr (0, 64, none),
  .inr (0, 6, none),
  .inr (0, 3, none),
  .inl (3, [some (some 32), some (some 33)]),
  .inr (0, 64, none),
  .inr (0, 6, none),
  .inl (6, [some (some 35), none]),
  .inr (0, 96, none),
  .inl (2, [some (some 34), some (some 37), none, none, none, none, none, none, none]),
  .inr (0, 96, none),
  .inr (3, 4, some (rsh 4 39 2)),
  .inl (4, ssh 39),
  .inr (0, 24, none),
  .inl (4, ssh 41),
  .inr (0, 24, none),
  .inl (4, ssh 43),
  .inr (0, 24, none),
  .inl (4, ssh 45),
  .inr (0, 24, none),
  .inr (4, 5, some (rsh 5 48 3)),
  .inl (5, lsh 48),
  .inl (4, ssh 49),
  .inr (0, 24, none),
  .inl (5, lsh 51),
  .inl (4, ssh 52),
  .inr (0, 24, none),
  .inl (5, lsh 54),
  .inl (4, ssh 55),
  .inr (0, 24, none),
  .inl (5, lsh 57),
  .inl (4, ssh 58),
  .inr (0, 24, none),
  .inl (5, lsh 60),
  .inl (4, ssh 61),
  .inr (0, 24, none),
  .inr (0, 8, none),
  .inr (0, 60, none),
  .inl (9, [some (some 66), some (some 67), some (some 68), none, some (some 69), some (some 70), none, some (some 71), some (some 72), some (some 73), none, none, none, none, none, none, none, some (some 74), some (some 75), some (some 76), none, none, some (some 77), none, some (some 78), some (some 79), some (some 80), some (some 81), some (some 82), some (some 83), some (some 84), some (some 85), some (some 86), some (some 87), some (some 88), some (some 89), none]),
  .inr (0, 1508, none),
  .inr (0, 1508, none),
  .inr (0, 1508, none),
  .inr (0, 6, none),
  .inr (0, 6, none),
  .inr (0, 1508, none),
  .inr (0, 8, none),
  .inr (0, 96, none),
  .inr (1, 11, none),
  .inr (0, 4, none),
  .inr (0, 96, none),
  .inr (0, 96, none),
  .inr (2, 10, none),
  .inr (0, 96, none),
  .inr (0, 4, none),
  .inr (0, 4, none),
  .inr (0, 4, none),
  .inr (0, 96, none),
  .inr (0, 5, none),
  .inr (0, 5, none),
  .inr (0, 5, none),
  .inr (0, 120, none),
  .inr (0, 24, none),
  .inr (0, 60, none)]
def zl (Z : List gH) (c : Nat) : Nat := match (Z[c]? : Option gH) with
  | some (Sum.inr (_, n, _)) => n
  | _ => 0
def zr (Z : List gH) (t : Nat) : Option Nat := match (Z[2]? : Option gH) with
  | some (Sum.inr (_, _, some rs)) => rs t
  | _ => none
/-- a cell is an array of ints -/
def IA (Z : List gH) (a : Nat) : Prop := Z[a]? = some (.inr (0, zl Z a, none))
/-- a cell is a Text, its steps behind it -/
def TxB (Z : List gH) (c : Nat) : Prop := Z[c]? = some (.inl (7, tsh c)) ∧ IA Z (c + 1)
def HB (h : Nat) : Prop := h = 4 ∨ h = 13 ∨ h = 22
def SB (c : Nat) : Prop := c = 39 ∨ c = 41 ∨ c = 43 ∨ c = 45 ∨ c = 49 ∨ c = 52 ∨ c = 55 ∨ c = 58 ∨ c = 61
def LB (c : Nat) : Prop := c = 48 ∨ c = 51 ∨ c = 54 ∨ c = 57 ∨ c = 60
def Lay (Z : List gH) : Prop := (∀ (i : Nat) (h : gH), i ≠ 2 → LAY[i]? = some h → Z[i]? = some h) ∧ Z[2]? = some (.inr (5, 14, some (zr Z))) ∧ ∀ (t c : Nat), zr Z t = some c → TxB Z c
theorem Lay.at {Z : List gH} (hZ : Lay Z) {i : Nat} {h : gH} (hl : LAY[i]? = some h) (hi : i ≠ 2 := by decide) : Z[i]? = some h := hZ.1 i h hi hl
theorem hb_obj {Z : List gH} (hZ : Lay Z) {h : Nat} (hh : HB h) : Z[h]? = some (.inl (0, hsh h)) := by
  rcases hh with rfl | rfl | rfl
  · exact hZ.at rfl
  · exact hZ.at rfl
  · exact hZ.at rfl
theorem hb_kinds {Z : List gH} (hZ : Lay Z) {h : Nat} (hh : HB h) : Z[h + 1]? = some (.inr (0, 12, none)) := by
  rcases hh with rfl | rfl | rfl
  · exact hZ.at rfl
  · exact hZ.at rfl
  · exact hZ.at rfl
theorem hb_rooms {Z : List gH} (hZ : Lay Z) {h : Nat} (hh : HB h) : Z[h + 2]? = some (.inr (0, 12, none)) := by
  rcases hh with rfl | rfl | rfl
  · exact hZ.at rfl
  · exact hZ.at rfl
  · exact hZ.at rfl
theorem hb_fuels {Z : List gH} (hZ : Lay Z) {h : Nat} (hh : HB h) : Z[h + 3]? = some (.inr (0, 12, none)) := by
  rcases hh with rfl | rfl | rfl
  · exact hZ.at rfl
  · exact hZ.at rfl
  · exact hZ.at rfl
theorem hb_lits {Z : List gH} (hZ : Lay Z) {h : Nat} (hh : HB h) : Z[h + 4]? = some (.inr (0, 12, none)) := by
  rcases hh with rfl | rfl | rfl
  · exact hZ.at rfl
  · exact hZ.at rfl
  · exact hZ.at rfl
theorem hb_heats {Z : List gH} (hZ : Lay Z) {h : Nat} (hh : HB h) : Z[h + 5]? = some (.inr (0, 8, none)) := by
  rcases hh with rfl | rfl | rfl
  · exact hZ.at rfl
  · exact hZ.at rfl
  · exact hZ.at rfl
theorem hb_doors {Z : List gH} (hZ : Lay Z) {h : Nat} (hh : HB h) : Z[h + 6]? = some (.inr (0, 64, none)) := by
  rcases hh with rfl | rfl | rfl
  · exact hZ.at rfl
  · exact hZ.at rfl
  · exact hZ.at rfl
theorem hb_liked {Z : List gH} (hZ : Lay Z) {h : Nat} (hh : HB h) : Z[h + 7]? = some (.inr (0, 6, none)) := by
  rcases hh with rfl | rfl | rfl
  · exact hZ.at rfl
  · exact hZ.at rfl
  · exact hZ.at rfl
theorem hb_counting {Z : List gH} (hZ : Lay Z) {h : Nat} (hh : HB h) : Z[h + 8]? = some (.inr (0, 3, none)) := by
  rcases hh with rfl | rfl | rfl
  · exact hZ.at rfl
  · exact hZ.at rfl
  · exact hZ.at rfl
theorem sb_obj {Z : List gH} (hZ : Lay Z) {c : Nat} (hc : SB c) : Z[c]? = some (.inl (4, ssh c)) := by
  rcases hc with rfl | rfl | rfl | rfl | rfl | rfl | rfl | rfl | rfl <;> exact hZ.at rfl
theorem sb_places {Z : List gH} (hZ : Lay Z) {c : Nat} (hc : SB c) : Z[c + 1]? = some (.inr (0, 24, none)) := by
  rcases hc with rfl | rfl | rfl | rfl | rfl | rfl | rfl | rfl | rfl <;> exact hZ.at rfl
theorem lb_obj {Z : List gH} (hZ : Lay Z) {c : Nat} (hc : LB c) : Z[c]? = some (.inl (5, lsh c)) := by
  rcases hc with rfl | rfl | rfl | rfl | rfl <;> exact hZ.at rfl
theorem lb_row {c : Nat} (hc : LB c) : SB (c + 1) := by
  rcases hc with rfl | rfl | rfl | rfl | rfl <;> simp [SB]
theorem sb_sheets {x : Int32} (h : vp_in x 4) : rsh 4 39 2 (nn x) = some (39 + 2 * nn x) ∧ SB (39 + 2 * nn x) := by
  have h1 : nn x < 4 := Nat.not_le.mp fun q => h (Or.inr q)
  refine ⟨if_pos h1, ?_⟩
  unfold SB
  omega
theorem lb_slots {x : Int32} (h : vp_in x 5) : rsh 5 48 3 (nn x) = some (48 + 3 * nn x) ∧ LB (48 + 3 * nn x) := by
  have h1 : nn x < 5 := Nat.not_le.mp fun q => h (Or.inr q)
  refine ⟨if_pos h1, ?_⟩
  unfold LB
  omega
theorem tx_obj {Z : List gH} {c : Nat} (h : TxB Z c) : Z[c]? = some (.inl (7, tsh c)) := h.1
theorem tx_steps {Z : List gH} {c : Nat} (h : TxB Z c) : IA Z (c + 1) := h.2
theorem ia_of {Z : List gH} {c n : Nat} (h : Z[c]? = some (.inr (0, n, none))) : IA Z c := by
  have e : zl Z c = n := by unfold zl; rw [h]
  unfold IA; rw [e]; exact h
def mFuel : Nat := 5000
def mSh {α : Type} (x : Int32) (f : Nat → Option α) : Option α := mIn 4 x (f (39 + 2 * nn x))
def mSl {α : Type} (x : Int32) (f : Nat → Option α) : Option α := mIn 5 x (f (48 + 3 * nn x))
theorem g_sheet {g : Nat → List (Nat × Value) → List Value → gS → Prop} {T : List (Nat × Instr × Nat)} {own : String} {nL : Nat} {rt : Option FieldType} {R : Room} {Z : List gH} {ad : Nat → Nat} {nc ns : Nat} {E : (p : Program) → (l : Launch) → (e : Env) → (s : State) → (m : MethodId) → (args : Array Value) → (below : List Frame) → (meth : Method) → (c : Code) → (A : Nat → Prop) → (D : va_G) → (cy : Nat → ClassId) → (Q : State → Prop) → Prop} {pc : Nat} {ls : List (Nat × Value)} {st : List Value} {σ : gS} {α : Type} {z : α} (C : gOkQ g T own nL rt R Z ad nc ns E) (j : Nat) {x : Int32} {f : Nat → Option α} (hZ : Lay Z) (hd : T[j]? = some (pc, .aaload, 1)) (h : mSh x f = some z) (kk : ∀ c, SB c → f c = some z → g (pc + 1) ls (.ref (ad c) :: st) σ) : g pc ls (.int x :: .ref (ad 38) :: st) σ := by
  refine g_aald C j hd (Or.inl rfl) (hZ.at (i := 38) rfl) h (fun hin h => ?_)
  rw [(sb_sheets hin).1]
  exact kk _ (sb_sheets hin).2 h
theorem g_slot {g : Nat → List (Nat × Value) → List Value → gS → Prop} {T : List (Nat × Instr × Nat)} {own : String} {nL : Nat} {rt : Option FieldType} {R : Room} {Z : List gH} {ad : Nat → Nat} {nc ns : Nat} {E : (p : Program) → (l : Launch) → (e : Env) → (s : State) → (m : MethodId) → (args : Array Value) → (below : List Frame) → (meth : Method) → (c : Code) → (A : Nat → Prop) → (D : va_G) → (cy : Nat → ClassId) → (Q : State → Prop) → Prop} {pc : Nat} {ls : List (Nat × Value)} {st : List Value} {σ : gS} {α : Type} {z : α} (C : gOkQ g T own nL rt R Z ad nc ns E) (j : Nat) {x : Int32} {f : Nat → Option α} (hZ : Lay Z) (hd : T[j]? = some (pc, .aaload, 1)) (h : mSl x f = some z) (kk : ∀ c, LB c → f c = some z → g (pc + 1) ls (.ref (ad c) :: st) σ) : g pc ls (.int x :: .ref (ad 47) :: st) σ := by
  refine g_aald C j hd (Or.inr (Or.inl rfl)) (hZ.at (i := 47) rfl) h (fun hin h => ?_)
  rw [(lb_slots hin).1]
  exact kk _ (lb_slots hin).2 h
theorem g_let {g : Nat → List (Nat × Value) → List Value → gS → Prop} {pc : Nat} {ls : List (Nat × Value)} {st : List Value} {σ : gS} {α : Type} {z : α} {a : Int32} {f : Int32 → Option α} (h : mLet a f = some z) (k : ∀ x, f x = some z → g pc ls (.int x :: st) σ) : g pc ls (.int a :: st) σ := k a h
theorem g_getq {g : Nat → List (Nat × Value) → List Value → gS → Prop} {pc : Nat} {ls : List (Nat × Value)} {st : List Value} {σ : gS} {α : Type} {z : α} {ad : Nat → Nat} {o : Option Nat} {f : Nat → Option α} (h : mSome o f = some z) (k : ∀ c, o = some c → f c = some z → g pc ls (.ref (ad c) :: st) σ) : g pc ls (va_rf (o.map ad) :: st) σ := by
  cases o with
  | none => cases h
  | some c => exact k c rfl h
end
section
theorem vp_k {x : Int32} {n : Nat} (h : decide (¬ (x < 0 ∨ n ≤ nn x)) = true) : vp_in x n := (of_decide_eq_true h : ¬ (x < 0 ∨ n ≤ nn x))
theorem i32ne {x v : Int32} (h : ¬ x = v) (k : Int) (hk : v.toInt = k) : x.toInt ≠ k := fun e => h (Int32.toInt_inj.mp (e.trans hk.symm))
theorem g_if_eq_T {g : Nat → List (Nat × Value) → List Value → gS → Prop} {T : List (Nat × Instr × Nat)} {own : String} {nL : Nat} {rt : Option FieldType} {R : Room} {Z : List gH} {ad : Nat → Nat} {nc ns : Nat} {E : (p : Program) → (l : Launch) → (e : Env) → (s : State) → (m : MethodId) → (args : Array Value) → (below : List Frame) → (meth : Method) → (c : Code) → (A : Nat → Prop) → (D : va_G) → (cy : Nat → ClassId) → (Q : State → Prop) → Prop} {pc : Nat} {ls : List (Nat × Value)} {st : List Value} {σ : gS} (C : gOkQ g T own nL rt R Z ad nc ns E) (j : Nat) {x : Int32} {off : Int} (tgt : Nat) (hd : T[j]? = some (pc, .ifCond .eq off, 3)) (ht : (pc : Int) + off = (tgt : Int)) (hc : x = 0) (k : g tgt ls st σ) : g pc ls (.int x :: st) σ := g_if_eq C j tgt hd ht (if_pos hc : (if x = 0 then some () else none) = some ()) (fun _ => k) (fun h => by cases h)
theorem g_if_eq_F {g : Nat → List (Nat × Value) → List Value → gS → Prop} {T : List (Nat × Instr × Nat)} {own : String} {nL : Nat} {rt : Option FieldType} {R : Room} {Z : List gH} {ad : Nat → Nat} {nc ns : Nat} {E : (p : Program) → (l : Launch) → (e : Env) → (s : State) → (m : MethodId) → (args : Array Value) → (below : List Frame) → (meth : Method) → (c : Code) → (A : Nat → Prop) → (D : va_G) → (cy : Nat → ClassId) → (Q : State → Prop) → Prop} {pc : Nat} {ls : List (Nat × Value)} {st : List Value} {σ : gS} (C : gOkQ g T own nL rt R Z ad nc ns E) (j : Nat) {x : Int32} {off : Int} (tgt : Nat) (hd : T[j]? = some (pc, .ifCond .eq off, 3)) (ht : (pc : Int) + off = (tgt : Int)) (hc : ¬ (x = 0)) (k : g (pc + 3) ls st σ) : g pc ls (.int x :: st) σ := g_if_eq C j tgt hd ht (if_neg hc : (if x = 0 then none else some ()) = some ()) (fun h => by cases h) (fun _ => k)
theorem g_icmp_eq_T {g : Nat → List (Nat × Value) → List Value → gS → Prop} {T : List (Nat × Instr × Nat)} {own : String} {nL : Nat} {rt : Option FieldType} {R : Room} {Z : List gH} {ad : Nat → Nat} {nc ns : Nat} {E : (p : Program) → (l : Launch) → (e : Env) → (s : State) → (m : MethodId) → (args : Array Value) → (below : List Frame) → (meth : Method) → (c : Code) → (A : Nat → Prop) → (D : va_G) → (cy : Nat → ClassId) → (Q : State → Prop) → Prop} {pc : Nat} {ls : List (Nat × Value)} {st : List Value} {σ : gS} (C : gOkQ g T own nL rt R Z ad nc ns E) (j : Nat) {x y : Int32} {off : Int} (tgt : Nat) (hd : T[j]? = some (pc, .if_icmp .eq off, 3)) (ht : (pc : Int) + off = (tgt : Int)) (hc : x = y) (k : g tgt ls st σ) : g pc ls (.int y :: .int x :: st) σ := g_icmp_eq C j tgt hd ht (if_pos hc : (if x = y then some () else none) = some ()) (fun _ => k) (fun h => by cases h)
theorem g_icmp_eq_F {g : Nat → List (Nat × Value) → List Value → gS → Prop} {T : List (Nat × Instr × Nat)} {own : String} {nL : Nat} {rt : Option FieldType} {R : Room} {Z : List gH} {ad : Nat → Nat} {nc ns : Nat} {E : (p : Program) → (l : Launch) → (e : Env) → (s : State) → (m : MethodId) → (args : Array Value) → (below : List Frame) → (meth : Method) → (c : Code) → (A : Nat → Prop) → (D : va_G) → (cy : Nat → ClassId) → (Q : State → Prop) → Prop} {pc : Nat} {ls : List (Nat × Value)} {st : List Value} {σ : gS} (C : gOkQ g T own nL rt R Z ad nc ns E) (j : Nat) {x y : Int32} {off : Int} (tgt : Nat) (hd : T[j]? = some (pc, .if_icmp .eq off, 3)) (ht : (pc : Int) + off = (tgt : Int)) (hc : ¬ (x = y)) (k : g (pc + 3) ls st σ) : g pc ls (.int y :: .int x :: st) σ := g_icmp_eq C j tgt hd ht (if_neg hc : (if x = y then none else some ()) = some ()) (fun h => by cases h) (fun _ => k)
theorem g_if_ne_T {g : Nat → List (Nat × Value) → List Value → gS → Prop} {T : List (Nat × Instr × Nat)} {own : String} {nL : Nat} {rt : Option FieldType} {R : Room} {Z : List gH} {ad : Nat → Nat} {nc ns : Nat} {E : (p : Program) → (l : Launch) → (e : Env) → (s : State) → (m : MethodId) → (args : Array Value) → (below : List Frame) → (meth : Method) → (c : Code) → (A : Nat → Prop) → (D : va_G) → (cy : Nat → ClassId) → (Q : State → Prop) → Prop} {pc : Nat} {ls : List (Nat × Value)} {st : List Value} {σ : gS} (C : gOkQ g T own nL rt R Z ad nc ns E) (j : Nat) {x : Int32} {off : Int} (tgt : Nat) (hd : T[j]? = some (pc, .ifCond .ne off, 3)) (ht : (pc : Int) + off = (tgt : Int)) (hc : ¬ x = 0) (k : g tgt ls st σ) : g pc ls (.int x :: st) σ := g_if_ne C j tgt hd ht (if_neg hc : (if x = 0 then none else some ()) = some ()) (fun _ => k) (fun h => by cases h)
theorem g_if_ne_F {g : Nat → List (Nat × Value) → List Value → gS → Prop} {T : List (Nat × Instr × Nat)} {own : String} {nL : Nat} {rt : Option FieldType} {R : Room} {Z : List gH} {ad : Nat → Nat} {nc ns : Nat} {E : (p : Program) → (l : Launch) → (e : Env) → (s : State) → (m : MethodId) → (args : Array Value) → (below : List Frame) → (meth : Method) → (c : Code) → (A : Nat → Prop) → (D : va_G) → (cy : Nat → ClassId) → (Q : State → Prop) → Prop} {pc : Nat} {ls : List (Nat × Value)} {st : List Value} {σ : gS} (C : gOkQ g T own nL rt R Z ad nc ns E) (j : Nat) {x : Int32} {off : Int} (tgt : Nat) (hd : T[j]? = some (pc, .ifCond .ne off, 3)) (ht : (pc : Int) + off = (tgt : Int)) (hc : ¬ (¬ x = 0)) (k : g (pc + 3) ls st σ) : g pc ls (.int x :: st) σ := g_if_ne C j tgt hd ht (if_pos (by simpa using hc) : (if x = 0 then some () else none) = some ()) (fun h => by cases h) (fun _ => k)
theorem g_icmp_ne_T {g : Nat → List (Nat × Value) → List Value → gS → Prop} {T : List (Nat × Instr × Nat)} {own : String} {nL : Nat} {rt : Option FieldType} {R : Room} {Z : List gH} {ad : Nat → Nat} {nc ns : Nat} {E : (p : Program) → (l : Launch) → (e : Env) → (s : State) → (m : MethodId) → (args : Array Value) → (below : List Frame) → (meth : Method) → (c : Code) → (A : Nat → Prop) → (D : va_G) → (cy : Nat → ClassId) → (Q : State → Prop) → Prop} {pc : Nat} {ls : List (Nat × Value)} {st : List Value} {σ : gS} (C : gOkQ g T own nL rt R Z ad nc ns E) (j : Nat) {x y : Int32} {off : Int} (tgt : Nat) (hd : T[j]? = some (pc, .if_icmp .ne off, 3)) (ht : (pc : Int) + off = (tgt : Int)) (hc : ¬ x = y) (k : g tgt ls st σ) : g pc ls (.int y :: .int x :: st) σ := g_icmp_ne C j tgt hd ht (if_neg hc : (if x = y then none else some ()) = some ()) (fun _ => k) (fun h => by cases h)
theorem g_icmp_ne_F {g : Nat → List (Nat × Value) → List Value → gS → Prop} {T : List (Nat × Instr × Nat)} {own : String} {nL : Nat} {rt : Option FieldType} {R : Room} {Z : List gH} {ad : Nat → Nat} {nc ns : Nat} {E : (p : Program) → (l : Launch) → (e : Env) → (s : State) → (m : MethodId) → (args : Array Value) → (below : List Frame) → (meth : Method) → (c : Code) → (A : Nat → Prop) → (D : va_G) → (cy : Nat → ClassId) → (Q : State → Prop) → Prop} {pc : Nat} {ls : List (Nat × Value)} {st : List Value} {σ : gS} (C : gOkQ g T own nL rt R Z ad nc ns E) (j : Nat) {x y : Int32} {off : Int} (tgt : Nat) (hd : T[j]? = some (pc, .if_icmp .ne off, 3)) (ht : (pc : Int) + off = (tgt : Int)) (hc : ¬ (¬ x = y)) (k : g (pc + 3) ls st σ) : g pc ls (.int y :: .int x :: st) σ := g_icmp_ne C j tgt hd ht (if_pos (by simpa using hc) : (if x = y then some () else none) = some ()) (fun h => by cases h) (fun _ => k)
theorem g_if_lt_T {g : Nat → List (Nat × Value) → List Value → gS → Prop} {T : List (Nat × Instr × Nat)} {own : String} {nL : Nat} {rt : Option FieldType} {R : Room} {Z : List gH} {ad : Nat → Nat} {nc ns : Nat} {E : (p : Program) → (l : Launch) → (e : Env) → (s : State) → (m : MethodId) → (args : Array Value) → (below : List Frame) → (meth : Method) → (c : Code) → (A : Nat → Prop) → (D : va_G) → (cy : Nat → ClassId) → (Q : State → Prop) → Prop} {pc : Nat} {ls : List (Nat × Value)} {st : List Value} {σ : gS} (C : gOkQ g T own nL rt R Z ad nc ns E) (j : Nat) {x : Int32} {off : Int} (tgt : Nat) (hd : T[j]? = some (pc, .ifCond .lt off, 3)) (ht : (pc : Int) + off = (tgt : Int)) (hc : x < 0) (k : g tgt ls st σ) : g pc ls (.int x :: st) σ := g_if_lt C j tgt hd ht (if_pos hc : (if x < 0 then some () else none) = some ()) (fun _ => k) (fun h => by cases h)
theorem g_if_lt_F {g : Nat → List (Nat × Value) → List Value → gS → Prop} {T : List (Nat × Instr × Nat)} {own : String} {nL : Nat} {rt : Option FieldType} {R : Room} {Z : List gH} {ad : Nat → Nat} {nc ns : Nat} {E : (p : Program) → (l : Launch) → (e : Env) → (s : State) → (m : MethodId) → (args : Array Value) → (below : List Frame) → (meth : Method) → (c : Code) → (A : Nat → Prop) → (D : va_G) → (cy : Nat → ClassId) → (Q : State → Prop) → Prop} {pc : Nat} {ls : List (Nat × Value)} {st : List Value} {σ : gS} (C : gOkQ g T own nL rt R Z ad nc ns E) (j : Nat) {x : Int32} {off : Int} (tgt : Nat) (hd : T[j]? = some (pc, .ifCond .lt off, 3)) (ht : (pc : Int) + off = (tgt : Int)) (hc : ¬ (x < 0)) (k : g (pc + 3) ls st σ) : g pc ls (.int x :: st) σ := g_if_lt C j tgt hd ht (if_neg hc : (if x < 0 then none else some ()) = some ()) (fun h => by cases h) (fun _ => k)
theorem g_icmp_lt_T {g : Nat → List (Nat × Value) → List Value → gS → Prop} {T : List (Nat × Instr × Nat)} {own : String} {nL : Nat} {rt : Option FieldType} {R : Room} {Z : List gH} {ad : Nat → Nat} {nc ns : Nat} {E : (p : Program) → (l : Launch) → (e : Env) → (s : State) → (m : MethodId) → (args : Array Value) → (below : List Frame) → (meth : Method) → (c : Code) → (A : Nat → Prop) → (D : va_G) → (cy : Nat → ClassId) → (Q : State → Prop) → Prop} {pc : Nat} {ls : List (Nat × Value)} {st : List Value} {σ : gS} (C : gOkQ g T own nL rt R Z ad nc ns E) (j : Nat) {x y : Int32} {off : Int} (tgt : Nat) (hd : T[j]? = some (pc, .if_icmp .lt off, 3)) (ht : (pc : Int) + off = (tgt : Int)) (hc : x < y) (k : g tgt ls st σ) : g pc ls (.int y :: .int x :: st) σ := g_icmp_lt C j tgt hd ht (if_pos hc : (if x < y then some () else none) = some ()) (fun _ => k) (fun h => by cases h)
theorem g_icmp_lt_F {g : Nat → List (Nat × Value) → List Value → gS → Prop} {T : List (Nat × Instr × Nat)} {own : String} {nL : Nat} {rt : Option FieldType} {R : Room} {Z : List gH} {ad : Nat → Nat} {nc ns : Nat} {E : (p : Program) → (l : Launch) → (e : Env) → (s : State) → (m : MethodId) → (args : Array Value) → (below : List Frame) → (meth : Method) → (c : Code) → (A : Nat → Prop) → (D : va_G) → (cy : Nat → ClassId) → (Q : State → Prop) → Prop} {pc : Nat} {ls : List (Nat × Value)} {st : List Value} {σ : gS} (C : gOkQ g T own nL rt R Z ad nc ns E) (j : Nat) {x y : Int32} {off : Int} (tgt : Nat) (hd : T[j]? = some (pc, .if_icmp .lt off, 3)) (ht : (pc : Int) + off = (tgt : Int)) (hc : ¬ (x < y)) (k : g (pc + 3) ls st σ) : g pc ls (.int y :: .int x :: st) σ := g_icmp_lt C j tgt hd ht (if_neg hc : (if x < y then none else some ()) = some ()) (fun h => by cases h) (fun _ => k)
theorem g_if_ge_T {g : Nat → List (Nat × Value) → List Value → gS → Prop} {T : List (Nat × Instr × Nat)} {own : String} {nL : Nat} {rt : Option FieldType} {R : Room} {Z : List gH} {ad : Nat → Nat} {nc ns : Nat} {E : (p : Program) → (l : Launch) → (e : Env) → (s : State) → (m : MethodId) → (args : Array Value) → (below : List Frame) → (meth : Method) → (c : Code) → (A : Nat → Prop) → (D : va_G) → (cy : Nat → ClassId) → (Q : State → Prop) → Prop} {pc : Nat} {ls : List (Nat × Value)} {st : List Value} {σ : gS} (C : gOkQ g T own nL rt R Z ad nc ns E) (j : Nat) {x : Int32} {off : Int} (tgt : Nat) (hd : T[j]? = some (pc, .ifCond .ge off, 3)) (ht : (pc : Int) + off = (tgt : Int)) (hc : 0 ≤ x) (k : g tgt ls st σ) : g pc ls (.int x :: st) σ := g_if_ge C j tgt hd ht (if_pos hc : (if 0 ≤ x then some () else none) = some ()) (fun _ => k) (fun h => by cases h)
theorem g_if_ge_F {g : Nat → List (Nat × Value) → List Value → gS → Prop} {T : List (Nat × Instr × Nat)} {own : String} {nL : Nat} {rt : Option FieldType} {R : Room} {Z : List gH} {ad : Nat → Nat} {nc ns : Nat} {E : (p : Program) → (l : Launch) → (e : Env) → (s : State) → (m : MethodId) → (args : Array Value) → (below : List Frame) → (meth : Method) → (c : Code) → (A : Nat → Prop) → (D : va_G) → (cy : Nat → ClassId) → (Q : State → Prop) → Prop} {pc : Nat} {ls : List (Nat × Value)} {st : List Value} {σ : gS} (C : gOkQ g T own nL rt R Z ad nc ns E) (j : Nat) {x : Int32} {off : Int} (tgt : Nat) (hd : T[j]? = some (pc, .ifCond .ge off, 3)) (ht : (pc : Int) + off = (tgt : Int)) (hc : ¬ (0 ≤ x)) (k : g (pc + 3) ls st σ) : g pc ls (.int x :: st) σ := g_if_ge C j tgt hd ht (if_neg hc : (if 0 ≤ x then none else some ()) = some ()) (fun h => by cases h) (fun _ => k)
theorem g_icmp_ge_T {g : Nat → List (Nat × Value) → List Value → gS → Prop} {T : List (Nat × Instr × Nat)} {own : String} {nL : Nat} {rt : Option FieldType} {R : Room} {Z : List gH} {ad : Nat → Nat} {nc ns : Nat} {E : (p : Program) → (l : Launch) → (e : Env) → (s : State) → (m : MethodId) → (args : Array Value) → (below : List Frame) → (meth : Method) → (c : Code) → (A : Nat → Prop) → (D : va_G) → (cy : Nat → ClassId) → (Q : State → Prop) → Prop} {pc : Nat} {ls : List (Nat × Value)} {st : List Value} {σ : gS} (C : gOkQ g T own nL rt R Z ad nc ns E) (j : Nat) {x y : Int32} {off : Int} (tgt : Nat) (hd : T[j]? = some (pc, .if_icmp .ge off, 3)) (ht : (pc : Int) + off = (tgt : Int)) (hc : y ≤ x) (k : g tgt ls st σ) : g pc ls (.int y :: .int x :: st) σ := g_icmp_ge C j tgt hd ht (if_pos hc : (if y ≤ x then some () else none) = some ()) (fun _ => k) (fun h => by cases h)
theorem g_icmp_ge_F {g : Nat → List (Nat × Value) → List Value → gS → Prop} {T : List (Nat × Instr × Nat)} {own : String} {nL : Nat} {rt : Option FieldType} {R : Room} {Z : List gH} {ad : Nat → Nat} {nc ns : Nat} {E : (p : Program) → (l : Launch) → (e : Env) → (s : State) → (m : MethodId) → (args : Array Value) → (below : List Frame) → (meth : Method) → (c : Code) → (A : Nat → Prop) → (D : va_G) → (cy : Nat → ClassId) → (Q : State → Prop) → Prop} {pc : Nat} {ls : List (Nat × Value)} {st : List Value} {σ : gS} (C : gOkQ g T own nL rt R Z ad nc ns E) (j : Nat) {x y : Int32} {off : Int} (tgt : Nat) (hd : T[j]? = some (pc, .if_icmp .ge off, 3)) (ht : (pc : Int) + off = (tgt : Int)) (hc : ¬ (y ≤ x)) (k : g (pc + 3) ls st σ) : g pc ls (.int y :: .int x :: st) σ := g_icmp_ge C j tgt hd ht (if_neg hc : (if y ≤ x then none else some ()) = some ()) (fun h => by cases h) (fun _ => k)
theorem g_if_gt_T {g : Nat → List (Nat × Value) → List Value → gS → Prop} {T : List (Nat × Instr × Nat)} {own : String} {nL : Nat} {rt : Option FieldType} {R : Room} {Z : List gH} {ad : Nat → Nat} {nc ns : Nat} {E : (p : Program) → (l : Launch) → (e : Env) → (s : State) → (m : MethodId) → (args : Array Value) → (below : List Frame) → (meth : Method) → (c : Code) → (A : Nat → Prop) → (D : va_G) → (cy : Nat → ClassId) → (Q : State → Prop) → Prop} {pc : Nat} {ls : List (Nat × Value)} {st : List Value} {σ : gS} (C : gOkQ g T own nL rt R Z ad nc ns E) (j : Nat) {x : Int32} {off : Int} (tgt : Nat) (hd : T[j]? = some (pc, .ifCond .gt off, 3)) (ht : (pc : Int) + off = (tgt : Int)) (hc : 0 < x) (k : g tgt ls st σ) : g pc ls (.int x :: st) σ := g_if_gt C j tgt hd ht (if_pos hc : (if 0 < x then some () else none) = some ()) (fun _ => k) (fun h => by cases h)
theorem g_if_gt_F {g : Nat → List (Nat × Value) → List Value → gS → Prop} {T : List (Nat × Instr × Nat)} {own : String} {nL : Nat} {rt : Option FieldType} {R : Room} {Z : List gH} {ad : Nat → Nat} {nc ns : Nat} {E : (p : Program) → (l : Launch) → (e : Env) → (s : State) → (m : MethodId) → (args : Array Value) → (below : List Frame) → (meth : Method) → (c : Code) → (A : Nat → Prop) → (D : va_G) → (cy : Nat → ClassId) → (Q : State → Prop) → Prop} {pc : Nat} {ls : List (Nat × Value)} {st : List Value} {σ : gS} (C : gOkQ g T own nL rt R Z ad nc ns E) (j : Nat) {x : Int32} {off : Int} (tgt : Nat) (hd : T[j]? = some (pc, .ifCond .gt off, 3)) (ht : (pc : Int) + off = (tgt : Int)) (hc : ¬ (0 < x)) (k : g (pc + 3) ls st σ) : g pc ls (.int x :: st) σ := g_if_gt C j tgt hd ht (if_neg hc : (if 0 < x then none else some ()) = some ()) (fun h => by cases h) (fun _ => k)
theorem g_icmp_gt_T {g : Nat → List (Nat × Value) → List Value → gS → Prop} {T : List (Nat × Instr × Nat)} {own : String} {nL : Nat} {rt : Option FieldType} {R : Room} {Z : List gH} {ad : Nat → Nat} {nc ns : Nat} {E : (p : Program) → (l : Launch) → (e : Env) → (s : State) → (m : MethodId) → (args : Array Value) → (below : List Frame) → (meth : Method) → (c : Code) → (A : Nat → Prop) → (D : va_G) → (cy : Nat → ClassId) → (Q : State → Prop) → Prop} {pc : Nat} {ls : List (Nat × Value)} {st : List Value} {σ : gS} (C : gOkQ g T own nL rt R Z ad nc ns E) (j : Nat) {x y : Int32} {off : Int} (tgt : Nat) (hd : T[j]? = some (pc, .if_icmp .gt off, 3)) (ht : (pc : Int) + off = (tgt : Int)) (hc : y < x) (k : g tgt ls st σ) : g pc ls (.int y :: .int x :: st) σ := g_icmp_gt C j tgt hd ht (if_pos hc : (if y < x then some () else none) = some ()) (fun _ => k) (fun h => by cases h)
theorem g_icmp_gt_F {g : Nat → List (Nat × Value) → List Value → gS → Prop} {T : List (Nat × Instr × Nat)} {own : String} {nL : Nat} {rt : Option FieldType} {R : Room} {Z : List gH} {ad : Nat → Nat} {nc ns : Nat} {E : (p : Program) → (l : Launch) → (e : Env) → (s : State) → (m : MethodId) → (args : Array Value) → (below : List Frame) → (meth : Method) → (c : Code) → (A : Nat → Prop) → (D : va_G) → (cy : Nat → ClassId) → (Q : State → Prop) → Prop} {pc : Nat} {ls : List (Nat × Value)} {st : List Value} {σ : gS} (C : gOkQ g T own nL rt R Z ad nc ns E) (j : Nat) {x y : Int32} {off : Int} (tgt : Nat) (hd : T[j]? = some (pc, .if_icmp .gt off, 3)) (ht : (pc : Int) + off = (tgt : Int)) (hc : ¬ (y < x)) (k : g (pc + 3) ls st σ) : g pc ls (.int y :: .int x :: st) σ := g_icmp_gt C j tgt hd ht (if_neg hc : (if y < x then none else some ()) = some ()) (fun h => by cases h) (fun _ => k)
theorem g_if_le_T {g : Nat → List (Nat × Value) → List Value → gS → Prop} {T : List (Nat × Instr × Nat)} {own : String} {nL : Nat} {rt : Option FieldType} {R : Room} {Z : List gH} {ad : Nat → Nat} {nc ns : Nat} {E : (p : Program) → (l : Launch) → (e : Env) → (s : State) → (m : MethodId) → (args : Array Value) → (below : List Frame) → (meth : Method) → (c : Code) → (A : Nat → Prop) → (D : va_G) → (cy : Nat → ClassId) → (Q : State → Prop) → Prop} {pc : Nat} {ls : List (Nat × Value)} {st : List Value} {σ : gS} (C : gOkQ g T own nL rt R Z ad nc ns E) (j : Nat) {x : Int32} {off : Int} (tgt : Nat) (hd : T[j]? = some (pc, .ifCond .le off, 3)) (ht : (pc : Int) + off = (tgt : Int)) (hc : x ≤ 0) (k : g tgt ls st σ) : g pc ls (.int x :: st) σ := g_if_le C j tgt hd ht (if_pos hc : (if x ≤ 0 then some () else none) = some ()) (fun _ => k) (fun h => by cases h)
theorem g_if_le_F {g : Nat → List (Nat × Value) → List Value → gS → Prop} {T : List (Nat × Instr × Nat)} {own : String} {nL : Nat} {rt : Option FieldType} {R : Room} {Z : List gH} {ad : Nat → Nat} {nc ns : Nat} {E : (p : Program) → (l : Launch) → (e : Env) → (s : State) → (m : MethodId) → (args : Array Value) → (below : List Frame) → (meth : Method) → (c : Code) → (A : Nat → Prop) → (D : va_G) → (cy : Nat → ClassId) → (Q : State → Prop) → Prop} {pc : Nat} {ls : List (Nat × Value)} {st : List Value} {σ : gS} (C : gOkQ g T own nL rt R Z ad nc ns E) (j : Nat) {x : Int32} {off : Int} (tgt : Nat) (hd : T[j]? = some (pc, .ifCond .le off, 3)) (ht : (pc : Int) + off = (tgt : Int)) (hc : ¬ (x ≤ 0)) (k : g (pc + 3) ls st σ) : g pc ls (.int x :: st) σ := g_if_le C j tgt hd ht (if_neg hc : (if x ≤ 0 then none else some ()) = some ()) (fun h => by cases h) (fun _ => k)
theorem g_icmp_le_T {g : Nat → List (Nat × Value) → List Value → gS → Prop} {T : List (Nat × Instr × Nat)} {own : String} {nL : Nat} {rt : Option FieldType} {R : Room} {Z : List gH} {ad : Nat → Nat} {nc ns : Nat} {E : (p : Program) → (l : Launch) → (e : Env) → (s : State) → (m : MethodId) → (args : Array Value) → (below : List Frame) → (meth : Method) → (c : Code) → (A : Nat → Prop) → (D : va_G) → (cy : Nat → ClassId) → (Q : State → Prop) → Prop} {pc : Nat} {ls : List (Nat × Value)} {st : List Value} {σ : gS} (C : gOkQ g T own nL rt R Z ad nc ns E) (j : Nat) {x y : Int32} {off : Int} (tgt : Nat) (hd : T[j]? = some (pc, .if_icmp .le off, 3)) (ht : (pc : Int) + off = (tgt : Int)) (hc : x ≤ y) (k : g tgt ls st σ) : g pc ls (.int y :: .int x :: st) σ := g_icmp_le C j tgt hd ht (if_pos hc : (if x ≤ y then some () else none) = some ()) (fun _ => k) (fun h => by cases h)
theorem g_icmp_le_F {g : Nat → List (Nat × Value) → List Value → gS → Prop} {T : List (Nat × Instr × Nat)} {own : String} {nL : Nat} {rt : Option FieldType} {R : Room} {Z : List gH} {ad : Nat → Nat} {nc ns : Nat} {E : (p : Program) → (l : Launch) → (e : Env) → (s : State) → (m : MethodId) → (args : Array Value) → (below : List Frame) → (meth : Method) → (c : Code) → (A : Nat → Prop) → (D : va_G) → (cy : Nat → ClassId) → (Q : State → Prop) → Prop} {pc : Nat} {ls : List (Nat × Value)} {st : List Value} {σ : gS} (C : gOkQ g T own nL rt R Z ad nc ns E) (j : Nat) {x y : Int32} {off : Int} (tgt : Nat) (hd : T[j]? = some (pc, .if_icmp .le off, 3)) (ht : (pc : Int) + off = (tgt : Int)) (hc : ¬ (x ≤ y)) (k : g (pc + 3) ls st σ) : g pc ls (.int y :: .int x :: st) σ := g_icmp_le C j tgt hd ht (if_neg hc : (if x ≤ y then none else some ()) = some ()) (fun h => by cases h) (fun _ => k)
def T_JA_fill : List (Nat × Instr × Nat) := [(0, .iconst 0, 1), (1, .istore_n 2, 1), (2, .aload_n 0, 1), (3, .arraylength, 1), (4, .istore_n 3, 1), (5, .iload_n 2, 1), (6, .iload_n 3, 1), (7, .if_icmp .ge (13), 3), (10, .aload_n 0, 1), (11, .iload_n 2, 1), (12, .iload_n 1, 1), (13, .iastore, 1), (14, .iinc 2 1, 3), (17, .goto (-12), 3), (20, .return_, 1)]
theorem T_JA_fill_ok : gTb cJA_fill T_JA_fill = true := by decide +kernel
def F_JA_fill_L5 (Z : List gH) (l0 : Nat) (l1 : Int32) : Nat → Int32 → Int32 → gS → Option (Int32 × gS)
  | 0, _, _, _ => none
  | n + 1, l2, l3, σ => if l3 ≤ l2 then some (0, σ) else mIn (zl Z l0) l2 (mLet (gu σ l0 (nn l2) l1) (fun s1 => F_JA_fill_L5 Z l0 l1 n (l2 + 1) l3 s1))
def F_JA_fill (Z : List gH) (l0 : Nat) (l1 : Int32) (σ : gS) : Option (Int32 × gS) := mLet ((Int32.ofNat (zl Z l0))) (fun v1 => F_JA_fill_L5 Z l0 l1 mFuel 0 v1 σ)
set_option maxRecDepth 20000 in
set_option maxHeartbeats 4000000 in
theorem C_F_JA_fill_L5 {g : Nat → List (Nat × Value) → List Value → gS → Prop} {Z : List gH} {ad : Nat → Nat} {z : Int32 × gS}  (C : gOk g T_JA_fill RJA 4 none 1 Z ad z) (hZ : Lay Z) (l0 : Nat) (hl0 : IA Z l0) (l1 : Int32) : ∀ (n : Nat) (l2 : Int32) (l3 : Int32) (σ : gS), F_JA_fill_L5 Z l0 l1 n l2 l3 σ = some z → g 5 [(0, .ref (ad l0)), (1, .int l1), (2, .int l2), (3, .int l3)] [] σ := by
  intro n
  induction n with
  | zero => intro l2 l3 σ h; cases h
  | succ n ih =>
    intro l2 l3 σ h
    rw [F_JA_fill_L5] at h
    refine g_iload_n C 5 2 rfl rfl ?_
    refine g_iload_n C 6 3 rfl rfl ?_
    refine g_icmp_ge C 7 20 rfl rfl h (fun h => ?_) (fun h => ?_)
    · exact g_return C 14 rfl h
    · refine g_aload_n C 8 0 rfl rfl ?_
      refine g_iload_n C 9 2 rfl rfl ?_
      refine g_iload_n C 10 1 rfl rfl ?_
      refine g_iast C 11 rfl hl0 h (fun s1 h => ?_)
      refine g_iinc C 12 2 (l2 + 1) [(2, .int (l2 + 1)), (0, .ref (ad l0)), (1, .int l1), (3, .int l3)] rfl rfl (by decide) rfl rfl ?_
      refine g_goto C 13 5 rfl rfl ?_
      refine g_sub C [1, 2, 0, 3] [(0, .ref (ad l0)), (1, .int l1), (2, .int (l2 + 1)), (3, .int l3)] rfl ?_
      exact ih _ _ _ h
set_option maxRecDepth 20000 in
set_option maxHeartbeats 4000000 in
theorem M_JA_fill {Z : List gH} (hZ : Lay Z) (l0 : Nat) (hl0 : IA Z l0) (l1 : Int32) : gMet yJA_fill cJA_fill 4 none 1 Z (fun ad => [.ref (ad l0), .int l1]) (F_JA_fill Z l0 l1) := by
  refine gMet_intro T_JA_fill T_JA_fill_ok rfl (fun _ => Nat.le_of_ble_eq_true rfl) (fun g ad σ z C h => ?_)
  show g 0 [(0, .ref (ad l0)), (1, .int l1)] [] σ
  rw [F_JA_fill] at h
  refine g_iconst (v := 0) C 0 rfl rfl ?_
  refine g_istore_n C 1 [(2, .int 0), (0, .ref (ad l0)), (1, .int l1)] rfl (by decide) rfl ?_
  refine g_aload_n C 2 1 rfl rfl ?_
  refine g_alen C 3 rfl hl0 ?_
  refine g_let h (fun v1 h => ?_)
  refine g_istore_n C 4 [(3, .int v1), (2, .int 0), (0, .ref (ad l0)), (1, .int l1)] rfl (by decide) rfl ?_
  refine g_sub C [2, 3, 1, 0] [(0, .ref (ad l0)), (1, .int l1), (2, .int 0), (3, .int v1)] rfl ?_
  exact C_F_JA_fill_L5 C hZ _ hl0 _ _ _ _ _ h
def T_X9_within : List (Nat × Instr × Nat) := [(0, .iload_n 0, 1), (1, .iload_n 1, 1), (2, .if_icmp .lt 12, 3), (5, .iload_n 0, 1), (6, .iload_n 2, 1), (7, .if_icmp .gt 7, 3), (10, .iconst 1, 1), (11, .goto 4, 3), (14, .iconst 0, 1), (15, .ireturn, 1)]
theorem T_X9_within_ok : gTb cX9_within T_X9_within = true := by decide +kernel
def F_X9_within (Z : List gH) (l0 : Int32) (l1 : Int32) (l2 : Int32) (σ : gS) : Option (Int32 × gS) := if l0 < l1 then mZ 0 σ else if l2 < l0 then mZ 0 σ else mZ 1 σ
set_option maxRecDepth 20000 in
set_option maxHeartbeats 4000000 in
theorem M_X9_within {Z : List gH} (hZ : Lay Z) (l0 : Int32) (l1 : Int32) (l2 : Int32) : gMet yX9_within cX9_within 3 (some .boolean) 1 Z (fun ad => [.int l0, .int l1, .int l2]) (F_X9_within Z l0 l1 l2) := by
  refine gMet_intro T_X9_within T_X9_within_ok rfl (fun _ => Nat.le_of_ble_eq_true rfl) (fun g ad σ z C h => ?_)
  show g 0 [(0, .int l0), (1, .int l1), (2, .int l2)] [] σ
  rw [F_X9_within] at h
  refine g_iload_n C 0 0 rfl rfl ?_
  refine g_iload_n C 1 1 rfl rfl ?_
  refine g_icmp_lt C 2 14 rfl rfl h (fun h => ?_) (fun h => ?_)
  · refine g_iconst (v := 0) C 8 rfl rfl ?_
    exact g_zreturn C 9 rfl h
  · refine g_iload_n C 3 0 rfl rfl ?_
    refine g_iload_n C 4 2 rfl rfl ?_
    refine g_icmp_gt C 5 14 rfl rfl h (fun h => ?_) (fun h => ?_)
    · refine g_iconst (v := 0) C 8 rfl rfl ?_
      exact g_zreturn C 9 rfl h
    · refine g_iconst (v := 1) C 6 rfl rfl ?_
      refine g_goto C 7 15 rfl rfl ?_
      exact g_zreturn C 9 rfl h
def T_X1_gives : List (Nat × Instr × Nat) := [(0, .iload_n 0, 1), (1, .tableswitch 39 1 4 #[31, 35, 31, 35], 31), (32, .iload_n 1, 1), (33, .iconst 3, 1), (34, .iadd, 1), (35, .ireturn, 1), (36, .iload_n 1, 1), (37, .iconst 2, 1), (38, .idiv, 1), (39, .ireturn, 1), (40, .iload_n 1, 1), (41, .ireturn, 1)]
theorem T_X1_gives_ok : gTb cX1_gives T_X1_gives = true := by decide +kernel
def F_X1_gives (Z : List gH) (l0 : Int32) (l1 : Int32) (σ : gS) : Option (Int32 × gS) := if l0 = 1 then some ((l1 + 3), σ) else if l0 = 2 then some ((l1 / 2), σ) else if l0 = 3 then some ((l1 + 3), σ) else if l0 = 4 then some ((l1 / 2), σ) else some (l1, σ)
set_option maxRecDepth 20000 in
set_option maxHeartbeats 4000000 in
theorem M_X1_gives {Z : List gH} (hZ : Lay Z) (l0 : Int32) (l1 : Int32) : gMet yX1_gives cX1_gives 2 (some .int) 1 Z (fun ad => [.int l0, .int l1]) (F_X1_gives Z l0 l1) := by
  refine gMet_intro T_X1_gives T_X1_gives_ok rfl (fun _ => Nat.le_of_ble_eq_true rfl) (fun g ad σ z C h => ?_)
  show g 0 [(0, .int l0), (1, .int l1)] [] σ
  rw [F_X1_gives] at h
  refine g_iload_n C 0 0 rfl rfl ?_
  by_cases hx0_0 : l0 = 1
  · rw [if_pos hx0_0] at h
    refine g_tblAt C 1 1 hx0_0 32 rfl (by decide) (by decide) rfl rfl ?_
    refine g_iload_n C 2 1 rfl rfl ?_
    refine g_iconst (v := 3) C 3 rfl rfl ?_
    refine g_iadd C 4 rfl ?_
    exact g_ireturn C 5 rfl h
  · rw [if_neg hx0_0] at h
    by_cases hx0_1 : l0 = 2
    · rw [if_pos hx0_1] at h
      refine g_tblAt C 1 2 hx0_1 36 rfl (by decide) (by decide) rfl rfl ?_
      refine g_iload_n C 6 1 rfl rfl ?_
      refine g_iconst (v := 2) C 7 rfl rfl ?_
      refine g_idivK C 8 rfl (by decide) ?_
      exact g_ireturn C 9 rfl h
    · rw [if_neg hx0_1] at h
      by_cases hx0_2 : l0 = 3
      · rw [if_pos hx0_2] at h
        refine g_tblAt C 1 3 hx0_2 32 rfl (by decide) (by decide) rfl rfl ?_
        refine g_iload_n C 2 1 rfl rfl ?_
        refine g_iconst (v := 3) C 3 rfl rfl ?_
        refine g_iadd C 4 rfl ?_
        exact g_ireturn C 5 rfl h
      · rw [if_neg hx0_2] at h
        by_cases hx0_3 : l0 = 4
        · rw [if_pos hx0_3] at h
          refine g_tblAt C 1 4 hx0_3 36 rfl (by decide) (by decide) rfl rfl ?_
          refine g_iload_n C 6 1 rfl rfl ?_
          refine g_iconst (v := 2) C 7 rfl rfl ?_
          refine g_idivK C 8 rfl (by decide) ?_
          exact g_ireturn C 9 rfl h
        · rw [if_neg hx0_3] at h
          refine g_tblOut C 1 40 rfl (by have e0 := i32ne hx0_0 1 rfl; have e1 := i32ne hx0_1 2 rfl; have e2 := i32ne hx0_2 3 rfl; have e3 := i32ne hx0_3 4 rfl; omega) rfl ?_
          refine g_iload_n C 10 1 rfl rfl ?_
          exact g_ireturn C 11 rfl h
def T_X1_catchesFrom : List (Nat × Instr × Nat) := [(0, .iload_n 0, 1), (1, .tableswitch 50 1 5 #[35, 41, 38, 44, 47], 35), (36, .bipush 12, 2), (38, .ireturn, 1), (39, .bipush 6, 2), (41, .ireturn, 1), (42, .bipush 35, 2), (44, .ireturn, 1), (45, .bipush 70, 2), (47, .ireturn, 1), (48, .bipush 100, 2), (50, .ireturn, 1), (51, .bipush 20, 2), (53, .ireturn, 1)]
theorem T_X1_catchesFrom_ok : gTb cX1_catchesFrom T_X1_catchesFrom = true := by decide +kernel
def F_X1_catchesFrom (Z : List gH) (l0 : Int32) (σ : gS) : Option (Int32 × gS) := if l0 = 1 then some (12, σ) else if l0 = 2 then some (35, σ) else if l0 = 3 then some (6, σ) else if l0 = 4 then some (70, σ) else if l0 = 5 then some (100, σ) else some (20, σ)
set_option maxRecDepth 20000 in
set_option maxHeartbeats 4000000 in
theorem M_X1_catchesFrom {Z : List gH} (hZ : Lay Z) (l0 : Int32) : gMet yX1_catchesFrom cX1_catchesFrom 1 (some .int) 1 Z (fun ad => [.int l0]) (F_X1_catchesFrom Z l0) := by
  refine gMet_intro T_X1_catchesFrom T_X1_catchesFrom_ok rfl (fun _ => Nat.le_of_ble_eq_true rfl) (fun g ad σ z C h => ?_)
  show g 0 [(0, .int l0)] [] σ
  rw [F_X1_catchesFrom] at h
  refine g_iload_n C 0 0 rfl rfl ?_
  by_cases hx0_0 : l0 = 1
  · rw [if_pos hx0_0] at h
    refine g_tblAt C 1 1 hx0_0 36 rfl (by decide) (by decide) rfl rfl ?_
    refine g_bipush (v := 12) C 2 rfl rfl ?_
    exact g_ireturn C 3 rfl h
  · rw [if_neg hx0_0] at h
    by_cases hx0_1 : l0 = 2
    · rw [if_pos hx0_1] at h
      refine g_tblAt C 1 2 hx0_1 42 rfl (by decide) (by decide) rfl rfl ?_
      refine g_bipush (v := 35) C 6 rfl rfl ?_
      exact g_ireturn C 7 rfl h
    · rw [if_neg hx0_1] at h
      by_cases hx0_2 : l0 = 3
      · rw [if_pos hx0_2] at h
        refine g_tblAt C 1 3 hx0_2 39 rfl (by decide) (by decide) rfl rfl ?_
        refine g_bipush (v := 6) C 4 rfl rfl ?_
        exact g_ireturn C 5 rfl h
      · rw [if_neg hx0_2] at h
        by_cases hx0_3 : l0 = 4
        · rw [if_pos hx0_3] at h
          refine g_tblAt C 1 4 hx0_3 45 rfl (by decide) (by decide) rfl rfl ?_
          refine g_bipush (v := 70) C 8 rfl rfl ?_
          exact g_ireturn C 9 rfl h
        · rw [if_neg hx0_3] at h
          by_cases hx0_4 : l0 = 5
          · rw [if_pos hx0_4] at h
            refine g_tblAt C 1 5 hx0_4 48 rfl (by decide) (by decide) rfl rfl ?_
            refine g_bipush (v := 100) C 10 rfl rfl ?_
            exact g_ireturn C 11 rfl h
          · rw [if_neg hx0_4] at h
            refine g_tblOut C 1 51 rfl (by have e0 := i32ne hx0_0 1 rfl; have e1 := i32ne hx0_1 2 rfl; have e2 := i32ne hx0_2 3 rfl; have e3 := i32ne hx0_3 4 rfl; have e4 := i32ne hx0_4 5 rfl; omega) rfl ?_
            refine g_bipush (v := 20) C 12 rfl rfl ?_
            exact g_ireturn C 13 rfl h
def T_X1_worth : List (Nat × Instr × Nat) := [(0, .iload_n 0, 1), (1, .tableswitch 60 1 5 #[35, 45, 39, 50, 58], 35), (36, .iload_n 1, 1), (37, .iconst 4, 1), (38, .iadd, 1), (39, .ireturn, 1), (40, .iconst 2, 1), (41, .iload_n 1, 1), (42, .iconst 4, 1), (43, .iadd, 1), (44, .imul, 1), (45, .ireturn, 1), (46, .bipush 120, 2), (48, .iload_n 1, 1), (49, .isub, 1), (50, .ireturn, 1), (51, .bipush 120, 2), (53, .iload_n 1, 1), (54, .isub, 1), (55, .bipush 6, 2), (57, .isub, 1), (58, .ireturn, 1), (59, .iconst 3, 1), (60, .ireturn, 1), (61, .iload_n 1, 1), (62, .ireturn, 1)]
theorem T_X1_worth_ok : gTb cX1_worth T_X1_worth = true := by decide +kernel
def F_X1_worth (Z : List gH) (l0 : Int32) (l1 : Int32) (σ : gS) : Option (Int32 × gS) := if l0 = 1 then some ((l1 + 4), σ) else if l0 = 2 then some ((120 - l1), σ) else if l0 = 3 then some ((2 * (l1 + 4)), σ) else if l0 = 4 then some (((120 - l1) - 6), σ) else if l0 = 5 then some (3, σ) else some (l1, σ)
set_option maxRecDepth 20000 in
set_option maxHeartbeats 4000000 in
theorem M_X1_worth {Z : List gH} (hZ : Lay Z) (l0 : Int32) (l1 : Int32) : gMet yX1_worth cX1_worth 2 (some .int) 1 Z (fun ad => [.int l0, .int l1]) (F_X1_worth Z l0 l1) := by
  refine gMet_intro T_X1_worth T_X1_worth_ok rfl (fun _ => Nat.le_of_ble_eq_true rfl) (fun g ad σ z C h => ?_)
  show g 0 [(0, .int l0), (1, .int l1)] [] σ
  rw [F_X1_worth] at h
  refine g_iload_n C 0 0 rfl rfl ?_
  by_cases hx0_0 : l0 = 1
  · rw [if_pos hx0_0] at h
    refine g_tblAt C 1 1 hx0_0 36 rfl (by decide) (by decide) rfl rfl ?_
    refine g_iload_n C 2 1 rfl rfl ?_
    refine g_iconst (v := 4) C 3 rfl rfl ?_
    refine g_iadd C 4 rfl ?_
    exact g_ireturn C 5 rfl h
  · rw [if_neg hx0_0] at h
    by_cases hx0_1 : l0 = 2
    · rw [if_pos hx0_1] at h
      refine g_tblAt C 1 2 hx0_1 46 rfl (by decide) (by decide) rfl rfl ?_
      refine g_bipush (v := 120) C 12 rfl rfl ?_
      refine g_iload_n C 13 1 rfl rfl ?_
      refine g_isub C 14 rfl ?_
      exact g_ireturn C 15 rfl h
    · rw [if_neg hx0_1] at h
      by_cases hx0_2 : l0 = 3
      · rw [if_pos hx0_2] at h
        refine g_tblAt C 1 3 hx0_2 40 rfl (by decide) (by decide) rfl rfl ?_
        refine g_iconst (v := 2) C 6 rfl rfl ?_
        refine g_iload_n C 7 1 rfl rfl ?_
        refine g_iconst (v := 4) C 8 rfl rfl ?_
        refine g_iadd C 9 rfl ?_
        refine g_imul C 10 rfl ?_
        exact g_ireturn C 11 rfl h
      · rw [if_neg hx0_2] at h
        by_cases hx0_3 : l0 = 4
        · rw [if_pos hx0_3] at h
          refine g_tblAt C 1 4 hx0_3 51 rfl (by decide) (by decide) rfl rfl ?_
          refine g_bipush (v := 120) C 16 rfl rfl ?_
          refine g_iload_n C 17 1 rfl rfl ?_
          refine g_isub C 18 rfl ?_
          refine g_bipush (v := 6) C 19 rfl rfl ?_
          refine g_isub C 20 rfl ?_
          exact g_ireturn C 21 rfl h
        · rw [if_neg hx0_3] at h
          by_cases hx0_4 : l0 = 5
          · rw [if_pos hx0_4] at h
            refine g_tblAt C 1 5 hx0_4 59 rfl (by decide) (by decide) rfl rfl ?_
            refine g_iconst (v := 3) C 22 rfl rfl ?_
            exact g_ireturn C 23 rfl h
          · rw [if_neg hx0_4] at h
            refine g_tblOut C 1 61 rfl (by have e0 := i32ne hx0_0 1 rfl; have e1 := i32ne hx0_1 2 rfl; have e2 := i32ne hx0_2 3 rfl; have e3 := i32ne hx0_3 4 rfl; have e4 := i32ne hx0_4 5 rfl; omega) rfl ?_
            refine g_iload_n C 24 1 rfl rfl ?_
            exact g_ireturn C 25 rfl h
def T_X9_held : List (Nat × Instr × Nat) := [(0, .iconst 0, 1), (1, .iload_n 1, 1), (2, .iload_n 0, 1), (3, .invokestatic 143, 3), (6, .invokestatic 336, 3), (9, .ireturn, 1)]
theorem T_X9_held_ok : gTb cX9_held T_X9_held = true := by decide +kernel
def F_X9_held (Z : List gH) (l0 : Int32) (l1 : Int32) (σ : gS) : Option (Int32 × gS) := some ((mMax 0 (mMin l1 l0)), σ)
set_option maxRecDepth 20000 in
set_option maxHeartbeats 4000000 in
theorem M_X9_held {Z : List gH} (hZ : Lay Z) (l0 : Int32) (l1 : Int32) : gMet yX9_held cX9_held 2 (some .int) 2 Z (fun ad => [.int l0, .int l1]) (F_X9_held Z l0 l1) := by
  refine gMet_intro T_X9_held T_X9_held_ok rfl (fun _ => Nat.le_of_ble_eq_true rfl) (fun g ad σ z C h => ?_)
  show g 0 [(0, .int l0), (1, .int l1)] [] σ
  rw [F_X9_held] at h
  refine g_iconst (v := 0) C 0 rfl rfl ?_
  refine g_iload_n C 1 1 rfl rfl ?_
  refine g_iload_n C 2 0 rfl rfl ?_
  refine g_mmin C 3 rfl cnX9_143 wm_min ⟨Nat.le_of_ble_eq_true rfl, Nat.le_of_ble_eq_true rfl⟩ ?_
  refine g_mmax C 4 rfl cnX9_336 wm_max ⟨Nat.le_of_ble_eq_true rfl, Nat.le_of_ble_eq_true rfl⟩ ?_
  exact g_ireturn C 5 rfl h
def T_X1_burns : List (Nat × Instr × Nat) := [(0, .iload_n 0, 1), (1, .tableswitch 61 1 5 #[35, 45, 39, 49, 59], 35), (36, .iload_n 1, 1), (37, .iconst 2, 1), (38, .iadd, 1), (39, .ireturn, 1), (40, .iconst 2, 1), (41, .iload_n 1, 1), (42, .iconst 2, 1), (43, .iadd, 1), (44, .imul, 1), (45, .ireturn, 1), (46, .iload_n 1, 1), (47, .iconst 2, 1), (48, .idiv, 1), (49, .ireturn, 1), (50, .iconst 0, 1), (51, .iload_n 1, 1), (52, .iconst 2, 1), (53, .idiv, 1), (54, .iconst 1, 1), (55, .isub, 1), (56, .invokestatic 13, 3), (59, .ireturn, 1), (60, .iconst 0, 1), (61, .ireturn, 1), (62, .iload_n 1, 1), (63, .ireturn, 1)]
theorem T_X1_burns_ok : gTb cX1_burns T_X1_burns = true := by decide +kernel
def F_X1_burns (Z : List gH) (l0 : Int32) (l1 : Int32) (σ : gS) : Option (Int32 × gS) := if l0 = 1 then some ((l1 + 2), σ) else if l0 = 2 then some ((l1 / 2), σ) else if l0 = 3 then some ((2 * (l1 + 2)), σ) else if l0 = 4 then some ((mMax 0 ((l1 / 2) - 1)), σ) else if l0 = 5 then some (0, σ) else some (l1, σ)
set_option maxRecDepth 20000 in
set_option maxHeartbeats 4000000 in
theorem M_X1_burns {Z : List gH} (hZ : Lay Z) (l0 : Int32) (l1 : Int32) : gMet yX1_burns cX1_burns 2 (some .int) 2 Z (fun ad => [.int l0, .int l1]) (F_X1_burns Z l0 l1) := by
  refine gMet_intro T_X1_burns T_X1_burns_ok rfl (fun _ => Nat.le_of_ble_eq_true rfl) (fun g ad σ z C h => ?_)
  show g 0 [(0, .int l0), (1, .int l1)] [] σ
  rw [F_X1_burns] at h
  refine g_iload_n C 0 0 rfl rfl ?_
  by_cases hx0_0 : l0 = 1
  · rw [if_pos hx0_0] at h
    refine g_tblAt C 1 1 hx0_0 36 rfl (by decide) (by decide) rfl rfl ?_
    refine g_iload_n C 2 1 rfl rfl ?_
    refine g_iconst (v := 2) C 3 rfl rfl ?_
    refine g_iadd C 4 rfl ?_
    exact g_ireturn C 5 rfl h
  · rw [if_neg hx0_0] at h
    by_cases hx0_1 : l0 = 2
    · rw [if_pos hx0_1] at h
      refine g_tblAt C 1 2 hx0_1 46 rfl (by decide) (by decide) rfl rfl ?_
      refine g_iload_n C 12 1 rfl rfl ?_
      refine g_iconst (v := 2) C 13 rfl rfl ?_
      refine g_idivK C 14 rfl (by decide) ?_
      exact g_ireturn C 15 rfl h
    · rw [if_neg hx0_1] at h
      by_cases hx0_2 : l0 = 3
      · rw [if_pos hx0_2] at h
        refine g_tblAt C 1 3 hx0_2 40 rfl (by decide) (by decide) rfl rfl ?_
        refine g_iconst (v := 2) C 6 rfl rfl ?_
        refine g_iload_n C 7 1 rfl rfl ?_
        refine g_iconst (v := 2) C 8 rfl rfl ?_
        refine g_iadd C 9 rfl ?_
        refine g_imul C 10 rfl ?_
        exact g_ireturn C 11 rfl h
      · rw [if_neg hx0_2] at h
        by_cases hx0_3 : l0 = 4
        · rw [if_pos hx0_3] at h
          refine g_tblAt C 1 4 hx0_3 50 rfl (by decide) (by decide) rfl rfl ?_
          refine g_iconst (v := 0) C 16 rfl rfl ?_
          refine g_iload_n C 17 1 rfl rfl ?_
          refine g_iconst (v := 2) C 18 rfl rfl ?_
          refine g_idivK C 19 rfl (by decide) ?_
          refine g_iconst (v := 1) C 20 rfl rfl ?_
          refine g_isub C 21 rfl ?_
          refine g_mmax C 22 rfl cnX1_13 wm_max ⟨Nat.le_of_ble_eq_true rfl, Nat.le_of_ble_eq_true rfl⟩ ?_
          exact g_ireturn C 23 rfl h
        · rw [if_neg hx0_3] at h
          by_cases hx0_4 : l0 = 5
          · rw [if_pos hx0_4] at h
            refine g_tblAt C 1 5 hx0_4 60 rfl (by decide) (by decide) rfl rfl ?_
            refine g_iconst (v := 0) C 24 rfl rfl ?_
            exact g_ireturn C 25 rfl h
          · rw [if_neg hx0_4] at h
            refine g_tblOut C 1 62 rfl (by have e0 := i32ne hx0_0 1 rfl; have e1 := i32ne hx0_1 2 rfl; have e2 := i32ne hx0_2 3 rfl; have e3 := i32ne hx0_3 4 rfl; have e4 := i32ne hx0_4 5 rfl; omega) rfl ?_
            refine g_iload_n C 26 1 rfl rfl ?_
            exact g_ireturn C 27 rfl h
def T_X2_joined : List (Nat × Instr × Nat) := [(0, .iload_n 0, 1), (1, .lookupswitch 148 #[(38, 89), (42, 144), (43, 136), (45, 140), (60, 103), (61, 114), (62, 125), (124, 75)], 75), (76, .iload_n 1, 1), (77, .ifCond .ne 7, 3), (80, .iload_n 2, 1), (81, .ifCond .eq 7, 3), (84, .iconst 1, 1), (85, .goto 4, 3), (88, .iconst 0, 1), (89, .ireturn, 1), (90, .iload_n 1, 1), (91, .ifCond .eq 11, 3), (94, .iload_n 2, 1), (95, .ifCond .eq 7, 3), (98, .iconst 1, 1), (99, .goto 4, 3), (102, .iconst 0, 1), (103, .ireturn, 1), (104, .iload_n 1, 1), (105, .iload_n 2, 1), (106, .if_icmp .ge 7, 3), (109, .iconst 1, 1), (110, .goto 4, 3), (113, .iconst 0, 1), (114, .ireturn, 1), (115, .iload_n 1, 1), (116, .iload_n 2, 1), (117, .if_icmp .ne 7, 3), (120, .iconst 1, 1), (121, .goto 4, 3), (124, .iconst 0, 1), (125, .ireturn, 1), (126, .iload_n 1, 1), (127, .iload_n 2, 1), (128, .if_icmp .le 7, 3), (131, .iconst 1, 1), (132, .goto 4, 3), (135, .iconst 0, 1), (136, .ireturn, 1), (137, .iload_n 1, 1), (138, .iload_n 2, 1), (139, .iadd, 1), (140, .ireturn, 1), (141, .iload_n 1, 1), (142, .iload_n 2, 1), (143, .isub, 1), (144, .ireturn, 1), (145, .iload_n 1, 1), (146, .iload_n 2, 1), (147, .imul, 1), (148, .ireturn, 1), (149, .iload_n 2, 1), (150, .ifCond .ne 7, 3), (153, .iconst 0, 1), (154, .goto 6, 3), (157, .iload_n 1, 1), (158, .iload_n 2, 1), (159, .idiv, 1), (160, .ireturn, 1)]
theorem T_X2_joined_ok : gTb cX2_joined T_X2_joined = true := by decide +kernel
def F_X2_joined (Z : List gH) (l0 : Int32) (l1 : Int32) (l2 : Int32) (σ : gS) : Option (Int32 × gS) := if l0 = 38 then if l1 = 0 then some (0, σ) else if l2 = 0 then some (0, σ) else some (1, σ) else if l0 = 42 then some ((l1 * l2), σ) else if l0 = 43 then some ((l1 + l2), σ) else if l0 = 45 then some ((l1 - l2), σ) else if l0 = 60 then if l2 ≤ l1 then some (0, σ) else some (1, σ) else if l0 = 61 then if l1 = l2 then some (1, σ) else some (0, σ) else if l0 = 62 then if l1 ≤ l2 then some (0, σ) else some (1, σ) else if l0 = 124 then if l1 = 0 then if l2 = 0 then some (0, σ) else some (1, σ) else some (1, σ) else if l2 = 0 then some (0, σ) else mNz l2 (some ((l1 / l2), σ))
set_option maxRecDepth 20000 in
set_option maxHeartbeats 4000000 in
theorem M_X2_joined {Z : List gH} (hZ : Lay Z) (l0 : Int32) (l1 : Int32) (l2 : Int32) : gMet yX2_joined cX2_joined 3 (some .int) 1 Z (fun ad => [.int l0, .int l1, .int l2]) (F_X2_joined Z l0 l1 l2) := by
  refine gMet_intro T_X2_joined T_X2_joined_ok rfl (fun _ => Nat.le_of_ble_eq_true rfl) (fun g ad σ z C h => ?_)
  show g 0 [(0, .int l0), (1, .int l1), (2, .int l2)] [] σ
  rw [F_X2_joined] at h
  refine g_iload_n C 0 0 rfl rfl ?_
  by_cases hx0_0 : l0 = 38
  · rw [if_pos hx0_0] at h
    refine g_lookup C 1 90 rfl (by decide) (by rw [hx0_0]) rfl ?_
    refine g_iload_n C 10 1 rfl rfl ?_
    refine g_if_eq C 11 102 rfl rfl h (fun h => ?_) (fun h => ?_)
    · refine g_iconst (v := 0) C 16 rfl rfl ?_
      exact g_ireturn C 17 rfl h
    · refine g_iload_n C 12 2 rfl rfl ?_
      refine g_if_eq C 13 102 rfl rfl h (fun h => ?_) (fun h => ?_)
      · refine g_iconst (v := 0) C 16 rfl rfl ?_
        exact g_ireturn C 17 rfl h
      · refine g_iconst (v := 1) C 14 rfl rfl ?_
        refine g_goto C 15 103 rfl rfl ?_
        exact g_ireturn C 17 rfl h
  · rw [if_neg hx0_0] at h
    by_cases hx0_1 : l0 = 42
    · rw [if_pos hx0_1] at h
      refine g_lookup C 1 145 rfl (by decide) (by rw [hx0_1]) rfl ?_
      refine g_iload_n C 47 1 rfl rfl ?_
      refine g_iload_n C 48 2 rfl rfl ?_
      refine g_imul C 49 rfl ?_
      exact g_ireturn C 50 rfl h
    · rw [if_neg hx0_1] at h
      by_cases hx0_2 : l0 = 43
      · rw [if_pos hx0_2] at h
        refine g_lookup C 1 137 rfl (by decide) (by rw [hx0_2]) rfl ?_
        refine g_iload_n C 39 1 rfl rfl ?_
        refine g_iload_n C 40 2 rfl rfl ?_
        refine g_iadd C 41 rfl ?_
        exact g_ireturn C 42 rfl h
      · rw [if_neg hx0_2] at h
        by_cases hx0_3 : l0 = 45
        · rw [if_pos hx0_3] at h
          refine g_lookup C 1 141 rfl (by decide) (by rw [hx0_3]) rfl ?_
          refine g_iload_n C 43 1 rfl rfl ?_
          refine g_iload_n C 44 2 rfl rfl ?_
          refine g_isub C 45 rfl ?_
          exact g_ireturn C 46 rfl h
        · rw [if_neg hx0_3] at h
          by_cases hx0_4 : l0 = 60
          · rw [if_pos hx0_4] at h
            refine g_lookup C 1 104 rfl (by decide) (by rw [hx0_4]) rfl ?_
            refine g_iload_n C 18 1 rfl rfl ?_
            refine g_iload_n C 19 2 rfl rfl ?_
            refine g_icmp_ge C 20 113 rfl rfl h (fun h => ?_) (fun h => ?_)
            · refine g_iconst (v := 0) C 23 rfl rfl ?_
              exact g_ireturn C 24 rfl h
            · refine g_iconst (v := 1) C 21 rfl rfl ?_
              refine g_goto C 22 114 rfl rfl ?_
              exact g_ireturn C 24 rfl h
          · rw [if_neg hx0_4] at h
            by_cases hx0_5 : l0 = 61
            · rw [if_pos hx0_5] at h
              refine g_lookup C 1 115 rfl (by decide) (by rw [hx0_5]) rfl ?_
              refine g_iload_n C 25 1 rfl rfl ?_
              refine g_iload_n C 26 2 rfl rfl ?_
              refine g_icmp_ne C 27 124 rfl rfl h (fun h => ?_) (fun h => ?_)
              · refine g_iconst (v := 0) C 30 rfl rfl ?_
                exact g_ireturn C 31 rfl h
              · refine g_iconst (v := 1) C 28 rfl rfl ?_
                refine g_goto C 29 125 rfl rfl ?_
                exact g_ireturn C 31 rfl h
            · rw [if_neg hx0_5] at h
              by_cases hx0_6 : l0 = 62
              · rw [if_pos hx0_6] at h
                refine g_lookup C 1 126 rfl (by decide) (by rw [hx0_6]) rfl ?_
                refine g_iload_n C 32 1 rfl rfl ?_
                refine g_iload_n C 33 2 rfl rfl ?_
                refine g_icmp_le C 34 135 rfl rfl h (fun h => ?_) (fun h => ?_)
                · refine g_iconst (v := 0) C 37 rfl rfl ?_
                  exact g_ireturn C 38 rfl h
                · refine g_iconst (v := 1) C 35 rfl rfl ?_
                  refine g_goto C 36 136 rfl rfl ?_
                  exact g_ireturn C 38 rfl h
              · rw [if_neg hx0_6] at h
                by_cases hx0_7 : l0 = 124
                · rw [if_pos hx0_7] at h
                  refine g_lookup C 1 76 rfl (by decide) (by rw [hx0_7]) rfl ?_
                  refine g_iload_n C 2 1 rfl rfl ?_
                  refine g_if_ne C 3 84 rfl rfl h (fun h => ?_) (fun h => ?_)
                  · refine g_iconst (v := 1) C 6 rfl rfl ?_
                    refine g_goto C 7 89 rfl rfl ?_
                    exact g_ireturn C 9 rfl h
                  · refine g_iload_n C 4 2 rfl rfl ?_
                    refine g_if_eq C 5 88 rfl rfl h (fun h => ?_) (fun h => ?_)
                    · refine g_iconst (v := 0) C 8 rfl rfl ?_
                      exact g_ireturn C 9 rfl h
                    · refine g_iconst (v := 1) C 6 rfl rfl ?_
                      refine g_goto C 7 89 rfl rfl ?_
                      exact g_ireturn C 9 rfl h
                · rw [if_neg hx0_7] at h
                  refine g_lookup C 1 149 rfl (by decide) (by have e0 := i32ne hx0_0 38 rfl; have e1 := i32ne hx0_1 42 rfl; have e2 := i32ne hx0_2 43 rfl; have e3 := i32ne hx0_3 45 rfl; have e4 := i32ne hx0_4 60 rfl; have e5 := i32ne hx0_5 61 rfl; have e6 := i32ne hx0_6 62 rfl; have e7 := i32ne hx0_7 124 rfl; simp [Op.lookupswitch.offset, Ne.symm e0, Ne.symm e1, Ne.symm e2, Ne.symm e3, Ne.symm e4, Ne.symm e5, Ne.symm e6, Ne.symm e7, e0, e1, e2, e3, e4, e5, e6, e7]; rfl) rfl ?_
                  refine g_iload_n C 51 2 rfl rfl ?_
                  refine g_if_ne C 52 157 rfl rfl h (fun h => ?_) (fun h => ?_)
                  · refine g_iload_n C 55 1 rfl rfl ?_
                    refine g_iload_n C 56 2 rfl rfl ?_
                    refine g_idiv C 57 rfl h (fun h => ?_)
                    exact g_ireturn C 58 rfl h
                  · refine g_iconst (v := 0) C 53 rfl rfl ?_
                    refine g_goto C 54 160 rfl rfl ?_
                    exact g_ireturn C 58 rfl h
def T_X2_has : List (Nat × Instr × Nat) := [(0, .iload_n 1, 1), (1, .iconst 0, 1), (2, .bipush 13, 2), (4, .invokestatic 21, 3), (7, .ifCond .eq 16, 3), (10, .aload_n 0, 1), (11, .getfield 11, 3), (14, .iload_n 1, 1), (15, .aaload, 1), (16, .ifnull 7, 3), (19, .iconst 1, 1), (20, .goto 4, 3), (23, .iconst 0, 1), (24, .ireturn, 1)]
theorem T_X2_has_ok : gTb cX2_has T_X2_has = true := by decide +kernel
def F_X2_has (Z : List gH) (l1 : Int32) (σ : gS) : Option (Int32 × gS) := mCall (F_X9_within Z l1 0 13 σ) (fun r1 s2 => if r1 = 0 then mZ 0 s2 else mIn 14 l1 (if zr Z (nn l1) = none then mZ 0 s2 else mZ 1 s2))
set_option maxRecDepth 20000 in
set_option maxHeartbeats 4000000 in
theorem M_X2_has {Z : List gH} (hZ : Lay Z) (l1 : Int32) : gMet yX2_has cX2_has 2 (some .boolean) 2 Z (fun ad => [.ref (ad 1), .int l1]) (F_X2_has Z l1) := by
  refine gMet_intro T_X2_has T_X2_has_ok rfl (fun _ => Nat.le_of_ble_eq_true rfl) (fun g ad σ z C h => ?_)
  show g 0 [(0, .ref (ad 1)), (1, .int l1)] [] σ
  rw [F_X2_has] at h
  refine g_iload_n C 0 1 rfl rfl ?_
  refine g_iconst (v := 0) C 1 rfl rfl ?_
  refine g_bipush (v := 13) C 2 rfl rfl ?_
  refine g_callSi C 3 [.int l1, .int 0, .int 13] [] rfl (M_X9_within hZ l1 0 13) cnX2_21 cwX9_within csX9_within rfl rfl rfl (Nat.le_of_ble_eq_true rfl) ⟨Nat.le_of_ble_eq_true rfl, Nat.le_of_ble_eq_true rfl⟩ h (fun r1 s2 h => ?_)
  refine g_if_eq C 4 23 rfl rfl h (fun h => ?_) (fun h => ?_)
  · refine g_iconst (v := 0) C 12 rfl rfl ?_
    exact g_zreturn C 13 rfl h
  · refine g_aload_n C 5 0 rfl rfl ?_
    refine g_getr (b := 2) C 6 rfl flX2_11 (hZ.at (i := 1) rfl) rfl ?_
    refine g_iload_n C 7 1 rfl rfl ?_
    refine g_aald C 8 rfl (Or.inr (Or.inr rfl)) hZ.2.1 h (fun hin h => ?_)
    refine g_ifnull C 9 23 rfl rfl (fun ho => ?_) (fun b ho => ?_)
    · rw [if_pos ho] at h
      refine g_iconst (v := 0) C 12 rfl rfl ?_
      exact g_zreturn C 13 rfl h
    · rw [if_neg (by rw [ho]; simp)] at h
      refine g_iconst (v := 1) C 10 rfl rfl ?_
      refine g_goto C 11 24 rfl rfl ?_
      exact g_zreturn C 13 rfl h
def T_X2_work : List (Nat × Instr × Nat) := [(0, .aload_n 0, 1), (1, .iload_n 1, 1), (2, .invokevirtual 25, 3), (5, .ifCond .ne 5, 3), (8, .iconst 0, 1), (9, .ireturn, 1), (10, .aload_n 0, 1), (11, .getfield 11, 3), (14, .iload_n 1, 1), (15, .aaload, 1), (16, .getfield 37, 3), (19, .astore 5, 2), (21, .iconst 0, 1), (22, .istore 6, 2), (24, .iconst 0, 1), (25, .istore 7, 2), (27, .iload 7, 2), (29, .aload 5, 2), (31, .arraylength, 1), (32, .if_icmp .ge 182, 3), (35, .aload 5, 2), (37, .iload 7, 2), (39, .iaload, 1), (40, .istore 8, 2), (42, .iload 8, 2), (44, .sipush 10000, 3), (47, .if_icmp .lt 52, 3), (50, .iload 6, 2), (52, .bipush 96, 2), (54, .if_icmp .ge 45, 3), (57, .iload 8, 2), (59, .sipush 10000, 3), (62, .isub, 1), (63, .istore 9, 2), (65, .aload_n 0, 1), (66, .getfield 17, 3), (69, .iload 6, 2), (71, .iload 9, 2), (73, .ifCond .ne 7, 3), (76, .iload_n 2, 1), (77, .goto 15, 3), (80, .iload 9, 2), (82, .iconst 1, 1), (83, .if_icmp .ne 7, 3), (86, .iload_n 3, 1), (87, .goto 5, 3), (90, .iload 4, 2), (92, .iastore, 1), (93, .iinc 6 1, 3), (96, .goto 112, 3), (99, .iload 8, 2), (101, .ifCond .lt 25, 3), (104, .iload 6, 2), (106, .bipush 96, 2), (108, .if_icmp .ge 18, 3), (111, .aload_n 0, 1), (112, .getfield 17, 3), (115, .iload 6, 2), (117, .iload 8, 2), (119, .iastore, 1), (120, .iinc 6 1, 3), (123, .goto 85, 3), (126, .iload 8, 2), (128, .bipush (-33), 2), (130, .if_icmp .ne 38, 3), (133, .iload 6, 2), (135, .iconst 1, 1), (136, .if_icmp .lt 32, 3), (139, .aload_n 0, 1), (140, .getfield 17, 3), (143, .iload 6, 2), (145, .iconst 1, 1), (146, .isub, 1), (147, .aload_n 0, 1), (148, .getfield 17, 3), (151, .iload 6, 2), (153, .iconst 1, 1), (154, .isub, 1), (155, .iaload, 1), (156, .ifCond .ne 7, 3), (159, .iconst 1, 1), (160, .goto 4, 3), (163, .iconst 0, 1), (164, .iastore, 1), (165, .goto 43, 3), (168, .iload 6, 2), (170, .iconst 2, 1), (171, .if_icmp .lt 37, 3), (174, .iinc 6 (-1), 3), (177, .aload_n 0, 1), (178, .getfield 17, 3), (181, .iload 6, 2), (183, .iconst 1, 1), (184, .isub, 1), (185, .iload 8, 2), (187, .ineg, 1), (188, .aload_n 0, 1), (189, .getfield 17, 3), (192, .iload 6, 2), (194, .iconst 1, 1), (195, .isub, 1), (196, .iaload, 1), (197, .aload_n 0, 1), (198, .getfield 17, 3), (201, .iload 6, 2), (203, .iaload, 1), (204, .invokestatic 40, 3), (207, .iastore, 1), (208, .iinc 7 1, 3), (211, .goto (-184), 3), (214, .aload_n 0, 1), (215, .getfield 17, 3), (218, .iconst 0, 1), (219, .iaload, 1), (220, .ireturn, 1)]
theorem T_X2_work_ok : gTb cX2_work T_X2_work = true := by decide +kernel
def F_X2_work_J208 (Z : List gH) (k27 : Nat → Int32 → Int32 → gS → Option (Int32 × gS)) (l2 : Int32) (l3 : Int32) (l4 : Int32) (l5 : Nat) (l6 : Int32) (l7 : Int32) (σ : gS) : Option (Int32 × gS) := k27 l5 l6 (l7 + 1) σ
def F_X2_work_J168 (Z : List gH) (k27 : Nat → Int32 → Int32 → gS → Option (Int32 × gS)) (l2 : Int32) (l3 : Int32) (l4 : Int32) (l5 : Nat) (l6 : Int32) (l7 : Int32) (l8 : Int32) (σ : gS) : Option (Int32 × gS) := if l6 < 2 then F_X2_work_J208 Z k27 l2 l3 l4 l5 l6 l7 σ else mIn 96 ((l6 + (-1)) - 1) (mIn 96 (l6 + (-1)) (mCall (F_X2_joined Z (-l8) (σ 3 (nn ((l6 + (-1)) - 1))) (σ 3 (nn (l6 + (-1)))) σ) (fun r1 s2 => mIn 96 ((l6 + (-1)) - 1) (mLet (gu s2 3 (nn ((l6 + (-1)) - 1)) r1) (fun s3 => F_X2_work_J208 Z k27 l2 l3 l4 l5 (l6 + (-1)) l7 s3)))))
def F_X2_work_J126 (Z : List gH) (k27 : Nat → Int32 → Int32 → gS → Option (Int32 × gS)) (l2 : Int32) (l3 : Int32) (l4 : Int32) (l5 : Nat) (l6 : Int32) (l7 : Int32) (l8 : Int32) (σ : gS) : Option (Int32 × gS) := if l8 = (-33) then if l6 < 1 then F_X2_work_J168 Z k27 l2 l3 l4 l5 l6 l7 l8 σ else mIn 96 (l6 - 1) (if (σ 3 (nn (l6 - 1))) = 0 then mIn 96 (l6 - 1) (mLet (gu σ 3 (nn (l6 - 1)) 1) (fun s2 => F_X2_work_J208 Z k27 l2 l3 l4 l5 l6 l7 s2)) else mIn 96 (l6 - 1) (mLet (gu σ 3 (nn (l6 - 1)) 0) (fun s1 => F_X2_work_J208 Z k27 l2 l3 l4 l5 l6 l7 s1))) else F_X2_work_J168 Z k27 l2 l3 l4 l5 l6 l7 l8 σ
def F_X2_work_J99 (Z : List gH) (k27 : Nat → Int32 → Int32 → gS → Option (Int32 × gS)) (l2 : Int32) (l3 : Int32) (l4 : Int32) (l5 : Nat) (l6 : Int32) (l7 : Int32) (l8 : Int32) (σ : gS) : Option (Int32 × gS) := if l8 < 0 then F_X2_work_J126 Z k27 l2 l3 l4 l5 l6 l7 l8 σ else if 96 ≤ l6 then F_X2_work_J126 Z k27 l2 l3 l4 l5 l6 l7 l8 σ else mIn 96 l6 (mLet (gu σ 3 (nn l6) l8) (fun s1 => F_X2_work_J208 Z k27 l2 l3 l4 l5 (l6 + 1) l7 s1))
def F_X2_work_L27 (Z : List gH) (l2 : Int32) (l3 : Int32) (l4 : Int32) : Nat → Nat → Int32 → Int32 → gS → Option (Int32 × gS)
  | 0, _, _, _, _ => none
  | n + 1, l5, l6, l7, σ => if (Int32.ofNat (zl Z l5)) ≤ l7 then some ((σ 3 0), σ) else mIn (zl Z l5) l7 (mLet ((σ l5 (nn l7))) (fun v1 => if v1 < 10000 then F_X2_work_J99 Z (F_X2_work_L27 Z l2 l3 l4 n) l2 l3 l4 l5 l6 l7 v1 σ else if 96 ≤ l6 then F_X2_work_J99 Z (F_X2_work_L27 Z l2 l3 l4 n) l2 l3 l4 l5 l6 l7 v1 σ else mLet ((v1 - 10000)) (fun v2 => if v2 = 0 then mIn 96 l6 (mLet (gu σ 3 (nn l6) l2) (fun s5 => F_X2_work_J208 Z (F_X2_work_L27 Z l2 l3 l4 n) l2 l3 l4 l5 (l6 + 1) l7 s5)) else if v2 = 1 then mIn 96 l6 (mLet (gu σ 3 (nn l6) l3) (fun s4 => F_X2_work_J208 Z (F_X2_work_L27 Z l2 l3 l4 n) l2 l3 l4 l5 (l6 + 1) l7 s4)) else mIn 96 l6 (mLet (gu σ 3 (nn l6) l4) (fun s3 => F_X2_work_J208 Z (F_X2_work_L27 Z l2 l3 l4 n) l2 l3 l4 l5 (l6 + 1) l7 s3)))))
def F_X2_work (Z : List gH) (l1 : Int32) (l2 : Int32) (l3 : Int32) (l4 : Int32) (σ : gS) : Option (Int32 × gS) := mCall (F_X2_has Z l1 σ) (fun r1 s2 => if r1 = 0 then some (0, s2) else mIn 14 l1 (mSome (zr Z (nn l1)) (fun c3 => F_X2_work_L27 Z l2 l3 l4 mFuel (c3 + 1) 0 0 s2)))
set_option maxRecDepth 20000 in
set_option maxHeartbeats 4000000 in
theorem C_F_X2_work_J208 {g : Nat → List (Nat × Value) → List Value → gS → Prop} {Z : List gH} {ad : Nat → Nat} {z : Int32 × gS}  (C : gOk g T_X2_work RX2 10 (some .int) 3 Z ad z) (hZ : Lay Z) {k27 : Nat → Int32 → Int32 → gS → Option (Int32 × gS)} (l2 : Int32) (l3 : Int32) (l4 : Int32) (hk27 : ∀ (l5 : Nat) (hl5 : IA Z l5) (l6 : Int32) (l7 : Int32) (σ : gS), k27 l5 l6 l7 σ = some z → g 27 [(0, .ref (ad 1)), (2, .int l2), (3, .int l3), (4, .int l4), (5, .ref (ad l5)), (6, .int l6), (7, .int l7)] [] σ) (l5 : Nat) (hl5 : IA Z l5) (l6 : Int32) (l7 : Int32) (σ : gS) (h : F_X2_work_J208 Z k27 l2 l3 l4 l5 l6 l7 σ = some z) : g 208 [(0, .ref (ad 1)), (2, .int l2), (3, .int l3), (4, .int l4), (5, .ref (ad l5)), (6, .int l6), (7, .int l7)] [] σ := by
  rw [F_X2_work_J208] at h
  refine g_iinc C 108 6 (l7 + 1) [(7, .int (l7 + 1)), (0, .ref (ad 1)), (2, .int l2), (3, .int l3), (4, .int l4), (5, .ref (ad l5)), (6, .int l6)] rfl rfl (by decide) rfl rfl ?_
  refine g_goto C 109 27 rfl rfl ?_
  refine g_sub C [1, 2, 3, 4, 5, 6, 0] [(0, .ref (ad 1)), (2, .int l2), (3, .int l3), (4, .int l4), (5, .ref (ad l5)), (6, .int l6), (7, .int (l7 + 1))] rfl ?_
  exact hk27 _ hl5 _ _ _ h
set_option maxRecDepth 20000 in
set_option maxHeartbeats 4000000 in
theorem C_F_X2_work_J168 {g : Nat → List (Nat × Value) → List Value → gS → Prop} {Z : List gH} {ad : Nat → Nat} {z : Int32 × gS}  (C : gOk g T_X2_work RX2 10 (some .int) 3 Z ad z) (hZ : Lay Z) {k27 : Nat → Int32 → Int32 → gS → Option (Int32 × gS)} (l2 : Int32) (l3 : Int32) (l4 : Int32) (hk27 : ∀ (l5 : Nat) (hl5 : IA Z l5) (l6 : Int32) (l7 : Int32) (σ : gS), k27 l5 l6 l7 σ = some z → g 27 [(0, .ref (ad 1)), (2, .int l2), (3, .int l3), (4, .int l4), (5, .ref (ad l5)), (6, .int l6), (7, .int l7)] [] σ) (l5 : Nat) (hl5 : IA Z l5) (l6 : Int32) (l7 : Int32) (l8 : Int32) (σ : gS) (h : F_X2_work_J168 Z k27 l2 l3 l4 l5 l6 l7 l8 σ = some z) : g 168 [(0, .ref (ad 1)), (2, .int l2), (3, .int l3), (4, .int l4), (5, .ref (ad l5)), (6, .int l6), (7, .int l7), (8, .int l8)] [] σ := by
  rw [F_X2_work_J168] at h
  refine g_iload C 85 5 rfl rfl ?_
  refine g_iconst (v := 2) C 86 rfl rfl ?_
  refine g_icmp_lt C 87 208 rfl rfl h (fun h => ?_) (fun h => ?_)
  · refine g_sub C [0, 1, 2, 3, 4, 5, 6] [(0, .ref (ad 1)), (2, .int l2), (3, .int l3), (4, .int l4), (5, .ref (ad l5)), (6, .int l6), (7, .int l7)] rfl ?_
    exact C_F_X2_work_J208 C hZ _ _ _ hk27 _ hl5 _ _ _ h
  · refine g_iinc C 88 5 (l6 + (-1)) [(6, .int (l6 + (-1))), (0, .ref (ad 1)), (2, .int l2), (3, .int l3), (4, .int l4), (5, .ref (ad l5)), (7, .int l7), (8, .int l8)] rfl rfl (by decide) rfl rfl ?_
    refine g_aload_n C 89 1 rfl rfl ?_
    refine g_getr (b := 3) C 90 rfl flX2_17 (hZ.at (i := 1) rfl) rfl ?_
    refine g_iload C 91 0 rfl rfl ?_
    refine g_iconst (v := 1) C 92 rfl rfl ?_
    refine g_isub C 93 rfl ?_
    refine g_iload C 94 7 rfl rfl ?_
    refine g_ineg C 95 rfl ?_
    refine g_aload_n C 96 1 rfl rfl ?_
    refine g_getr (b := 3) C 97 rfl flX2_17 (hZ.at (i := 1) rfl) rfl ?_
    refine g_iload C 98 0 rfl rfl ?_
    refine g_iconst (v := 1) C 99 rfl rfl ?_
    refine g_isub C 100 rfl ?_
    refine g_iald C 101 rfl (hZ.at (i := 3) rfl) h (fun h => ?_)
    refine g_aload_n C 102 1 rfl rfl ?_
    refine g_getr (b := 3) C 103 rfl flX2_17 (hZ.at (i := 1) rfl) rfl ?_
    refine g_iload C 104 0 rfl rfl ?_
    refine g_iald C 105 rfl (hZ.at (i := 3) rfl) h (fun h => ?_)
    refine g_callSi C 106 [.int (-l8), .int (σ 3 (nn ((l6 + (-1)) - 1))), .int (σ 3 (nn (l6 + (-1))))] [.int ((l6 + (-1)) - 1), .ref (ad 3)] rfl (M_X2_joined hZ (-l8) (σ 3 (nn ((l6 + (-1)) - 1))) (σ 3 (nn (l6 + (-1))))) cnX2_40 cwX2_joined csX2_joined rfl rfl rfl (Nat.le_of_ble_eq_true rfl) ⟨Nat.le_of_ble_eq_true rfl, Nat.le_of_ble_eq_true rfl⟩ h (fun r1 s2 h => ?_)
    refine g_iast C 107 rfl (hZ.at (i := 3) rfl) h (fun s3 h => ?_)
    refine g_sub C [1, 2, 3, 4, 5, 0, 6] [(0, .ref (ad 1)), (2, .int l2), (3, .int l3), (4, .int l4), (5, .ref (ad l5)), (6, .int (l6 + (-1))), (7, .int l7)] rfl ?_
    exact C_F_X2_work_J208 C hZ _ _ _ hk27 _ hl5 _ _ _ h
set_option maxRecDepth 20000 in
set_option maxHeartbeats 4000000 in
theorem C_F_X2_work_J126 {g : Nat → List (Nat × Value) → List Value → gS → Prop} {Z : List gH} {ad : Nat → Nat} {z : Int32 × gS}  (C : gOk g T_X2_work RX2 10 (some .int) 3 Z ad z) (hZ : Lay Z) {k27 : Nat → Int32 → Int32 → gS → Option (Int32 × gS)} (l2 : Int32) (l3 : Int32) (l4 : Int32) (hk27 : ∀ (l5 : Nat) (hl5 : IA Z l5) (l6 : Int32) (l7 : Int32) (σ : gS), k27 l5 l6 l7 σ = some z → g 27 [(0, .ref (ad 1)), (2, .int l2), (3, .int l3), (4, .int l4), (5, .ref (ad l5)), (6, .int l6), (7, .int l7)] [] σ) (l5 : Nat) (hl5 : IA Z l5) (l6 : Int32) (l7 : Int32) (l8 : Int32) (σ : gS) (h : F_X2_work_J126 Z k27 l2 l3 l4 l5 l6 l7 l8 σ = some z) : g 126 [(0, .ref (ad 1)), (2, .int l2), (3, .int l3), (4, .int l4), (5, .ref (ad l5)), (6, .int l6), (7, .int l7), (8, .int l8)] [] σ := by
  rw [F_X2_work_J126] at h
  refine g_iload C 62 7 rfl rfl ?_
  refine g_bipush (v := (-33)) C 63 rfl rfl ?_
  refine g_icmp_ne C 64 168 rfl rfl h (fun h => ?_) (fun h => ?_)
  · exact C_F_X2_work_J168 C hZ _ _ _ hk27 _ hl5 _ _ _ _ h
  · refine g_iload C 65 5 rfl rfl ?_
    refine g_iconst (v := 1) C 66 rfl rfl ?_
    refine g_icmp_lt C 67 168 rfl rfl h (fun h => ?_) (fun h => ?_)
    · exact C_F_X2_work_J168 C hZ _ _ _ hk27 _ hl5 _ _ _ _ h
    · refine g_aload_n C 68 0 rfl rfl ?_
      refine g_getr (b := 3) C 69 rfl flX2_17 (hZ.at (i := 1) rfl) rfl ?_
      refine g_iload C 70 5 rfl rfl ?_
      refine g_iconst (v := 1) C 71 rfl rfl ?_
      refine g_isub C 72 rfl ?_
      refine g_aload_n C 73 0 rfl rfl ?_
      refine g_getr (b := 3) C 74 rfl flX2_17 (hZ.at (i := 1) rfl) rfl ?_
      refine g_iload C 75 5 rfl rfl ?_
      refine g_iconst (v := 1) C 76 rfl rfl ?_
      refine g_isub C 77 rfl ?_
      refine g_iald C 78 rfl (hZ.at (i := 3) rfl) h (fun h => ?_)
      refine g_if_ne C 79 163 rfl rfl h (fun h => ?_) (fun h => ?_)
      · refine g_iconst (v := 0) C 82 rfl rfl ?_
        refine g_iast C 83 rfl (hZ.at (i := 3) rfl) h (fun s1 h => ?_)
        refine g_goto C 84 208 rfl rfl ?_
        refine g_sub C [0, 1, 2, 3, 4, 5, 6] [(0, .ref (ad 1)), (2, .int l2), (3, .int l3), (4, .int l4), (5, .ref (ad l5)), (6, .int l6), (7, .int l7)] rfl ?_
        exact C_F_X2_work_J208 C hZ _ _ _ hk27 _ hl5 _ _ _ h
      · refine g_iconst (v := 1) C 80 rfl rfl ?_
        refine g_goto C 81 164 rfl rfl ?_
        refine g_iast C 83 rfl (hZ.at (i := 3) rfl) h (fun s2 h => ?_)
        refine g_goto C 84 208 rfl rfl ?_
        refine g_sub C [0, 1, 2, 3, 4, 5, 6] [(0, .ref (ad 1)), (2, .int l2), (3, .int l3), (4, .int l4), (5, .ref (ad l5)), (6, .int l6), (7, .int l7)] rfl ?_
        exact C_F_X2_work_J208 C hZ _ _ _ hk27 _ hl5 _ _ _ h
set_option maxRecDepth 20000 in
set_option maxHeartbeats 4000000 in
theorem C_F_X2_work_J99 {g : Nat → List (Nat × Value) → List Value → gS → Prop} {Z : List gH} {ad : Nat → Nat} {z : Int32 × gS}  (C : gOk g T_X2_work RX2 10 (some .int) 3 Z ad z) (hZ : Lay Z) {k27 : Nat → Int32 → Int32 → gS → Option (Int32 × gS)} (l2 : Int32) (l3 : Int32) (l4 : Int32) (hk27 : ∀ (l5 : Nat) (hl5 : IA Z l5) (l6 : Int32) (l7 : Int32) (σ : gS), k27 l5 l6 l7 σ = some z → g 27 [(0, .ref (ad 1)), (2, .int l2), (3, .int l3), (4, .int l4), (5, .ref (ad l5)), (6, .int l6), (7, .int l7)] [] σ) (l5 : Nat) (hl5 : IA Z l5) (l6 : Int32) (l7 : Int32) (l8 : Int32) (σ : gS) (h : F_X2_work_J99 Z k27 l2 l3 l4 l5 l6 l7 l8 σ = some z) : g 99 [(0, .ref (ad 1)), (2, .int l2), (3, .int l3), (4, .int l4), (5, .ref (ad l5)), (6, .int l6), (7, .int l7), (8, .int l8)] [] σ := by
  rw [F_X2_work_J99] at h
  refine g_iload C 50 7 rfl rfl ?_
  refine g_if_lt C 51 126 rfl rfl h (fun h => ?_) (fun h => ?_)
  · exact C_F_X2_work_J126 C hZ _ _ _ hk27 _ hl5 _ _ _ _ h
  · refine g_iload C 52 5 rfl rfl ?_
    refine g_bipush (v := 96) C 53 rfl rfl ?_
    refine g_icmp_ge C 54 126 rfl rfl h (fun h => ?_) (fun h => ?_)
    · exact C_F_X2_work_J126 C hZ _ _ _ hk27 _ hl5 _ _ _ _ h
    · refine g_aload_n C 55 0 rfl rfl ?_
      refine g_getr (b := 3) C 56 rfl flX2_17 (hZ.at (i := 1) rfl) rfl ?_
      refine g_iload C 57 5 rfl rfl ?_
      refine g_iload C 58 7 rfl rfl ?_
      refine g_iast C 59 rfl (hZ.at (i := 3) rfl) h (fun s1 h => ?_)
      refine g_iinc C 60 5 (l6 + 1) [(6, .int (l6 + 1)), (0, .ref (ad 1)), (2, .int l2), (3, .int l3), (4, .int l4), (5, .ref (ad l5)), (7, .int l7), (8, .int l8)] rfl rfl (by decide) rfl rfl ?_
      refine g_goto C 61 208 rfl rfl ?_
      refine g_sub C [1, 2, 3, 4, 5, 0, 6] [(0, .ref (ad 1)), (2, .int l2), (3, .int l3), (4, .int l4), (5, .ref (ad l5)), (6, .int (l6 + 1)), (7, .int l7)] rfl ?_
      exact C_F_X2_work_J208 C hZ _ _ _ hk27 _ hl5 _ _ _ h
set_option maxRecDepth 20000 in
set_option maxHeartbeats 4000000 in
theorem C_F_X2_work_L27 {g : Nat → List (Nat × Value) → List Value → gS → Prop} {Z : List gH} {ad : Nat → Nat} {z : Int32 × gS}  (C : gOk g T_X2_work RX2 10 (some .int) 3 Z ad z) (hZ : Lay Z) (l2 : Int32) (l3 : Int32) (l4 : Int32) : ∀ (n : Nat) (l5 : Nat) (hl5 : IA Z l5) (l6 : Int32) (l7 : Int32) (σ : gS), F_X2_work_L27 Z l2 l3 l4 n l5 l6 l7 σ = some z → g 27 [(0, .ref (ad 1)), (2, .int l2), (3, .int l3), (4, .int l4), (5, .ref (ad l5)), (6, .int l6), (7, .int l7)] [] σ := by
  intro n
  induction n with
  | zero => intro l5 hl5 l6 l7 σ h; cases h
  | succ n ih =>
    intro l5 hl5 l6 l7 σ h
    rw [F_X2_work_L27] at h
    refine g_iload C 16 6 rfl rfl ?_
    refine g_aload C 17 4 rfl rfl ?_
    refine g_alen C 18 rfl hl5 ?_
    refine g_icmp_ge C 19 214 rfl rfl h (fun h => ?_) (fun h => ?_)
    · refine g_aload_n C 110 0 rfl rfl ?_
      refine g_getr (b := 3) C 111 rfl flX2_17 (hZ.at (i := 1) rfl) rfl ?_
      refine g_iconst (v := 0) C 112 rfl rfl ?_
      refine g_ialdK C 113 0 rfl (hZ.at (i := 3) rfl) rfl (vp_k rfl) ?_
      exact g_ireturn C 114 rfl h
    · refine g_aload C 20 4 rfl rfl ?_
      refine g_iload C 21 6 rfl rfl ?_
      refine g_iald C 22 rfl hl5 h (fun h => ?_)
      refine g_let h (fun v1 h => ?_)
      refine g_istore C 23 [(8, .int v1), (0, .ref (ad 1)), (2, .int l2), (3, .int l3), (4, .int l4), (5, .ref (ad l5)), (6, .int l6), (7, .int l7)] rfl (by decide) rfl ?_
      refine g_iload C 24 0 rfl rfl ?_
      refine g_sipush (v := 10000) C 25 rfl rfl ?_
      refine g_icmp_lt C 26 99 rfl rfl h (fun h => ?_) (fun h => ?_)
      · refine g_sub C [1, 2, 3, 4, 5, 6, 7, 0] [(0, .ref (ad 1)), (2, .int l2), (3, .int l3), (4, .int l4), (5, .ref (ad l5)), (6, .int l6), (7, .int l7), (8, .int v1)] rfl ?_
        exact C_F_X2_work_J99 C hZ _ _ _ ih _ hl5 _ _ _ _ h
      · refine g_iload C 27 6 rfl rfl ?_
        refine g_bipush (v := 96) C 28 rfl rfl ?_
        refine g_icmp_ge C 29 99 rfl rfl h (fun h => ?_) (fun h => ?_)
        · refine g_sub C [1, 2, 3, 4, 5, 6, 7, 0] [(0, .ref (ad 1)), (2, .int l2), (3, .int l3), (4, .int l4), (5, .ref (ad l5)), (6, .int l6), (7, .int l7), (8, .int v1)] rfl ?_
          exact C_F_X2_work_J99 C hZ _ _ _ ih _ hl5 _ _ _ _ h
        · refine g_iload C 30 0 rfl rfl ?_
          refine g_sipush (v := 10000) C 31 rfl rfl ?_
          refine g_isub C 32 rfl ?_
          refine g_let h (fun v2 h => ?_)
          refine g_istore C 33 [(9, .int v2), (8, .int v1), (0, .ref (ad 1)), (2, .int l2), (3, .int l3), (4, .int l4), (5, .ref (ad l5)), (6, .int l6), (7, .int l7)] rfl (by decide) rfl ?_
          refine g_aload_n C 34 2 rfl rfl ?_
          refine g_getr (b := 3) C 35 rfl flX2_17 (hZ.at (i := 1) rfl) rfl ?_
          refine g_iload C 36 7 rfl rfl ?_
          refine g_iload C 37 0 rfl rfl ?_
          refine g_if_ne C 38 80 rfl rfl h (fun h => ?_) (fun h => ?_)
          · refine g_iload C 41 0 rfl rfl ?_
            refine g_iconst (v := 1) C 42 rfl rfl ?_
            refine g_icmp_ne C 43 90 rfl rfl h (fun h => ?_) (fun h => ?_)
            · refine g_iload C 46 5 rfl rfl ?_
              refine g_iast C 47 rfl (hZ.at (i := 3) rfl) h (fun s3 h => ?_)
              refine g_iinc C 48 7 (l6 + 1) [(6, .int (l6 + 1)), (9, .int v2), (8, .int v1), (0, .ref (ad 1)), (2, .int l2), (3, .int l3), (4, .int l4), (5, .ref (ad l5)), (7, .int l7)] rfl rfl (by decide) rfl rfl ?_
              refine g_goto C 49 208 rfl rfl ?_
              refine g_sub C [3, 4, 5, 6, 7, 0, 8] [(0, .ref (ad 1)), (2, .int l2), (3, .int l3), (4, .int l4), (5, .ref (ad l5)), (6, .int (l6 + 1)), (7, .int l7)] rfl ?_
              exact C_F_X2_work_J208 C hZ _ _ _ ih _ hl5 _ _ _ h
            · refine g_iload_n C 44 4 rfl rfl ?_
              refine g_goto C 45 92 rfl rfl ?_
              refine g_iast C 47 rfl (hZ.at (i := 3) rfl) h (fun s4 h => ?_)
              refine g_iinc C 48 7 (l6 + 1) [(6, .int (l6 + 1)), (9, .int v2), (8, .int v1), (0, .ref (ad 1)), (2, .int l2), (3, .int l3), (4, .int l4), (5, .ref (ad l5)), (7, .int l7)] rfl rfl (by decide) rfl rfl ?_
              refine g_goto C 49 208 rfl rfl ?_
              refine g_sub C [3, 4, 5, 6, 7, 0, 8] [(0, .ref (ad 1)), (2, .int l2), (3, .int l3), (4, .int l4), (5, .ref (ad l5)), (6, .int (l6 + 1)), (7, .int l7)] rfl ?_
              exact C_F_X2_work_J208 C hZ _ _ _ ih _ hl5 _ _ _ h
          · refine g_iload_n C 39 3 rfl rfl ?_
            refine g_goto C 40 92 rfl rfl ?_
            refine g_iast C 47 rfl (hZ.at (i := 3) rfl) h (fun s5 h => ?_)
            refine g_iinc C 48 7 (l6 + 1) [(6, .int (l6 + 1)), (9, .int v2), (8, .int v1), (0, .ref (ad 1)), (2, .int l2), (3, .int l3), (4, .int l4), (5, .ref (ad l5)), (7, .int l7)] rfl rfl (by decide) rfl rfl ?_
            refine g_goto C 49 208 rfl rfl ?_
            refine g_sub C [3, 4, 5, 6, 7, 0, 8] [(0, .ref (ad 1)), (2, .int l2), (3, .int l3), (4, .int l4), (5, .ref (ad l5)), (6, .int (l6 + 1)), (7, .int l7)] rfl ?_
            exact C_F_X2_work_J208 C hZ _ _ _ ih _ hl5 _ _ _ h
set_option maxRecDepth 20000 in
set_option maxHeartbeats 4000000 in
theorem M_X2_work {Z : List gH} (hZ : Lay Z) (l1 : Int32) (l2 : Int32) (l3 : Int32) (l4 : Int32) : gMet yX2_work cX2_work 10 (some .int) 3 Z (fun ad => [.ref (ad 1), .int l1, .int l2, .int l3, .int l4]) (F_X2_work Z l1 l2 l3 l4) := by
  refine gMet_intro T_X2_work T_X2_work_ok rfl (fun _ => Nat.le_of_ble_eq_true rfl) (fun g ad σ z C h => ?_)
  show g 0 [(0, .ref (ad 1)), (1, .int l1), (2, .int l2), (3, .int l3), (4, .int l4)] [] σ
  rw [F_X2_work] at h
  refine g_aload_n C 0 0 rfl rfl ?_
  refine g_iload_n C 1 1 rfl rfl ?_
  refine g_callVi C 2 [.int l1] [] rfl (M_X2_has hZ l1) cnX2_25 cwX2_has ciX2_has (hZ.at (i := 1) rfl) rfl rfl rfl rfl (Nat.le_of_ble_eq_true rfl) ⟨Nat.le_of_ble_eq_true rfl, Nat.le_of_ble_eq_true rfl⟩ h (fun r1 s2 h => ?_)
  refine g_if_ne C 3 10 rfl rfl h (fun h => ?_) (fun h => ?_)
  · refine g_aload_n C 6 0 rfl rfl ?_
    refine g_getr (b := 2) C 7 rfl flX2_11 (hZ.at (i := 1) rfl) rfl ?_
    refine g_iload_n C 8 1 rfl rfl ?_
    refine g_aald C 9 rfl (Or.inr (Or.inr rfl)) hZ.2.1 h (fun hin h => ?_)
    refine g_getq h (fun c3 hqc3 h => ?_)
    have hc3 : TxB Z c3 := hZ.2.2 _ _ hqc3
    refine g_getr (b := (c3 + 1)) C 10 rfl flX2_37 (tx_obj hc3) rfl ?_
    refine g_astore C 11 [(5, .ref (ad (c3 + 1))), (0, .ref (ad 1)), (1, .int l1), (2, .int l2), (3, .int l3), (4, .int l4)] rfl (by decide) rfl ?_
    refine g_iconst (v := 0) C 12 rfl rfl ?_
    refine g_istore C 13 [(6, .int 0), (5, .ref (ad (c3 + 1))), (0, .ref (ad 1)), (1, .int l1), (2, .int l2), (3, .int l3), (4, .int l4)] rfl (by decide) rfl ?_
    refine g_iconst (v := 0) C 14 rfl rfl ?_
    refine g_istore C 15 [(7, .int 0), (6, .int 0), (5, .ref (ad (c3 + 1))), (0, .ref (ad 1)), (1, .int l1), (2, .int l2), (3, .int l3), (4, .int l4)] rfl (by decide) rfl ?_
    refine g_sub C [3, 5, 6, 7, 2, 1, 0] [(0, .ref (ad 1)), (2, .int l2), (3, .int l3), (4, .int l4), (5, .ref (ad (c3 + 1))), (6, .int 0), (7, .int 0)] rfl ?_
    exact C_F_X2_work_L27 C hZ _ _ _ _ _ (tx_steps hc3) _ _ _ h
  · refine g_iconst (v := 0) C 4 rfl rfl ?_
    exact g_ireturn C 5 rfl h
def T_X1_isOf : List (Nat × Instr × Nat) := [(0, .iload_n 0, 1), (1, .iload_n 1, 1), (2, .if_icmp .eq 16, 3), (5, .iload_n 1, 1), (6, .ifCond .eq 12, 3), (9, .getstatic 9, 3), (12, .iload_n 0, 1), (13, .iaload, 1), (14, .iload_n 1, 1), (15, .if_icmp .ne 7, 3), (18, .iconst 1, 1), (19, .goto 4, 3), (22, .iconst 0, 1), (23, .ireturn, 1)]
theorem T_X1_isOf_ok : gTb cX1_isOf T_X1_isOf = true := by decide +kernel
def F_X1_isOf (Z : List gH) (l0 : Int32) (l1 : Int32) (σ : gS) : Option (Int32 × gS) := if l0 = l1 then mZ 1 σ else if l1 = 0 then mZ 1 σ else mIn 6 l0 (if (kab (nn l0)) = l1 then mZ 1 σ else mZ 0 σ)
set_option maxRecDepth 20000 in
set_option maxHeartbeats 4000000 in
theorem M_X1_isOf {Z : List gH} (hZ : Lay Z) (l0 : Int32) (l1 : Int32) : gMet yX1_isOf cX1_isOf 2 (some .boolean) 1 Z (fun ad => [.int l0, .int l1]) (F_X1_isOf Z l0 l1) := by
  refine gMet_intro T_X1_isOf T_X1_isOf_ok rfl (fun _ => Nat.le_of_ble_eq_true rfl) (fun g ad σ z C h => ?_)
  show g 0 [(0, .int l0), (1, .int l1)] [] σ
  rw [F_X1_isOf] at h
  refine g_iload_n C 0 0 rfl rfl ?_
  refine g_iload_n C 1 1 rfl rfl ?_
  refine g_icmp_eq C 2 18 rfl rfl h (fun h => ?_) (fun h => ?_)
  · refine g_iconst (v := 1) C 10 rfl rfl ?_
    refine g_goto C 11 23 rfl rfl ?_
    exact g_zreturn C 13 rfl h
  · refine g_iload_n C 3 1 rfl rfl ?_
    refine g_if_eq C 4 18 rfl rfl h (fun h => ?_) (fun h => ?_)
    · refine g_iconst (v := 1) C 10 rfl rfl ?_
      refine g_goto C 11 23 rfl rfl ?_
      exact g_zreturn C 13 rfl h
    · refine g_kab C 5 rfl kx_kab ?_
      refine g_iload_n C 6 0 rfl rfl ?_
      refine g_kald C 7 rfl h (fun h => ?_)
      refine g_iload_n C 8 1 rfl rfl ?_
      refine g_icmp_ne C 9 22 rfl rfl h (fun h => ?_) (fun h => ?_)
      · refine g_iconst (v := 0) C 12 rfl rfl ?_
        exact g_zreturn C 13 rfl h
      · refine g_iconst (v := 1) C 10 rfl rfl ?_
        refine g_goto C 11 23 rfl rfl ?_
        exact g_zreturn C 13 rfl h
def T_JI_bitCount : List (Nat × Instr × Nat) := [(0, .iload_n 0, 1), (1, .iload_n 0, 1), (2, .iconst 1, 1), (3, .iushr, 1), (4, .ldc_w 265, 3), (7, .iand, 1), (8, .isub, 1), (9, .istore_n 0, 1), (10, .iload_n 0, 1), (11, .ldc_w 266, 3), (14, .iand, 1), (15, .iload_n 0, 1), (16, .iconst 2, 1), (17, .iushr, 1), (18, .ldc_w 266, 3), (21, .iand, 1), (22, .iadd, 1), (23, .istore_n 0, 1), (24, .iload_n 0, 1), (25, .iload_n 0, 1), (26, .iconst 4, 1), (27, .iushr, 1), (28, .iadd, 1), (29, .ldc_w 267, 3), (32, .iand, 1), (33, .istore_n 0, 1), (34, .iload_n 0, 1), (35, .iload_n 0, 1), (36, .bipush 8, 2), (38, .iushr, 1), (39, .iadd, 1), (40, .istore_n 0, 1), (41, .iload_n 0, 1), (42, .iload_n 0, 1), (43, .bipush 16, 2), (45, .iushr, 1), (46, .iadd, 1), (47, .istore_n 0, 1), (48, .iload_n 0, 1), (49, .bipush 63, 2), (51, .iand, 1), (52, .ireturn, 1)]
theorem T_JI_bitCount_ok : gTb cJI_bitCount T_JI_bitCount = true := by decide +kernel
def F_JI_bitCount (Z : List gH) (l0 : Int32) (σ : gS) : Option (Int32 × gS) := mLet ((l0 - ((mUsr l0 1) &&& 1431655765))) (fun v1 => mLet (((v1 &&& 858993459) + ((mUsr v1 2) &&& 858993459))) (fun v2 => mLet (((v2 + (mUsr v2 4)) &&& 252645135)) (fun v3 => mLet ((v3 + (mUsr v3 8))) (fun v4 => mLet ((v4 + (mUsr v4 16))) (fun v5 => some ((v5 &&& 63), σ))))))
set_option maxRecDepth 20000 in
set_option maxHeartbeats 4000000 in
theorem M_JI_bitCount {Z : List gH} (hZ : Lay Z) (l0 : Int32) : gMet yJI_bitCount cJI_bitCount 1 (some .int) 1 Z (fun ad => [.int l0]) (F_JI_bitCount Z l0) := by
  refine gMet_intro T_JI_bitCount T_JI_bitCount_ok rfl (fun _ => Nat.le_of_ble_eq_true rfl) (fun g ad σ z C h => ?_)
  show g 0 [(0, .int l0)] [] σ
  rw [F_JI_bitCount] at h
  refine g_iload_n C 0 0 rfl rfl ?_
  refine g_iload_n C 1 0 rfl rfl ?_
  refine g_iconst (v := 1) C 2 rfl rfl ?_
  refine g_iushr C 3 rfl ?_
  refine g_ldcw C 4 rfl kcJI_265 ?_
  refine g_iand C 5 rfl ?_
  refine g_isub C 6 rfl ?_
  refine g_let h (fun v1 h => ?_)
  refine g_istore_n C 7 [(0, .int v1)] rfl (by decide) rfl ?_
  refine g_iload_n C 8 0 rfl rfl ?_
  refine g_ldcw C 9 rfl kcJI_266 ?_
  refine g_iand C 10 rfl ?_
  refine g_iload_n C 11 0 rfl rfl ?_
  refine g_iconst (v := 2) C 12 rfl rfl ?_
  refine g_iushr C 13 rfl ?_
  refine g_ldcw C 14 rfl kcJI_266 ?_
  refine g_iand C 15 rfl ?_
  refine g_iadd C 16 rfl ?_
  refine g_let h (fun v2 h => ?_)
  refine g_istore_n C 17 [(0, .int v2)] rfl (by decide) rfl ?_
  refine g_iload_n C 18 0 rfl rfl ?_
  refine g_iload_n C 19 0 rfl rfl ?_
  refine g_iconst (v := 4) C 20 rfl rfl ?_
  refine g_iushr C 21 rfl ?_
  refine g_iadd C 22 rfl ?_
  refine g_ldcw C 23 rfl kcJI_267 ?_
  refine g_iand C 24 rfl ?_
  refine g_let h (fun v3 h => ?_)
  refine g_istore_n C 25 [(0, .int v3)] rfl (by decide) rfl ?_
  refine g_iload_n C 26 0 rfl rfl ?_
  refine g_iload_n C 27 0 rfl rfl ?_
  refine g_bipush (v := 8) C 28 rfl rfl ?_
  refine g_iushr C 29 rfl ?_
  refine g_iadd C 30 rfl ?_
  refine g_let h (fun v4 h => ?_)
  refine g_istore_n C 31 [(0, .int v4)] rfl (by decide) rfl ?_
  refine g_iload_n C 32 0 rfl rfl ?_
  refine g_iload_n C 33 0 rfl rfl ?_
  refine g_bipush (v := 16) C 34 rfl rfl ?_
  refine g_iushr C 35 rfl ?_
  refine g_iadd C 36 rfl ?_
  refine g_let h (fun v5 h => ?_)
  refine g_istore_n C 37 [(0, .int v5)] rfl (by decide) rfl ?_
  refine g_iload_n C 38 0 rfl rfl ?_
  refine g_bipush (v := 63) C 39 rfl rfl ?_
  refine g_iand C 40 rfl ?_
  exact g_ireturn C 41 rfl h
def T_X5_isMissing : List (Nat × Instr × Nat) := [(0, .aload_n 0, 1), (1, .getfield 15, 3), (4, .iconst (-1), 1), (5, .if_icmp .ne 7, 3), (8, .iconst 1, 1), (9, .goto 4, 3), (12, .iconst 0, 1), (13, .ireturn, 1)]
theorem T_X5_isMissing_ok : gTb cX5_isMissing T_X5_isMissing = true := by decide +kernel
def F_X5_isMissing (Z : List gH) (l0 : Nat) (σ : gS) : Option (Int32 × gS) := if (σ l0 1) = (-1) then mZ 1 σ else mZ 0 σ
set_option maxRecDepth 20000 in
set_option maxHeartbeats 4000000 in
theorem M_X5_isMissing {Z : List gH} (hZ : Lay Z) (l0 : Nat) (hl0 : SB l0) : gMet yX5_isMissing cX5_isMissing 1 (some .boolean) 1 Z (fun ad => [.ref (ad l0)]) (F_X5_isMissing Z l0) := by
  refine gMet_intro T_X5_isMissing T_X5_isMissing_ok rfl (fun _ => Nat.le_of_ble_eq_true rfl) (fun g ad σ z C h => ?_)
  show g 0 [(0, .ref (ad l0))] [] σ
  rw [F_X5_isMissing] at h
  refine g_aload_n C 0 0 rfl rfl ?_
  refine g_geti C 1 rfl flX5_15 (sb_obj hZ hl0) rfl ?_
  refine g_iconst (v := (-1)) C 2 rfl rfl ?_
  refine g_icmp_ne C 3 12 rfl rfl h (fun h => ?_) (fun h => ?_)
  · refine g_iconst (v := 0) C 6 rfl rfl ?_
    exact g_zreturn C 7 rfl h
  · refine g_iconst (v := 1) C 4 rfl rfl ?_
    refine g_goto C 5 13 rfl rfl ?_
    exact g_zreturn C 7 rfl h
def T_X5_hasPlace : List (Nat × Instr × Nat) := [(0, .iload_n 1, 1), (1, .iconst 0, 1), (2, .aload_n 0, 1), (3, .getfield 19, 3), (6, .iconst 1, 1), (7, .isub, 1), (8, .invokestatic 34, 3), (11, .ireturn, 1)]
theorem T_X5_hasPlace_ok : gTb cX5_hasPlace T_X5_hasPlace = true := by decide +kernel
def F_X5_hasPlace (Z : List gH) (l0 : Nat) (l1 : Int32) (σ : gS) : Option (Int32 × gS) := mCall (F_X9_within Z l1 0 ((σ l0 2) - 1) σ) (fun r1 s2 => mZ r1 s2)
set_option maxRecDepth 20000 in
set_option maxHeartbeats 4000000 in
theorem M_X5_hasPlace {Z : List gH} (hZ : Lay Z) (l0 : Nat) (hl0 : SB l0) (l1 : Int32) : gMet yX5_hasPlace cX5_hasPlace 2 (some .boolean) 2 Z (fun ad => [.ref (ad l0), .int l1]) (F_X5_hasPlace Z l0 l1) := by
  refine gMet_intro T_X5_hasPlace T_X5_hasPlace_ok rfl (fun _ => Nat.le_of_ble_eq_true rfl) (fun g ad σ z C h => ?_)
  show g 0 [(0, .ref (ad l0)), (1, .int l1)] [] σ
  rw [F_X5_hasPlace] at h
  refine g_iload_n C 0 1 rfl rfl ?_
  refine g_iconst (v := 0) C 1 rfl rfl ?_
  refine g_aload_n C 2 0 rfl rfl ?_
  refine g_geti C 3 rfl flX5_19 (sb_obj hZ hl0) rfl ?_
  refine g_iconst (v := 1) C 4 rfl rfl ?_
  refine g_isub C 5 rfl ?_
  refine g_callSi C 6 [.int l1, .int 0, .int ((σ l0 2) - 1)] [] rfl (M_X9_within hZ l1 0 ((σ l0 2) - 1)) cnX5_34 cwX9_within csX9_within rfl rfl rfl (Nat.le_of_ble_eq_true rfl) ⟨Nat.le_of_ble_eq_true rfl, Nat.le_of_ble_eq_true rfl⟩ h (fun r1 s2 h => ?_)
  exact g_zreturn C 7 rfl h
def T_X5_hasNumber : List (Nat × Instr × Nat) := [(0, .aload_n 0, 1), (1, .iload_n 1, 1), (2, .invokevirtual 38, 3), (5, .ifCond .eq 18, 3), (8, .aload_n 0, 1), (9, .getfield 9, 3), (12, .iload_n 1, 1), (13, .iaload, 1), (14, .ldc 42, 2), (16, .if_icmp .eq 7, 3), (19, .iconst 1, 1), (20, .goto 4, 3), (23, .iconst 0, 1), (24, .ireturn, 1)]
theorem T_X5_hasNumber_ok : gTb cX5_hasNumber T_X5_hasNumber = true := by decide +kernel
def F_X5_hasNumber (Z : List gH) (l0 : Nat) (l1 : Int32) (σ : gS) : Option (Int32 × gS) := mCall (F_X5_hasPlace Z l0 l1 σ) (fun r1 s2 => if r1 = 0 then mZ 0 s2 else mIn 24 l1 (if (s2 (l0 + 1) (nn l1)) = (-1000000005) then mZ 0 s2 else mZ 1 s2))
set_option maxRecDepth 20000 in
set_option maxHeartbeats 4000000 in
theorem M_X5_hasNumber {Z : List gH} (hZ : Lay Z) (l0 : Nat) (hl0 : SB l0) (l1 : Int32) : gMet yX5_hasNumber cX5_hasNumber 2 (some .boolean) 3 Z (fun ad => [.ref (ad l0), .int l1]) (F_X5_hasNumber Z l0 l1) := by
  refine gMet_intro T_X5_hasNumber T_X5_hasNumber_ok rfl (fun _ => Nat.le_of_ble_eq_true rfl) (fun g ad σ z C h => ?_)
  show g 0 [(0, .ref (ad l0)), (1, .int l1)] [] σ
  rw [F_X5_hasNumber] at h
  refine g_aload_n C 0 0 rfl rfl ?_
  refine g_iload_n C 1 1 rfl rfl ?_
  refine g_callVi C 2 [.int l1] [] rfl (M_X5_hasPlace hZ l0 hl0 l1) cnX5_38 cwX5_hasPlace ciX5_hasPlace (sb_obj hZ hl0) rfl rfl rfl rfl (Nat.le_of_ble_eq_true rfl) ⟨Nat.le_of_ble_eq_true rfl, Nat.le_of_ble_eq_true rfl⟩ h (fun r1 s2 h => ?_)
  refine g_if_eq C 3 23 rfl rfl h (fun h => ?_) (fun h => ?_)
  · refine g_iconst (v := 0) C 12 rfl rfl ?_
    exact g_zreturn C 13 rfl h
  · refine g_aload_n C 4 0 rfl rfl ?_
    refine g_getr (b := (l0 + 1)) C 5 rfl flX5_9 (sb_obj hZ hl0) rfl ?_
    refine g_iload_n C 6 1 rfl rfl ?_
    refine g_iald C 7 rfl (sb_places hZ hl0) h (fun h => ?_)
    refine g_ldc C 8 rfl kcX5_42 ?_
    refine g_icmp_eq C 9 23 rfl rfl h (fun h => ?_) (fun h => ?_)
    · refine g_iconst (v := 0) C 12 rfl rfl ?_
      exact g_zreturn C 13 rfl h
    · refine g_iconst (v := 1) C 10 rfl rfl ?_
      refine g_goto C 11 24 rfl rfl ?_
      exact g_zreturn C 13 rfl h
def T_X7_addFour : List (Nat × Instr × Nat) := [(0, .bipush 24, 2), (2, .istore_n 2, 1), (3, .iload_n 2, 1), (4, .ifCond .lt 44, 3), (7, .aload_n 0, 1), (8, .getfield 15, 3), (11, .bipush 96, 2), (13, .if_icmp .ge 29, 3), (16, .aload_n 0, 1), (17, .getfield 9, 3), (20, .aload_n 0, 1), (21, .getfield 15, 3), (24, .iload_n 1, 1), (25, .iload_n 2, 1), (26, .iushr, 1), (27, .sipush 255, 3), (30, .iand, 1), (31, .iastore, 1), (32, .aload_n 0, 1), (33, .dup, 1), (34, .getfield 15, 3), (37, .iconst 1, 1), (38, .iadd, 1), (39, .putfield 15, 3), (42, .iinc 2 (-8), 3), (45, .goto (-42), 3), (48, .return_, 1)]
theorem T_X7_addFour_ok : gTb cX7_addFour T_X7_addFour = true := by decide +kernel
def F_X7_addFour_L3 (Z : List gH) (l1 : Int32) : Nat → Int32 → gS → Option (Int32 × gS)
  | 0, _, _ => none
  | n + 1, l2, σ => if l2 < 0 then some (0, σ) else if 96 ≤ (σ 34 1) then F_X7_addFour_L3 Z l1 n (l2 + (-8)) σ else mIn 96 (σ 34 1) (mLet (gu σ 35 (nn (σ 34 1)) ((mUsr l1 l2) &&& 255)) (fun s1 => mLet (gu s1 34 1 ((s1 34 1) + 1)) (fun s2 => F_X7_addFour_L3 Z l1 n (l2 + (-8)) s2)))
def F_X7_addFour (Z : List gH) (l1 : Int32) (σ : gS) : Option (Int32 × gS) := F_X7_addFour_L3 Z l1 mFuel 24 σ
set_option maxRecDepth 20000 in
set_option maxHeartbeats 4000000 in
theorem C_F_X7_addFour_L3 {g : Nat → List (Nat × Value) → List Value → gS → Prop} {Z : List gH} {ad : Nat → Nat} {z : Int32 × gS}  (C : gOk g T_X7_addFour RX7 3 none 1 Z ad z) (hZ : Lay Z) (l1 : Int32) : ∀ (n : Nat) (l2 : Int32) (σ : gS), F_X7_addFour_L3 Z l1 n l2 σ = some z → g 3 [(0, .ref (ad 34)), (1, .int l1), (2, .int l2)] [] σ := by
  intro n
  induction n with
  | zero => intro l2 σ h; cases h
  | succ n ih =>
    intro l2 σ h
    rw [F_X7_addFour_L3] at h
    refine g_iload_n C 2 2 rfl rfl ?_
    refine g_if_lt C 3 48 rfl rfl h (fun h => ?_) (fun h => ?_)
    · exact g_return C 26 rfl h
    · refine g_aload_n C 4 0 rfl rfl ?_
      refine g_geti C 5 rfl flX7_15 (hZ.at (i := 34) rfl) rfl ?_
      refine g_bipush (v := 96) C 6 rfl rfl ?_
      refine g_icmp_ge C 7 42 rfl rfl h (fun h => ?_) (fun h => ?_)
      · refine g_iinc C 24 2 (l2 + (-8)) [(2, .int (l2 + (-8))), (0, .ref (ad 34)), (1, .int l1)] rfl rfl (by decide) rfl rfl ?_
        refine g_goto C 25 3 rfl rfl ?_
        refine g_sub C [1, 2, 0] [(0, .ref (ad 34)), (1, .int l1), (2, .int (l2 + (-8)))] rfl ?_
        exact ih _ _ h
      · refine g_aload_n C 8 0 rfl rfl ?_
        refine g_getr (b := 35) C 9 rfl flX7_9 (hZ.at (i := 34) rfl) rfl ?_
        refine g_aload_n C 10 0 rfl rfl ?_
        refine g_geti C 11 rfl flX7_15 (hZ.at (i := 34) rfl) rfl ?_
        refine g_iload_n C 12 1 rfl rfl ?_
        refine g_iload_n C 13 2 rfl rfl ?_
        refine g_iushr C 14 rfl ?_
        refine g_sipush (v := 255) C 15 rfl rfl ?_
        refine g_iand C 16 rfl ?_
        refine g_iast C 17 rfl (hZ.at (i := 35) rfl) h (fun s1 h => ?_)
        refine g_aload_n C 18 0 rfl rfl ?_
        refine g_dup C 19 rfl rfl ?_
        refine g_geti C 20 rfl flX7_15 (hZ.at (i := 34) rfl) rfl ?_
        refine g_iconst (v := 1) C 21 rfl rfl ?_
        refine g_iadd C 22 rfl ?_
        refine g_put C 23 rfl fpX7_15 (hZ.at (i := 34) rfl) rfl rfl rfl h (fun s2 h => ?_)
        refine g_iinc C 24 2 (l2 + (-8)) [(2, .int (l2 + (-8))), (0, .ref (ad 34)), (1, .int l1)] rfl rfl (by decide) rfl rfl ?_
        refine g_goto C 25 3 rfl rfl ?_
        refine g_sub C [1, 2, 0] [(0, .ref (ad 34)), (1, .int l1), (2, .int (l2 + (-8)))] rfl ?_
        exact ih _ _ h
set_option maxRecDepth 20000 in
set_option maxHeartbeats 4000000 in
theorem M_X7_addFour {Z : List gH} (hZ : Lay Z) (l1 : Int32) : gMet yX7_addFour cX7_addFour 3 none 1 Z (fun ad => [.ref (ad 34), .int l1]) (F_X7_addFour Z l1) := by
  refine gMet_intro T_X7_addFour T_X7_addFour_ok rfl (fun _ => Nat.le_of_ble_eq_true rfl) (fun g ad σ z C h => ?_)
  show g 0 [(0, .ref (ad 34)), (1, .int l1)] [] σ
  rw [F_X7_addFour] at h
  refine g_bipush (v := 24) C 0 rfl rfl ?_
  refine g_istore_n C 1 [(2, .int 24), (0, .ref (ad 34)), (1, .int l1)] rfl (by decide) rfl ?_
  refine g_sub C [1, 2, 0] [(0, .ref (ad 34)), (1, .int l1), (2, .int 24)] rfl ?_
  exact C_F_X7_addFour_L3 C hZ _ _ _ _ h
def T_JL_canEncode : List (Nat × Instr × Nat) := [(0, .iload_n 0, 1), (1, .ifCond .lt (14), 3), (4, .iload_n 0, 1), (5, .sipush 255, 3), (8, .if_icmp .gt (7), 3), (11, .iconst 1, 1), (12, .goto (4), 3), (15, .iconst 0, 1), (16, .ireturn, 1)]
theorem T_JL_canEncode_ok : gTb cJL_canEncode T_JL_canEncode = true := by decide +kernel
def F_JL_canEncode (Z : List gH) (l0 : Int32) (σ : gS) : Option (Int32 × gS) := if l0 < 0 then mZ 0 σ else if 255 < l0 then mZ 0 σ else mZ 1 σ
set_option maxRecDepth 20000 in
set_option maxHeartbeats 4000000 in
theorem M_JL_canEncode {Z : List gH} (hZ : Lay Z) (l0 : Int32) : gMet yJL_canEncode cJL_canEncode 1 (some .boolean) 1 Z (fun ad => [.int l0]) (F_JL_canEncode Z l0) := by
  refine gMet_intro T_JL_canEncode T_JL_canEncode_ok rfl (fun _ => Nat.le_of_ble_eq_true rfl) (fun g ad σ z C h => ?_)
  show g 0 [(0, .int l0)] [] σ
  rw [F_JL_canEncode] at h
  refine g_iload_n C 0 0 rfl rfl ?_
  refine g_if_lt C 1 15 rfl rfl h (fun h => ?_) (fun h => ?_)
  · refine g_iconst (v := 0) C 7 rfl rfl ?_
    exact g_zreturn C 8 rfl h
  · refine g_iload_n C 2 0 rfl rfl ?_
    refine g_sipush (v := 255) C 3 rfl rfl ?_
    refine g_icmp_gt C 4 15 rfl rfl h (fun h => ?_) (fun h => ?_)
    · refine g_iconst (v := 0) C 7 rfl rfl ?_
      exact g_zreturn C 8 rfl h
    · refine g_iconst (v := 1) C 5 rfl rfl ?_
      refine g_goto C 6 16 rfl rfl ?_
      exact g_zreturn C 8 rfl h
def T_JL_indexOfChar : List (Nat × Instr × Nat) := [(0, .iload_n 1, 1), (1, .i2b, 1), (2, .istore 4, 2), (4, .iload_n 2, 1), (5, .istore 5, 2), (7, .iload 5, 2), (9, .iload_n 3, 1), (10, .if_icmp .ge (21), 3), (13, .aload_n 0, 1), (14, .iload 5, 2), (16, .baload, 1), (17, .iload 4, 2), (19, .if_icmp .ne (6), 3), (22, .iload 5, 2), (24, .ireturn, 1), (25, .iinc 5 1, 3), (28, .goto (-21), 3), (31, .iconst (-1), 1), (32, .ireturn, 1)]
theorem T_JL_indexOfChar_ok : gTb cJL_indexOfChar T_JL_indexOfChar = true := by decide +kernel
def F_JL_indexOfChar_L7 (Z : List gH) (l0 : Nat) (l3 : Int32) : Nat → Int32 → Int32 → gS → Option (Int32 × gS)
  | 0, _, _, _ => none
  | n + 1, l4, l5, σ => if l3 ≤ l5 then some ((-1), σ) else mIn (sLen.getD l0 0) l5 (if ((sByt.getD l0 []).getD (nn l5) 0) = l4 then some (l5, σ) else F_JL_indexOfChar_L7 Z l0 l3 n l4 (l5 + 1) σ)
def F_JL_indexOfChar (Z : List gH) (l0 : Nat) (l1 : Int32) (l2 : Int32) (l3 : Int32) (σ : gS) : Option (Int32 × gS) := mLet ((l1.toInt8.toInt32)) (fun v1 => F_JL_indexOfChar_L7 Z l0 l3 mFuel v1 l2 σ)
set_option maxRecDepth 20000 in
set_option maxHeartbeats 4000000 in
theorem C_F_JL_indexOfChar_L7 {g : Nat → List (Nat × Value) → List Value → gS → Prop} {Z : List gH} {ad : Nat → Nat} {z : Int32 × gS}  (C : gOk g T_JL_indexOfChar RJL 6 (some .int) 1 Z ad z) (hZ : Lay Z) (l0 : Nat) (hl0 : l0 < 6) (l3 : Int32) : ∀ (n : Nat) (l4 : Int32) (l5 : Int32) (σ : gS), F_JL_indexOfChar_L7 Z l0 l3 n l4 l5 σ = some z → g 7 [(0, .ref (ad (1100 + l0))), (3, .int l3), (4, .int l4), (5, .int l5)] [] σ := by
  intro n
  induction n with
  | zero => intro l4 l5 σ h; cases h
  | succ n ih =>
    intro l4 l5 σ h
    rw [F_JL_indexOfChar_L7] at h
    refine g_iload C 5 3 rfl rfl ?_
    refine g_iload_n C 6 1 rfl rfl ?_
    refine g_icmp_ge C 7 31 rfl rfl h (fun h => ?_) (fun h => ?_)
    · refine g_iconst (v := (-1)) C 17 rfl rfl ?_
      exact g_ireturn C 18 rfl h
    · refine g_aload_n C 8 0 rfl rfl ?_
      refine g_iload C 9 3 rfl rfl ?_
      refine g_bald C 10 hl0 rfl h (fun h => ?_)
      refine g_iload C 11 2 rfl rfl ?_
      refine g_icmp_ne C 12 25 rfl rfl h (fun h => ?_) (fun h => ?_)
      · refine g_iinc C 15 3 (l5 + 1) [(5, .int (l5 + 1)), (0, .ref (ad (1100 + l0))), (3, .int l3), (4, .int l4)] rfl rfl (by decide) rfl rfl ?_
        refine g_goto C 16 7 rfl rfl ?_
        refine g_sub C [1, 2, 3, 0] [(0, .ref (ad (1100 + l0))), (3, .int l3), (4, .int l4), (5, .int (l5 + 1))] rfl ?_
        exact ih _ _ _ h
      · refine g_iload C 13 3 rfl rfl ?_
        exact g_ireturn C 14 rfl h
set_option maxRecDepth 20000 in
set_option maxHeartbeats 4000000 in
theorem M_JL_indexOfChar {Z : List gH} (hZ : Lay Z) (l0 : Nat) (hl0 : l0 < 6) (l1 : Int32) (l2 : Int32) (l3 : Int32) : gMet yJL_indexOfChar cJL_indexOfChar 6 (some .int) 1 Z (fun ad => [.ref (ad (1100 + l0)), .int l1, .int l2, .int l3]) (F_JL_indexOfChar Z l0 l1 l2 l3) := by
  refine gMet_intro T_JL_indexOfChar T_JL_indexOfChar_ok rfl (fun _ => Nat.le_of_ble_eq_true rfl) (fun g ad σ z C h => ?_)
  show g 0 [(0, .ref (ad (1100 + l0))), (1, .int l1), (2, .int l2), (3, .int l3)] [] σ
  rw [F_JL_indexOfChar] at h
  refine g_iload_n C 0 1 rfl rfl ?_
  refine g_i2b C 1 rfl ?_
  refine g_let h (fun v1 h => ?_)
  refine g_istore C 2 [(4, .int v1), (0, .ref (ad (1100 + l0))), (1, .int l1), (2, .int l2), (3, .int l3)] rfl (by decide) rfl ?_
  refine g_iload_n C 3 3 rfl rfl ?_
  refine g_istore C 4 [(5, .int l2), (4, .int v1), (0, .ref (ad (1100 + l0))), (1, .int l1), (2, .int l2), (3, .int l3)] rfl (by decide) rfl ?_
  refine g_sub C [2, 5, 1, 0] [(0, .ref (ad (1100 + l0))), (3, .int l3), (4, .int v1), (5, .int l2)] rfl ?_
  exact C_F_JL_indexOfChar_L7 C hZ _ hl0 _ _ _ _ _ h
def T_JL_indexOf : List (Nat × Instr × Nat) := [(0, .iload_n 1, 1), (1, .invokestatic 88, 3), (4, .ifCond .ne (5), 3), (7, .iconst (-1), 1), (8, .ireturn, 1), (9, .iload_n 2, 1), (10, .iconst 0, 1), (11, .invokestatic 92, 3), (14, .istore_n 2, 1), (15, .iload_n 3, 1), (16, .aload_n 0, 1), (17, .arraylength, 1), (18, .invokestatic 38, 3), (21, .istore_n 3, 1), (22, .iload_n 2, 1), (23, .iload_n 3, 1), (24, .if_icmp .lt (5), 3), (27, .iconst (-1), 1), (28, .ireturn, 1), (29, .aload_n 0, 1), (30, .iload_n 1, 1), (31, .iload_n 2, 1), (32, .iload_n 3, 1), (33, .invokestatic 95, 3), (36, .ireturn, 1)]
theorem T_JL_indexOf_ok : gTb cJL_indexOf T_JL_indexOf = true := by decide +kernel
def F_JL_indexOf (Z : List gH) (l0 : Nat) (l1 : Int32) (l2 : Int32) (l3 : Int32) (σ : gS) : Option (Int32 × gS) := mCall (F_JL_canEncode Z l1 σ) (fun r1 s2 => if r1 = 0 then some ((-1), s2) else mLet ((mMax l2 0)) (fun v3 => mLet ((mMin l3 (Int32.ofNat (sLen.getD l0 0)))) (fun v4 => if v3 < v4 then mCall (F_JL_indexOfChar Z l0 l1 v3 v4 s2) (fun r5 s6 => some (r5, s6)) else some ((-1), s2))))
set_option maxRecDepth 20000 in
set_option maxHeartbeats 4000000 in
theorem M_JL_indexOf {Z : List gH} (hZ : Lay Z) (l0 : Nat) (hl0 : l0 < 6) (l1 : Int32) (l2 : Int32) (l3 : Int32) : gMet yJL_indexOf cJL_indexOf 4 (some .int) 2 Z (fun ad => [.ref (ad (1100 + l0)), .int l1, .int l2, .int l3]) (F_JL_indexOf Z l0 l1 l2 l3) := by
  refine gMet_intro T_JL_indexOf T_JL_indexOf_ok rfl (fun _ => Nat.le_of_ble_eq_true rfl) (fun g ad σ z C h => ?_)
  show g 0 [(0, .ref (ad (1100 + l0))), (1, .int l1), (2, .int l2), (3, .int l3)] [] σ
  rw [F_JL_indexOf] at h
  refine g_iload_n C 0 1 rfl rfl ?_
  refine g_callSi C 1 [.int l1] [] rfl (M_JL_canEncode hZ l1) cnJL_88 cwJL_canEncode csJL_canEncode rfl rfl rfl (Nat.le_of_ble_eq_true rfl) ⟨Nat.le_of_ble_eq_true rfl, Nat.le_of_ble_eq_true rfl⟩ h (fun r1 s2 h => ?_)
  refine g_if_ne C 2 9 rfl rfl h (fun h => ?_) (fun h => ?_)
  · refine g_iload_n C 5 2 rfl rfl ?_
    refine g_iconst (v := 0) C 6 rfl rfl ?_
    refine g_mmax C 7 rfl cnJL_92 wm_max ⟨Nat.le_of_ble_eq_true rfl, Nat.le_of_ble_eq_true rfl⟩ ?_
    refine g_let h (fun v3 h => ?_)
    refine g_istore_n C 8 [(2, .int v3), (0, .ref (ad (1100 + l0))), (1, .int l1), (3, .int l3)] rfl (by decide) rfl ?_
    refine g_iload_n C 9 3 rfl rfl ?_
    refine g_aload_n C 10 1 rfl rfl ?_
    refine g_balen C 11 hl0 rfl ?_
    refine g_mmin C 12 rfl cnJL_38 wm_min ⟨Nat.le_of_ble_eq_true rfl, Nat.le_of_ble_eq_true rfl⟩ ?_
    refine g_let h (fun v4 h => ?_)
    refine g_istore_n C 13 [(3, .int v4), (2, .int v3), (0, .ref (ad (1100 + l0))), (1, .int l1)] rfl (by decide) rfl ?_
    refine g_iload_n C 14 1 rfl rfl ?_
    refine g_iload_n C 15 0 rfl rfl ?_
    refine g_icmp_lt C 16 29 rfl rfl h (fun h => ?_) (fun h => ?_)
    · refine g_aload_n C 19 2 rfl rfl ?_
      refine g_iload_n C 20 3 rfl rfl ?_
      refine g_iload_n C 21 1 rfl rfl ?_
      refine g_iload_n C 22 0 rfl rfl ?_
      refine g_callSi C 23 [.ref (ad (1100 + l0)), .int l1, .int v3, .int v4] [] rfl (M_JL_indexOfChar hZ l0 hl0 l1 v3 v4) cnJL_95 cwJL_indexOfChar csJL_indexOfChar rfl rfl rfl (Nat.le_of_ble_eq_true rfl) ⟨Nat.le_of_ble_eq_true rfl, Nat.le_of_ble_eq_true rfl⟩ h (fun r5 s6 h => ?_)
      exact g_ireturn C 24 rfl h
    · refine g_iconst (v := (-1)) C 17 rfl rfl ?_
      exact g_ireturn C 18 rfl h
  · refine g_iconst (v := (-1)) C 3 rfl rfl ?_
    exact g_ireturn C 4 rfl h
def T_JS_coder : List (Nat × Instr × Nat) := [(0, .getstatic 38, 3), (3, .ifCond .eq (10), 3), (6, .aload_n 0, 1), (7, .getfield 15, 3), (10, .goto (4), 3), (13, .iconst 1, 1), (14, .ireturn, 1)]
theorem T_JS_coder_ok : gTb cJS_coder T_JS_coder = true := by decide +kernel
def F_JS_coder (Z : List gH) (l0 : Nat) (σ : gS) : Option (Int32 × gS) := if vp_nar .byte 0 = 0 then some (0, σ) else none
set_option maxRecDepth 20000 in
set_option maxHeartbeats 4000000 in
theorem M_JS_coder {Z : List gH} (hZ : Lay Z) (l0 : Nat) (hl0 : l0 < 6) : gMet yJS_coder cJS_coder 1 (some .byte) 1 Z (fun ad => [.ref (ad (1000 + l0))]) (F_JS_coder Z l0) := by
  refine gMet_intro T_JS_coder T_JS_coder_ok rfl (fun _ => Nat.le_of_ble_eq_true rfl) (fun g ad σ z C h => ?_)
  show g 0 [(0, .ref (ad (1000 + l0)))] [] σ
  rw [F_JS_coder] at h
  refine g_cst C 0 rfl kx_cst ?_
  refine g_if_eq_F C 1 13 rfl rfl (by decide) ?_
  refine g_aload_n C 2 0 rfl rfl ?_
  refine g_scod C 3 hl0 rfl kx_scod ?_
  refine g_goto C 4 14 rfl rfl ?_
  exact g_nreturn C 6 (Or.inr rfl) rfl h
def T_JS_length : List (Nat × Instr × Nat) := [(0, .aload_n 0, 1), (1, .getfield 9, 3), (4, .arraylength, 1), (5, .aload_n 0, 1), (6, .invokevirtual 335, 3), (9, .ishr, 1), (10, .ireturn, 1)]
theorem T_JS_length_ok : gTb cJS_length T_JS_length = true := by decide +kernel
def F_JS_length (Z : List gH) (l0 : Nat) (σ : gS) : Option (Int32 × gS) := mCall (F_JS_coder Z l0 σ) (fun r1 s2 => some (((Int32.ofNat (sLen.getD l0 0)) >>> (r1 &&& 31)), s2))
set_option maxRecDepth 20000 in
set_option maxHeartbeats 4000000 in
theorem M_JS_length {Z : List gH} (hZ : Lay Z) (l0 : Nat) (hl0 : l0 < 6) : gMet yJS_length cJS_length 1 (some .int) 2 Z (fun ad => [.ref (ad (1000 + l0))]) (F_JS_length Z l0) := by
  refine gMet_intro T_JS_length T_JS_length_ok rfl (fun _ => Nat.le_of_ble_eq_true rfl) (fun g ad σ z C h => ?_)
  show g 0 [(0, .ref (ad (1000 + l0)))] [] σ
  rw [F_JS_length] at h
  refine g_aload_n C 0 0 rfl rfl ?_
  refine g_sval C 1 hl0 rfl kx_sval ?_
  refine g_balen C 2 hl0 rfl ?_
  refine g_aload_n C 3 0 rfl rfl ?_
  refine g_callKi C 4 [] [.int (Int32.ofNat (sLen.getD l0 0))] hl0 rfl (M_JS_coder hZ l0 hl0) cnJS_335 cwJS_coder ciJS_coder rfl rfl rfl rfl (by simp [Value.category, *]) ⟨Nat.le_of_ble_eq_true rfl, Nat.le_of_ble_eq_true rfl⟩ h (fun r1 s2 h => ?_)
  refine g_ishr C 5 rfl ?_
  exact g_ireturn C 6 rfl h
def T_JS_isLatin1 : List (Nat × Instr × Nat) := [(0, .getstatic 38, 3), (3, .ifCond .eq (14), 3), (6, .aload_n 0, 1), (7, .getfield 15, 3), (10, .ifCond .ne (7), 3), (13, .iconst 1, 1), (14, .goto (4), 3), (17, .iconst 0, 1), (18, .ireturn, 1)]
theorem T_JS_isLatin1_ok : gTb cJS_isLatin1 T_JS_isLatin1 = true := by decide +kernel
def F_JS_isLatin1 (Z : List gH) (l0 : Nat) (σ : gS) : Option (Int32 × gS) := mZ 1 σ
set_option maxRecDepth 20000 in
set_option maxHeartbeats 4000000 in
theorem M_JS_isLatin1 {Z : List gH} (hZ : Lay Z) (l0 : Nat) (hl0 : l0 < 6) : gMet yJS_isLatin1 cJS_isLatin1 1 (some .boolean) 1 Z (fun ad => [.ref (ad (1000 + l0))]) (F_JS_isLatin1 Z l0) := by
  refine gMet_intro T_JS_isLatin1 T_JS_isLatin1_ok rfl (fun _ => Nat.le_of_ble_eq_true rfl) (fun g ad σ z C h => ?_)
  show g 0 [(0, .ref (ad (1000 + l0)))] [] σ
  rw [F_JS_isLatin1] at h
  refine g_cst C 0 rfl kx_cst ?_
  refine g_if_eq_F C 1 17 rfl rfl (by decide) ?_
  refine g_aload_n C 2 0 rfl rfl ?_
  refine g_scod C 3 hl0 rfl kx_scod ?_
  refine g_if_ne_F C 4 17 rfl rfl (by decide) ?_
  refine g_iconst (v := 1) C 5 rfl rfl ?_
  refine g_goto C 6 18 rfl rfl ?_
  exact g_zreturn C 8 rfl h
def T_JS_indexOf2 : List (Nat × Instr × Nat) := [(0, .aload_n 0, 1), (1, .invokevirtual 492, 3), (4, .ifCond .eq (19), 3), (7, .aload_n 0, 1), (8, .getfield 9, 3), (11, .iload_n 1, 1), (12, .iload_n 2, 1), (13, .aload_n 0, 1), (14, .invokevirtual 505, 3), (17, .invokestatic 637, 3), (20, .goto (16), 3), (23, .aload_n 0, 1), (24, .getfield 9, 3), (27, .iload_n 1, 1), (28, .iload_n 2, 1), (29, .aload_n 0, 1), (30, .invokevirtual 505, 3), (33, .invokestatic 640, 3), (36, .ireturn, 1)]
theorem T_JS_indexOf2_ok : gTb cJS_indexOf2 T_JS_indexOf2 = true := by decide +kernel
def F_JS_indexOf2 (Z : List gH) (l0 : Nat) (l1 : Int32) (l2 : Int32) (σ : gS) : Option (Int32 × gS) := mCall (F_JS_isLatin1 Z l0 σ) (fun r1 s2 => if r1 = 0 then none else mCall (F_JS_length Z l0 s2) (fun r5 s6 => mCall (F_JL_indexOf Z l0 l1 l2 r5 s6) (fun r7 s8 => some (r7, s8))))
set_option maxRecDepth 20000 in
set_option maxHeartbeats 4000000 in
theorem M_JS_indexOf2 {Z : List gH} (hZ : Lay Z) (l0 : Nat) (hl0 : l0 < 6) (l1 : Int32) (l2 : Int32) : gMet yJS_indexOf2 cJS_indexOf2 3 (some .int) 3 Z (fun ad => [.ref (ad (1000 + l0)), .int l1, .int l2]) (F_JS_indexOf2 Z l0 l1 l2) := by
  refine gMet_intro T_JS_indexOf2 T_JS_indexOf2_ok rfl (fun _ => Nat.le_of_ble_eq_true rfl) (fun g ad σ z C h => ?_)
  show g 0 [(0, .ref (ad (1000 + l0))), (1, .int l1), (2, .int l2)] [] σ
  rw [F_JS_indexOf2] at h
  refine g_aload_n C 0 0 rfl rfl ?_
  refine g_callKi C 1 [] [] hl0 rfl (M_JS_isLatin1 hZ l0 hl0) cnJS_492 cwJS_isLatin1 ciJS_isLatin1 rfl rfl rfl rfl (by simp [Value.category, *]) ⟨Nat.le_of_ble_eq_true rfl, Nat.le_of_ble_eq_true rfl⟩ h (fun r1 s2 h => ?_)
  refine g_if_eq C 2 23 rfl rfl h (fun h => ?_) (fun h => ?_)
  · cases h
  · refine g_aload_n C 3 0 rfl rfl ?_
    refine g_sval C 4 hl0 rfl kx_sval ?_
    refine g_iload_n C 5 1 rfl rfl ?_
    refine g_iload_n C 6 2 rfl rfl ?_
    refine g_aload_n C 7 0 rfl rfl ?_
    refine g_callKi C 8 [] [.int l2, .int l1, .ref (ad (1100 + l0))] hl0 rfl (M_JS_length hZ l0 hl0) cnJS_505 cwJS_length ciJS_length rfl rfl rfl rfl (by simp [Value.category, *]) ⟨Nat.le_of_ble_eq_true rfl, Nat.le_of_ble_eq_true rfl⟩ h (fun r5 s6 h => ?_)
    refine g_callSi C 9 [.ref (ad (1100 + l0)), .int l1, .int l2, .int r5] [] rfl (M_JL_indexOf hZ l0 hl0 l1 l2 r5) cnJS_637 cwJL_indexOf csJL_indexOf rfl rfl rfl (Nat.le_of_ble_eq_true rfl) ⟨Nat.le_of_ble_eq_true rfl, Nat.le_of_ble_eq_true rfl⟩ h (fun r7 s8 h => ?_)
    refine g_goto C 10 36 rfl rfl ?_
    exact g_ireturn C 18 rfl h
def T_JS_indexOf : List (Nat × Instr × Nat) := [(0, .aload_n 0, 1), (1, .iload_n 1, 1), (2, .iconst 0, 1), (3, .invokevirtual 633, 3), (6, .ireturn, 1)]
theorem T_JS_indexOf_ok : gTb cJS_indexOf T_JS_indexOf = true := by decide +kernel
def F_JS_indexOf (Z : List gH) (l0 : Nat) (l1 : Int32) (σ : gS) : Option (Int32 × gS) := mCall (F_JS_indexOf2 Z l0 l1 0 σ) (fun r1 s2 => some (r1, s2))
set_option maxRecDepth 20000 in
set_option maxHeartbeats 4000000 in
theorem M_JS_indexOf {Z : List gH} (hZ : Lay Z) (l0 : Nat) (hl0 : l0 < 6) (l1 : Int32) : gMet yJS_indexOf cJS_indexOf 2 (some .int) 4 Z (fun ad => [.ref (ad (1000 + l0)), .int l1]) (F_JS_indexOf Z l0 l1) := by
  refine gMet_intro T_JS_indexOf T_JS_indexOf_ok rfl (fun _ => Nat.le_of_ble_eq_true rfl) (fun g ad σ z C h => ?_)
  show g 0 [(0, .ref (ad (1000 + l0))), (1, .int l1)] [] σ
  rw [F_JS_indexOf] at h
  refine g_aload_n C 0 0 rfl rfl ?_
  refine g_iload_n C 1 1 rfl rfl ?_
  refine g_iconst (v := 0) C 2 rfl rfl ?_
  refine g_callKi C 3 [.int l1, .int 0] [] hl0 rfl (M_JS_indexOf2 hZ l0 hl0 l1 0) cnJS_633 cwJS_indexOf2 ciJS_indexOf2 rfl rfl rfl rfl (by simp [Value.category, *]) ⟨Nat.le_of_ble_eq_true rfl, Nat.le_of_ble_eq_true rfl⟩ h (fun r1 s2 h => ?_)
  exact g_ireturn C 4 rfl h
def T_JP_checkIndex : List (Nat × Instr × Nat) := [(0, .iload_n 0, 1), (1, .ifCond .lt (8), 3), (4, .iload_n 0, 1), (5, .iload_n 1, 1), (6, .if_icmp .lt (10), 3), (9, .aload_n 2, 1), (10, .iload_n 0, 1), (11, .iload_n 1, 1), (12, .invokestatic 95, 3), (15, .athrow, 1), (16, .iload_n 0, 1), (17, .ireturn, 1)]
theorem T_JP_checkIndex_ok : gTb cJP_checkIndex T_JP_checkIndex = true := by decide +kernel
def F_JP_checkIndex (Z : List gH) (l0 : Int32) (l1 : Int32) (σ : gS) : Option (Int32 × gS) := if l0 < 0 then none else if l0 < l1 then some (l0, σ) else none
set_option maxRecDepth 20000 in
set_option maxHeartbeats 4000000 in
theorem M_JP_checkIndex {Z : List gH} (hZ : Lay Z) (l0 : Int32) (l1 : Int32) (l2 : Value) (hl2 : l2.category = 1) : gMet yJP_checkIndex cJP_checkIndex 3 (some .int) 1 Z (fun ad => [.int l0, .int l1, l2]) (F_JP_checkIndex Z l0 l1) := by
  refine gMet_intro T_JP_checkIndex T_JP_checkIndex_ok rfl (fun _ => by simp [lg_sl, *, show ∀ x : Int32, (Value.int x).category = 1 from fun _ => rfl]) (fun g ad σ z C h => ?_)
  show g 0 [(0, .int l0), (1, .int l1), (2, l2)] [] σ
  rw [F_JP_checkIndex] at h
  refine g_iload_n C 0 0 rfl rfl ?_
  refine g_if_lt C 1 9 rfl rfl h (fun h => ?_) (fun h => ?_)
  · cases h
  · refine g_iload_n C 2 0 rfl rfl ?_
    refine g_iload_n C 3 1 rfl rfl ?_
    refine g_icmp_lt C 4 16 rfl rfl h (fun h => ?_) (fun h => ?_)
    · refine g_iload_n C 10 0 rfl rfl ?_
      exact g_ireturn C 11 rfl h
    · cases h
def T_JS_checkIndex : List (Nat × Instr × Nat) := [(0, .iload_n 0, 1), (1, .iload_n 1, 1), (2, .getstatic 1053, 3), (5, .invokestatic 1059, 3), (8, .pop, 1), (9, .return_, 1)]
theorem T_JS_checkIndex_ok : gTb cJS_checkIndex T_JS_checkIndex = true := by decide +kernel
def F_JS_checkIndex (Z : List gH) (l0 : Int32) (l1 : Int32) (σ : gS) : Option (Int32 × gS) := mCall (F_JP_checkIndex Z l0 l1 σ) (fun r2 s3 => some (0, s3))
set_option maxRecDepth 20000 in
set_option maxHeartbeats 4000000 in
theorem M_JS_checkIndex {Z : List gH} (hZ : Lay Z) (l0 : Int32) (l1 : Int32) : gMet yJS_checkIndex cJS_checkIndex 2 none 2 Z (fun ad => [.int l0, .int l1]) (F_JS_checkIndex Z l0 l1) := by
  refine gMet_intro T_JS_checkIndex T_JS_checkIndex_ok rfl (fun _ => Nat.le_of_ble_eq_true rfl) (fun g ad σ z C h => ?_)
  show g 0 [(0, .int l0), (1, .int l1)] [] σ
  rw [F_JS_checkIndex] at h
  refine g_iload_n C 0 0 rfl rfl ?_
  refine g_iload_n C 1 1 rfl rfl ?_
  refine g_siob C 2 rfl kx_siob (fun b1 hb1 => ?_)
  refine g_callSi C 3 [.int l0, .int l1, b1] [] rfl (M_JP_checkIndex hZ l0 l1 b1 hb1) cnJS_1059 cwJP_checkIndex csJP_checkIndex rfl rfl rfl (Nat.le_of_ble_eq_true rfl) ⟨Nat.le_of_ble_eq_true rfl, Nat.le_of_ble_eq_true rfl⟩ h (fun r2 s3 h => ?_)
  refine g_pop C 4 rfl rfl ?_
  exact g_return C 5 rfl h
def T_JL_charAt : List (Nat × Instr × Nat) := [(0, .iload_n 1, 1), (1, .aload_n 0, 1), (2, .arraylength, 1), (3, .invokestatic 9, 3), (6, .aload_n 0, 1), (7, .iload_n 1, 1), (8, .baload, 1), (9, .sipush 255, 3), (12, .iand, 1), (13, .i2c, 1), (14, .ireturn, 1)]
theorem T_JL_charAt_ok : gTb cJL_charAt T_JL_charAt = true := by decide +kernel
def F_JL_charAt (Z : List gH) (l0 : Nat) (l1 : Int32) (σ : gS) : Option (Int32 × gS) := mCall (F_JS_checkIndex Z l1 (Int32.ofNat (sLen.getD l0 0)) σ) (fun r1 s2 => mIn (sLen.getD l0 0) l1 (if vp_nar .char (((((sByt.getD l0 []).getD (nn l1) 0) &&& 255).toUInt32 % 65536).toInt32) = (((((sByt.getD l0 []).getD (nn l1) 0) &&& 255).toUInt32 % 65536).toInt32) then some ((((((sByt.getD l0 []).getD (nn l1) 0) &&& 255).toUInt32 % 65536).toInt32), s2) else none))
set_option maxRecDepth 20000 in
set_option maxHeartbeats 4000000 in
theorem M_JL_charAt {Z : List gH} (hZ : Lay Z) (l0 : Nat) (hl0 : l0 < 6) (l1 : Int32) : gMet yJL_charAt cJL_charAt 2 (some .char) 3 Z (fun ad => [.ref (ad (1100 + l0)), .int l1]) (F_JL_charAt Z l0 l1) := by
  refine gMet_intro T_JL_charAt T_JL_charAt_ok rfl (fun _ => Nat.le_of_ble_eq_true rfl) (fun g ad σ z C h => ?_)
  show g 0 [(0, .ref (ad (1100 + l0))), (1, .int l1)] [] σ
  rw [F_JL_charAt] at h
  refine g_iload_n C 0 1 rfl rfl ?_
  refine g_aload_n C 1 0 rfl rfl ?_
  refine g_balen C 2 hl0 rfl ?_
  refine g_callSv C 3 [.int l1, .int (Int32.ofNat (sLen.getD l0 0))] [] rfl (M_JS_checkIndex hZ l1 (Int32.ofNat (sLen.getD l0 0))) cnJL_9 cwJS_checkIndex csJS_checkIndex rfl rfl rfl (Nat.le_of_ble_eq_true rfl) ⟨Nat.le_of_ble_eq_true rfl, Nat.le_of_ble_eq_true rfl⟩ h (fun r1 s2 h => ?_)
  refine g_aload_n C 4 0 rfl rfl ?_
  refine g_iload_n C 5 1 rfl rfl ?_
  refine g_bald C 6 hl0 rfl h (fun h => ?_)
  refine g_sipush (v := 255) C 7 rfl rfl ?_
  refine g_iand C 8 rfl ?_
  refine g_i2c C 9 rfl ?_
  exact g_nreturn C 10 (Or.inl rfl) rfl h
def T_JS_charAt : List (Nat × Instr × Nat) := [(0, .aload_n 0, 1), (1, .invokevirtual 492, 3), (4, .ifCond .eq (12), 3), (7, .aload_n 0, 1), (8, .getfield 9, 3), (11, .iload_n 1, 1), (12, .invokestatic 495, 3), (15, .ireturn, 1), (16, .aload_n 0, 1), (17, .getfield 9, 3), (20, .iload_n 1, 1), (21, .invokestatic 498, 3), (24, .ireturn, 1)]
theorem T_JS_charAt_ok : gTb cJS_charAt T_JS_charAt = true := by decide +kernel
def F_JS_charAt (Z : List gH) (l0 : Nat) (l1 : Int32) (σ : gS) : Option (Int32 × gS) := mCall (F_JS_isLatin1 Z l0 σ) (fun r1 s2 => if r1 = 0 then none else mCall (F_JL_charAt Z l0 l1 s2) (fun r3 s4 => if vp_nar .char r3 = r3 then some (r3, s4) else none))
set_option maxRecDepth 20000 in
set_option maxHeartbeats 4000000 in
theorem M_JS_charAt {Z : List gH} (hZ : Lay Z) (l0 : Nat) (hl0 : l0 < 6) (l1 : Int32) : gMet yJS_charAt cJS_charAt 2 (some .char) 4 Z (fun ad => [.ref (ad (1000 + l0)), .int l1]) (F_JS_charAt Z l0 l1) := by
  refine gMet_intro T_JS_charAt T_JS_charAt_ok rfl (fun _ => Nat.le_of_ble_eq_true rfl) (fun g ad σ z C h => ?_)
  show g 0 [(0, .ref (ad (1000 + l0))), (1, .int l1)] [] σ
  rw [F_JS_charAt] at h
  refine g_aload_n C 0 0 rfl rfl ?_
  refine g_callKi C 1 [] [] hl0 rfl (M_JS_isLatin1 hZ l0 hl0) cnJS_492 cwJS_isLatin1 ciJS_isLatin1 rfl rfl rfl rfl (by simp [Value.category, *]) ⟨Nat.le_of_ble_eq_true rfl, Nat.le_of_ble_eq_true rfl⟩ h (fun r1 s2 h => ?_)
  refine g_if_eq C 2 16 rfl rfl h (fun h => ?_) (fun h => ?_)
  · cases h
  · refine g_aload_n C 3 0 rfl rfl ?_
    refine g_sval C 4 hl0 rfl kx_sval ?_
    refine g_iload_n C 5 1 rfl rfl ?_
    refine g_callSi C 6 [.ref (ad (1100 + l0)), .int l1] [] rfl (M_JL_charAt hZ l0 hl0 l1) cnJS_495 cwJL_charAt csJL_charAt rfl rfl rfl (Nat.le_of_ble_eq_true rfl) ⟨Nat.le_of_ble_eq_true rfl, Nat.le_of_ble_eq_true rfl⟩ h (fun r3 s4 h => ?_)
    exact g_nreturn C 7 (Or.inl rfl) rfl h
def T_X2_operandsOf : List (Nat × Instr × Nat) := [(0, .aload_n 0, 1), (1, .iload_n 1, 1), (2, .invokevirtual 25, 3), (5, .ifCond .eq 15, 3), (8, .aload_n 0, 1), (9, .getfield 11, 3), (12, .iload_n 1, 1), (13, .aaload, 1), (14, .getfield 34, 3), (17, .goto 5, 3), (20, .ldc 33, 2), (22, .ireturn, 1)]
theorem T_X2_operandsOf_ok : gTb cX2_operandsOf T_X2_operandsOf = true := by decide +kernel
def F_X2_operandsOf (Z : List gH) (l1 : Int32) (σ : gS) : Option (Int32 × gS) := mCall (F_X2_has Z l1 σ) (fun r1 s2 => if r1 = 0 then some ((-1000000001), s2) else mIn 14 l1 (mSome (zr Z (nn l1)) (fun c3 => some ((s2 c3 1), s2))))
set_option maxRecDepth 20000 in
set_option maxHeartbeats 4000000 in
theorem M_X2_operandsOf {Z : List gH} (hZ : Lay Z) (l1 : Int32) : gMet yX2_operandsOf cX2_operandsOf 2 (some .int) 3 Z (fun ad => [.ref (ad 1), .int l1]) (F_X2_operandsOf Z l1) := by
  refine gMet_intro T_X2_operandsOf T_X2_operandsOf_ok rfl (fun _ => Nat.le_of_ble_eq_true rfl) (fun g ad σ z C h => ?_)
  show g 0 [(0, .ref (ad 1)), (1, .int l1)] [] σ
  rw [F_X2_operandsOf] at h
  refine g_aload_n C 0 0 rfl rfl ?_
  refine g_iload_n C 1 1 rfl rfl ?_
  refine g_callVi C 2 [.int l1] [] rfl (M_X2_has hZ l1) cnX2_25 cwX2_has ciX2_has (hZ.at (i := 1) rfl) rfl rfl rfl rfl (Nat.le_of_ble_eq_true rfl) ⟨Nat.le_of_ble_eq_true rfl, Nat.le_of_ble_eq_true rfl⟩ h (fun r1 s2 h => ?_)
  refine g_if_eq C 3 20 rfl rfl h (fun h => ?_) (fun h => ?_)
  · refine g_ldc C 10 rfl kcX2_33 ?_
    exact g_ireturn C 11 rfl h
  · refine g_aload_n C 4 0 rfl rfl ?_
    refine g_getr (b := 2) C 5 rfl flX2_11 (hZ.at (i := 1) rfl) rfl ?_
    refine g_iload_n C 6 1 rfl rfl ?_
    refine g_aald C 7 rfl (Or.inr (Or.inr rfl)) hZ.2.1 h (fun hin h => ?_)
    refine g_getq h (fun c3 hqc3 h => ?_)
    have hc3 : TxB Z c3 := hZ.2.2 _ _ hqc3
    refine g_geti C 8 rfl flX2_34 (tx_obj hc3) rfl ?_
    refine g_goto C 9 22 rfl rfl ?_
    exact g_ireturn C 11 rfl h
def T_X2_keyOf : List (Nat × Instr × Nat) := [(0, .aload_n 0, 1), (1, .iload_n 1, 1), (2, .invokevirtual 25, 3), (5, .ifCond .eq 15, 3), (8, .aload_n 0, 1), (9, .getfield 11, 3), (12, .iload_n 1, 1), (13, .aaload, 1), (14, .getfield 29, 3), (17, .goto 5, 3), (20, .ldc 33, 2), (22, .ireturn, 1)]
theorem T_X2_keyOf_ok : gTb cX2_keyOf T_X2_keyOf = true := by decide +kernel
def F_X2_keyOf (Z : List gH) (l1 : Int32) (σ : gS) : Option (Int32 × gS) := mCall (F_X2_has Z l1 σ) (fun r1 s2 => if r1 = 0 then some ((-1000000001), s2) else mIn 14 l1 (mSome (zr Z (nn l1)) (fun c3 => some ((s2 c3 0), s2))))
set_option maxRecDepth 20000 in
set_option maxHeartbeats 4000000 in
theorem M_X2_keyOf {Z : List gH} (hZ : Lay Z) (l1 : Int32) : gMet yX2_keyOf cX2_keyOf 2 (some .int) 3 Z (fun ad => [.ref (ad 1), .int l1]) (F_X2_keyOf Z l1) := by
  refine gMet_intro T_X2_keyOf T_X2_keyOf_ok rfl (fun _ => Nat.le_of_ble_eq_true rfl) (fun g ad σ z C h => ?_)
  show g 0 [(0, .ref (ad 1)), (1, .int l1)] [] σ
  rw [F_X2_keyOf] at h
  refine g_aload_n C 0 0 rfl rfl ?_
  refine g_iload_n C 1 1 rfl rfl ?_
  refine g_callVi C 2 [.int l1] [] rfl (M_X2_has hZ l1) cnX2_25 cwX2_has ciX2_has (hZ.at (i := 1) rfl) rfl rfl rfl rfl (Nat.le_of_ble_eq_true rfl) ⟨Nat.le_of_ble_eq_true rfl, Nat.le_of_ble_eq_true rfl⟩ h (fun r1 s2 h => ?_)
  refine g_if_eq C 3 20 rfl rfl h (fun h => ?_) (fun h => ?_)
  · refine g_ldc C 10 rfl kcX2_33 ?_
    exact g_ireturn C 11 rfl h
  · refine g_aload_n C 4 0 rfl rfl ?_
    refine g_getr (b := 2) C 5 rfl flX2_11 (hZ.at (i := 1) rfl) rfl ?_
    refine g_iload_n C 6 1 rfl rfl ?_
    refine g_aald C 7 rfl (Or.inr (Or.inr rfl)) hZ.2.1 h (fun hin h => ?_)
    refine g_getq h (fun c3 hqc3 h => ?_)
    have hc3 : TxB Z c3 := hZ.2.2 _ _ hqc3
    refine g_geti C 8 rfl flX2_29 (tx_obj hc3) rfl ?_
    refine g_goto C 9 22 rfl rfl ?_
    exact g_ireturn C 11 rfl h
def T_X5_renew : List (Nat × Instr × Nat) := [(0, .aload_n 0, 1), (1, .getfield 9, 3), (4, .iconst 0, 1), (5, .invokestatic 22, 3), (8, .aload_n 0, 1), (9, .iload_n 1, 1), (10, .putfield 15, 3), (13, .aload_n 0, 1), (14, .iload_n 2, 1), (15, .putfield 19, 3), (18, .return_, 1)]
theorem T_X5_renew_ok : gTb cX5_renew T_X5_renew = true := by decide +kernel
def F_X5_renew (Z : List gH) (l0 : Nat) (l1 : Int32) (l2 : Int32) (σ : gS) : Option (Int32 × gS) := mCall (F_JA_fill Z (l0 + 1) 0 σ) (fun r1 s2 => mLet (gu s2 l0 1 l1) (fun s3 => mLet (gu s3 l0 2 l2) (fun s4 => some (0, s4))))
set_option maxRecDepth 20000 in
set_option maxHeartbeats 4000000 in
theorem M_X5_renew {Z : List gH} (hZ : Lay Z) (l0 : Nat) (hl0 : SB l0) (l1 : Int32) (l2 : Int32) : gMet yX5_renew cX5_renew 3 none 2 Z (fun ad => [.ref (ad l0), .int l1, .int l2]) (F_X5_renew Z l0 l1 l2) := by
  refine gMet_intro T_X5_renew T_X5_renew_ok rfl (fun _ => Nat.le_of_ble_eq_true rfl) (fun g ad σ z C h => ?_)
  show g 0 [(0, .ref (ad l0)), (1, .int l1), (2, .int l2)] [] σ
  rw [F_X5_renew] at h
  refine g_aload_n C 0 0 rfl rfl ?_
  refine g_getr (b := (l0 + 1)) C 1 rfl flX5_9 (sb_obj hZ hl0) rfl ?_
  refine g_iconst (v := 0) C 2 rfl rfl ?_
  refine g_callSv C 3 [.ref (ad (l0 + 1)), .int 0] [] rfl (M_JA_fill hZ (l0 + 1) (ia_of (sb_places hZ hl0)) 0) cnX5_22 cwJA_fill csJA_fill rfl rfl rfl (Nat.le_of_ble_eq_true rfl) ⟨Nat.le_of_ble_eq_true rfl, Nat.le_of_ble_eq_true rfl⟩ h (fun r1 s2 h => ?_)
  refine g_aload_n C 4 0 rfl rfl ?_
  refine g_iload_n C 5 1 rfl rfl ?_
  refine g_put C 6 rfl fpX5_15 (sb_obj hZ hl0) rfl rfl rfl h (fun s3 h => ?_)
  refine g_aload_n C 7 0 rfl rfl ?_
  refine g_iload_n C 8 2 rfl rfl ?_
  refine g_put C 9 rfl fpX5_19 (sb_obj hZ hl0) rfl rfl rfl h (fun s4 h => ?_)
  exact g_return C 10 rfl h
def T_X5_hasRow : List (Nat × Instr × Nat) := [(0, .iload_n 2, 1), (1, .iconst 0, 1), (2, .aload_n 0, 1), (3, .getfield 19, 3), (6, .invokestatic 34, 3), (9, .ifCond .eq 21, 3), (12, .iload_n 1, 1), (13, .iconst 0, 1), (14, .aload_n 0, 1), (15, .getfield 19, 3), (18, .iload_n 2, 1), (19, .isub, 1), (20, .invokestatic 34, 3), (23, .ifCond .eq 7, 3), (26, .iconst 1, 1), (27, .goto 4, 3), (30, .iconst 0, 1), (31, .ireturn, 1)]
theorem T_X5_hasRow_ok : gTb cX5_hasRow T_X5_hasRow = true := by decide +kernel
def F_X5_hasRow (Z : List gH) (l0 : Nat) (l1 : Int32) (l2 : Int32) (σ : gS) : Option (Int32 × gS) := mCall (F_X9_within Z l2 0 (σ l0 2) σ) (fun r1 s2 => if r1 = 0 then mZ 0 s2 else mCall (F_X9_within Z l1 0 ((s2 l0 2) - l2) s2) (fun r3 s4 => if r3 = 0 then mZ 0 s4 else mZ 1 s4))
set_option maxRecDepth 20000 in
set_option maxHeartbeats 4000000 in
theorem M_X5_hasRow {Z : List gH} (hZ : Lay Z) (l0 : Nat) (hl0 : SB l0) (l1 : Int32) (l2 : Int32) : gMet yX5_hasRow cX5_hasRow 3 (some .boolean) 2 Z (fun ad => [.ref (ad l0), .int l1, .int l2]) (F_X5_hasRow Z l0 l1 l2) := by
  refine gMet_intro T_X5_hasRow T_X5_hasRow_ok rfl (fun _ => Nat.le_of_ble_eq_true rfl) (fun g ad σ z C h => ?_)
  show g 0 [(0, .ref (ad l0)), (1, .int l1), (2, .int l2)] [] σ
  rw [F_X5_hasRow] at h
  refine g_iload_n C 0 2 rfl rfl ?_
  refine g_iconst (v := 0) C 1 rfl rfl ?_
  refine g_aload_n C 2 0 rfl rfl ?_
  refine g_geti C 3 rfl flX5_19 (sb_obj hZ hl0) rfl ?_
  refine g_callSi C 4 [.int l2, .int 0, .int (σ l0 2)] [] rfl (M_X9_within hZ l2 0 (σ l0 2)) cnX5_34 cwX9_within csX9_within rfl rfl rfl (Nat.le_of_ble_eq_true rfl) ⟨Nat.le_of_ble_eq_true rfl, Nat.le_of_ble_eq_true rfl⟩ h (fun r1 s2 h => ?_)
  refine g_if_eq C 5 30 rfl rfl h (fun h => ?_) (fun h => ?_)
  · refine g_iconst (v := 0) C 16 rfl rfl ?_
    exact g_zreturn C 17 rfl h
  · refine g_iload_n C 6 1 rfl rfl ?_
    refine g_iconst (v := 0) C 7 rfl rfl ?_
    refine g_aload_n C 8 0 rfl rfl ?_
    refine g_geti C 9 rfl flX5_19 (sb_obj hZ hl0) rfl ?_
    refine g_iload_n C 10 2 rfl rfl ?_
    refine g_isub C 11 rfl ?_
    refine g_callSi C 12 [.int l1, .int 0, .int ((s2 l0 2) - l2)] [] rfl (M_X9_within hZ l1 0 ((s2 l0 2) - l2)) cnX5_34 cwX9_within csX9_within rfl rfl rfl (Nat.le_of_ble_eq_true rfl) ⟨Nat.le_of_ble_eq_true rfl, Nat.le_of_ble_eq_true rfl⟩ h (fun r3 s4 h => ?_)
    refine g_if_eq C 13 30 rfl rfl h (fun h => ?_) (fun h => ?_)
    · refine g_iconst (v := 0) C 16 rfl rfl ?_
      exact g_zreturn C 17 rfl h
    · refine g_iconst (v := 1) C 14 rfl rfl ?_
      refine g_goto C 15 31 rfl rfl ?_
      exact g_zreturn C 17 rfl h
def T_X5_becomeAs : List (Nat × Instr × Nat) := [(0, .aload_n 1, 1), (1, .getfield 9, 3), (4, .iconst 0, 1), (5, .aload_n 0, 1), (6, .getfield 9, 3), (9, .iconst 0, 1), (10, .bipush 24, 2), (12, .invokestatic 28, 3), (15, .aload_n 0, 1), (16, .aload_n 1, 1), (17, .getfield 15, 3), (20, .putfield 15, 3), (23, .aload_n 0, 1), (24, .aload_n 1, 1), (25, .getfield 19, 3), (28, .putfield 19, 3), (31, .return_, 1)]
theorem T_X5_becomeAs_ok : gTb cX5_becomeAs T_X5_becomeAs = true := by decide +kernel
def F_X5_becomeAs (Z : List gH) (l0 : Nat) (l1 : Nat) (σ : gS) : Option (Int32 × gS) := mCopy 24 24 σ (l1 + 1) 0 (l0 + 1) 0 24 (fun s1 => mLet (gu s1 l0 1 (s1 l1 1)) (fun s2 => mLet (gu s2 l0 2 (s2 l1 2)) (fun s3 => some (0, s3))))
set_option maxRecDepth 20000 in
set_option maxHeartbeats 4000000 in
theorem M_X5_becomeAs {Z : List gH} (hZ : Lay Z) (l0 : Nat) (hl0 : SB l0) (l1 : Nat) (hl1 : SB l1) : gMet yX5_becomeAs cX5_becomeAs 2 none 1 Z (fun ad => [.ref (ad l0), .ref (ad l1)]) (F_X5_becomeAs Z l0 l1) := by
  refine gMet_intro T_X5_becomeAs T_X5_becomeAs_ok rfl (fun _ => Nat.le_of_ble_eq_true rfl) (fun g ad σ z C h => ?_)
  show g 0 [(0, .ref (ad l0)), (1, .ref (ad l1))] [] σ
  rw [F_X5_becomeAs] at h
  refine g_aload_n C 0 1 rfl rfl ?_
  refine g_getr (b := (l1 + 1)) C 1 rfl flX5_9 (sb_obj hZ hl1) rfl ?_
  refine g_iconst (v := 0) C 2 rfl rfl ?_
  refine g_aload_n C 3 0 rfl rfl ?_
  refine g_getr (b := (l0 + 1)) C 4 rfl flX5_9 (sb_obj hZ hl0) rfl ?_
  refine g_iconst (v := 0) C 5 rfl rfl ?_
  refine g_bipush (v := 24) C 6 rfl rfl ?_
  refine g_copy C 7 rfl cnX5_28 wm_copy ⟨Nat.le_of_ble_eq_true rfl, Nat.le_of_ble_eq_true rfl⟩ (sb_places hZ hl1) (sb_places hZ hl0) h (fun s1 h => ?_)
  refine g_aload_n C 8 0 rfl rfl ?_
  refine g_aload_n C 9 1 rfl rfl ?_
  refine g_geti C 10 rfl flX5_15 (sb_obj hZ hl1) rfl ?_
  refine g_put C 11 rfl fpX5_15 (sb_obj hZ hl0) rfl rfl rfl h (fun s2 h => ?_)
  refine g_aload_n C 12 0 rfl rfl ?_
  refine g_aload_n C 13 1 rfl rfl ?_
  refine g_geti C 14 rfl flX5_19 (sb_obj hZ hl1) rfl ?_
  refine g_put C 15 rfl fpX5_19 (sb_obj hZ hl0) rfl rfl rfl h (fun s3 h => ?_)
  exact g_return C 16 rfl h
end
