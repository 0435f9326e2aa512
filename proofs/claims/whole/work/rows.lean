section
-- ===== PART A: goes FIRST, ahead of the names: the tables' words, and 'selects' of the private methods out of them =====
/-- a private method of a class that the tables say can be made, by its rows of tables_1 -/
def lw_okq (q : MethodName × Nat) : Prop := (q.1.cls ≠ "java/lang/invoke/MethodHandle" ∧ q.1.cls ≠ "java/lang/invoke/VarHandle") ∧ Cond.instantiable q.1.cls q.2 ∈ tables_1 ∧ Cond.privateMethod q.1 ∈ tables_1 ∧ Cond.instanceMethod q.1 ∈ tables_1
theorem lw_p0 : lw_okq (⟨"CopiedFire", "isThing", "(I)Z"⟩, 13) := ⟨⟨by decide +kernel, by decide +kernel⟩, List.mem_of_getElem? (i := 22) (by decide +kernel), List.mem_of_getElem? (i := 309) (by decide +kernel), List.mem_of_getElem? (i := 310) (by decide +kernel)⟩
theorem lw_p1 : lw_okq (⟨"CopiedFire$Laws", "has", "(I)Z"⟩, 2) := ⟨⟨by decide +kernel, by decide +kernel⟩, List.mem_of_getElem? (i := 30) (by decide +kernel), List.mem_of_getElem? (i := 321) (by decide +kernel), List.mem_of_getElem? (i := 322) (by decide +kernel)⟩
theorem lw_p2 : lw_okq (⟨"CopiedFire$House", "draw", "()I"⟩, 19) := ⟨⟨by decide +kernel, by decide +kernel⟩, List.mem_of_getElem? (i := 46) (by decide +kernel), List.mem_of_getElem? (i := 380) (by decide +kernel), List.mem_of_getElem? (i := 381) (by decide +kernel)⟩
theorem lw_p3 : lw_okq (⟨"CopiedFire", "isVisitor", "(I)Z"⟩, 13) := ⟨⟨by decide +kernel, by decide +kernel⟩, List.mem_of_getElem? (i := 22) (by decide +kernel), List.mem_of_getElem? (i := 429) (by decide +kernel), List.mem_of_getElem? (i := 430) (by decide +kernel)⟩
theorem lw_p4 : lw_okq (⟨"CopiedFire$Seating", "gatherLikes", "(LCopiedFire$House;)V"⟩, 2) := ⟨⟨by decide +kernel, by decide +kernel⟩, List.mem_of_getElem? (i := 133) (by decide +kernel), List.mem_of_getElem? (i := 441) (by decide +kernel), List.mem_of_getElem? (i := 442) (by decide +kernel)⟩
theorem lw_p5 : lw_okq (⟨"CopiedFire$Seating", "mostSeated", "(III)I"⟩, 2) := ⟨⟨by decide +kernel, by decide +kernel⟩, List.mem_of_getElem? (i := 133) (by decide +kernel), List.mem_of_getElem? (i := 445) (by decide +kernel), List.mem_of_getElem? (i := 446) (by decide +kernel)⟩
theorem lw_p6 : lw_okq (⟨"CopiedFire$Seating", "leastRoom", "(IIII)I"⟩, 2) := ⟨⟨by decide +kernel, by decide +kernel⟩, List.mem_of_getElem? (i := 133) (by decide +kernel), List.mem_of_getElem? (i := 456) (by decide +kernel), List.mem_of_getElem? (i := 457) (by decide +kernel)⟩
theorem lw_p7 : lw_okq (⟨"CopiedFire$House", "burnThings", "()V"⟩, 19) := ⟨⟨by decide +kernel, by decide +kernel⟩, List.mem_of_getElem? (i := 46) (by decide +kernel), List.mem_of_getElem? (i := 479) (by decide +kernel), List.mem_of_getElem? (i := 480) (by decide +kernel)⟩
theorem lw_p8 : lw_okq (⟨"CopiedFire$House", "spreadHeat", "()V"⟩, 19) := ⟨⟨by decide +kernel, by decide +kernel⟩, List.mem_of_getElem? (i := 46) (by decide +kernel), List.mem_of_getElem? (i := 486) (by decide +kernel), List.mem_of_getElem? (i := 487) (by decide +kernel)⟩
theorem lw_p9 : lw_okq (⟨"CopiedFire$House", "coolRooms", "()V"⟩, 19) := ⟨⟨by decide +kernel, by decide +kernel⟩, List.mem_of_getElem? (i := 46) (by decide +kernel), List.mem_of_getElem? (i := 490) (by decide +kernel), List.mem_of_getElem? (i := 491) (by decide +kernel)⟩
theorem lw_p10 : lw_okq (⟨"CopiedFire$House", "lightThings", "()V"⟩, 19) := ⟨⟨by decide +kernel, by decide +kernel⟩, List.mem_of_getElem? (i := 46) (by decide +kernel), List.mem_of_getElem? (i := 495) (by decide +kernel), List.mem_of_getElem? (i := 496) (by decide +kernel)⟩
theorem lw_p11 : lw_okq (⟨"CopiedFire$House", "blowWind", "()V"⟩, 19) := ⟨⟨by decide +kernel, by decide +kernel⟩, List.mem_of_getElem? (i := 46) (by decide +kernel), List.mem_of_getElem? (i := 500) (by decide +kernel), List.mem_of_getElem? (i := 501) (by decide +kernel)⟩
theorem lw_p12 : lw_okq (⟨"CopiedFire", "thinkOn", "(II)I"⟩, 13) := ⟨⟨by decide +kernel, by decide +kernel⟩, List.mem_of_getElem? (i := 22) (by decide +kernel), List.mem_of_getElem? (i := 529) (by decide +kernel), List.mem_of_getElem? (i := 530) (by decide +kernel)⟩
theorem lw_p13 : lw_okq (⟨"CopiedFire", "canHaveBegunBy", "(ILCopiedFire$Sheet;)Z"⟩, 13) := ⟨⟨by decide +kernel, by decide +kernel⟩, List.mem_of_getElem? (i := 22) (by decide +kernel), List.mem_of_getElem? (i := 565) (by decide +kernel), List.mem_of_getElem? (i := 566) (by decide +kernel)⟩
theorem lw_p14 : lw_okq (⟨"CopiedFire", "sumDifferences", "(LCopiedFire$Sheet;)V"⟩, 13) := ⟨⟨by decide +kernel, by decide +kernel⟩, List.mem_of_getElem? (i := 22) (by decide +kernel), List.mem_of_getElem? (i := 585) (by decide +kernel), List.mem_of_getElem? (i := 586) (by decide +kernel)⟩
theorem lw_p15 : lw_okq (⟨"CopiedFire$Reader", "goOn", "()V"⟩, 9) := ⟨⟨by decide +kernel, by decide +kernel⟩, List.mem_of_getElem? (i := 163) (by decide +kernel), List.mem_of_getElem? (i := 621) (by decide +kernel), List.mem_of_getElem? (i := 622) (by decide +kernel)⟩
def lw_privs_1 : List (MethodName × Nat) := [(⟨"CopiedFire", "isThing", "(I)Z"⟩, 13), (⟨"CopiedFire$Laws", "has", "(I)Z"⟩, 2), (⟨"CopiedFire$House", "draw", "()I"⟩, 19), (⟨"CopiedFire", "isVisitor", "(I)Z"⟩, 13), (⟨"CopiedFire$Seating", "gatherLikes", "(LCopiedFire$House;)V"⟩, 2), (⟨"CopiedFire$Seating", "mostSeated", "(III)I"⟩, 2), (⟨"CopiedFire$Seating", "leastRoom", "(IIII)I"⟩, 2), (⟨"CopiedFire$House", "burnThings", "()V"⟩, 19), (⟨"CopiedFire$House", "spreadHeat", "()V"⟩, 19), (⟨"CopiedFire$House", "coolRooms", "()V"⟩, 19), (⟨"CopiedFire$House", "lightThings", "()V"⟩, 19), (⟨"CopiedFire$House", "blowWind", "()V"⟩, 19), (⟨"CopiedFire", "thinkOn", "(II)I"⟩, 13), (⟨"CopiedFire", "canHaveBegunBy", "(ILCopiedFire$Sheet;)Z"⟩, 13), (⟨"CopiedFire", "sumDifferences", "(LCopiedFire$Sheet;)V"⟩, 13), (⟨"CopiedFire$Reader", "goOn", "()V"⟩, 9)]
theorem lw_r1 : ∀ q ∈ lw_privs_1, lw_okq q := List.forall_mem_cons.mpr ⟨lw_p0, List.forall_mem_cons.mpr ⟨lw_p1, List.forall_mem_cons.mpr ⟨lw_p2, List.forall_mem_cons.mpr ⟨lw_p3, List.forall_mem_cons.mpr ⟨lw_p4, List.forall_mem_cons.mpr ⟨lw_p5, List.forall_mem_cons.mpr ⟨lw_p6, List.forall_mem_cons.mpr ⟨lw_p7, List.forall_mem_cons.mpr ⟨lw_p8, List.forall_mem_cons.mpr ⟨lw_p9, List.forall_mem_cons.mpr ⟨lw_p10, List.forall_mem_cons.mpr ⟨lw_p11, List.forall_mem_cons.mpr ⟨lw_p12, List.forall_mem_cons.mpr ⟨lw_p13, List.forall_mem_cons.mpr ⟨lw_p14, List.forall_mem_cons.mpr ⟨lw_p15, fun _ h => absurd h List.not_mem_nil⟩⟩⟩⟩⟩⟩⟩⟩⟩⟩⟩⟩⟩⟩⟩⟩
theorem lw_p16 : lw_okq (⟨"CopiedFire$Reader", "endOfRow", "(III)I"⟩, 9) := ⟨⟨by decide +kernel, by decide +kernel⟩, List.mem_of_getElem? (i := 163) (by decide +kernel), List.mem_of_getElem? (i := 625) (by decide +kernel), List.mem_of_getElem? (i := 626) (by decide +kernel)⟩
theorem lw_p17 : lw_okq (⟨"CopiedFire$Reader", "keyRead", "()I"⟩, 9) := ⟨⟨by decide +kernel, by decide +kernel⟩, List.mem_of_getElem? (i := 163) (by decide +kernel), List.mem_of_getElem? (i := 630) (by decide +kernel), List.mem_of_getElem? (i := 631) (by decide +kernel)⟩
theorem lw_p18 : lw_okq (⟨"CopiedFire$Reader", "isWord", "(Ljava/lang/String;)Z"⟩, 9) := ⟨⟨by decide +kernel, by decide +kernel⟩, List.mem_of_getElem? (i := 163) (by decide +kernel), List.mem_of_getElem? (i := 635) (by decide +kernel), List.mem_of_getElem? (i := 636) (by decide +kernel)⟩
theorem lw_p19 : lw_okq (⟨"CopiedFire$Reader", "stop", "()V"⟩, 9) := ⟨⟨by decide +kernel, by decide +kernel⟩, List.mem_of_getElem? (i := 163) (by decide +kernel), List.mem_of_getElem? (i := 689) (by decide +kernel), List.mem_of_getElem? (i := 690) (by decide +kernel)⟩
theorem lw_p20 : lw_okq (⟨"CopiedFire$Reader", "readLevel", "(III)V"⟩, 9) := ⟨⟨by decide +kernel, by decide +kernel⟩, List.mem_of_getElem? (i := 163) (by decide +kernel), List.mem_of_getElem? (i := 693) (by decide +kernel), List.mem_of_getElem? (i := 694) (by decide +kernel)⟩
theorem lw_p21 : lw_okq (⟨"CopiedFire$Reader", "readPiece", "(II)V"⟩, 9) := ⟨⟨by decide +kernel, by decide +kernel⟩, List.mem_of_getElem? (i := 163) (by decide +kernel), List.mem_of_getElem? (i := 697) (by decide +kernel), List.mem_of_getElem? (i := 698) (by decide +kernel)⟩
theorem lw_p22 : lw_okq (⟨"CopiedFire$Reader", "nameRead", "()I"⟩, 9) := ⟨⟨by decide +kernel, by decide +kernel⟩, List.mem_of_getElem? (i := 163) (by decide +kernel), List.mem_of_getElem? (i := 701) (by decide +kernel), List.mem_of_getElem? (i := 702) (by decide +kernel)⟩
theorem lw_p23 : lw_okq (⟨"CopiedFire$Reader", "addOperand", "(I)V"⟩, 9) := ⟨⟨by decide +kernel, by decide +kernel⟩, List.mem_of_getElem? (i := 163) (by decide +kernel), List.mem_of_getElem? (i := 763) (by decide +kernel), List.mem_of_getElem? (i := 764) (by decide +kernel)⟩
theorem lw_p24 : lw_okq (⟨"CopiedFire$Reader", "addStep", "(I)V"⟩, 9) := ⟨⟨by decide +kernel, by decide +kernel⟩, List.mem_of_getElem? (i := 163) (by decide +kernel), List.mem_of_getElem? (i := 767) (by decide +kernel), List.mem_of_getElem? (i := 768) (by decide +kernel)⟩
theorem lw_p25 : lw_okq (⟨"CopiedFire$Reader", "numberRead", "()I"⟩, 9) := ⟨⟨by decide +kernel, by decide +kernel⟩, List.mem_of_getElem? (i := 163) (by decide +kernel), List.mem_of_getElem? (i := 771) (by decide +kernel), List.mem_of_getElem? (i := 772) (by decide +kernel)⟩
theorem lw_p26 : lw_okq (⟨"CopiedFire$Reader", "isSignOf", "(I)Z"⟩, 9) := ⟨⟨by decide +kernel, by decide +kernel⟩, List.mem_of_getElem? (i := 163) (by decide +kernel), List.mem_of_getElem? (i := 775) (by decide +kernel), List.mem_of_getElem? (i := 776) (by decide +kernel)⟩
theorem lw_p27 : lw_okq (⟨"CopiedFire", "findingFor", "(II)I"⟩, 13) := ⟨⟨by decide +kernel, by decide +kernel⟩, List.mem_of_getElem? (i := 22) (by decide +kernel), List.mem_of_getElem? (i := 888) (by decide +kernel), List.mem_of_getElem? (i := 889) (by decide +kernel)⟩
theorem lw_p28 : lw_okq (⟨"CopiedFireModel", "comes", "(IIII)I"⟩, 37) := ⟨⟨by decide +kernel, by decide +kernel⟩, List.mem_of_getElem? (i := 921) (by decide +kernel), List.mem_of_getElem? (i := 1056) (by decide +kernel), List.mem_of_getElem? (i := 1057) (by decide +kernel)⟩
theorem lw_p29 : lw_okq (⟨"CopiedFireModel", "put", "(III)V"⟩, 37) := ⟨⟨by decide +kernel, by decide +kernel⟩, List.mem_of_getElem? (i := 921) (by decide +kernel), List.mem_of_getElem? (i := 1060) (by decide +kernel), List.mem_of_getElem? (i := 1061) (by decide +kernel)⟩
theorem lw_p30 : lw_okq (⟨"CopiedFireModel", "isThing", "(I)Z"⟩, 37) := ⟨⟨by decide +kernel, by decide +kernel⟩, List.mem_of_getElem? (i := 921) (by decide +kernel), List.mem_of_getElem? (i := 1068) (by decide +kernel), List.mem_of_getElem? (i := 1069) (by decide +kernel)⟩
theorem lw_p31 : lw_okq (⟨"CopiedFireModel", "of", "(II)I"⟩, 37) := ⟨⟨by decide +kernel, by decide +kernel⟩, List.mem_of_getElem? (i := 921) (by decide +kernel), List.mem_of_getElem? (i := 1072) (by decide +kernel), List.mem_of_getElem? (i := 1073) (by decide +kernel)⟩
def lw_privs_2 : List (MethodName × Nat) := [(⟨"CopiedFire$Reader", "endOfRow", "(III)I"⟩, 9), (⟨"CopiedFire$Reader", "keyRead", "()I"⟩, 9), (⟨"CopiedFire$Reader", "isWord", "(Ljava/lang/String;)Z"⟩, 9), (⟨"CopiedFire$Reader", "stop", "()V"⟩, 9), (⟨"CopiedFire$Reader", "readLevel", "(III)V"⟩, 9), (⟨"CopiedFire$Reader", "readPiece", "(II)V"⟩, 9), (⟨"CopiedFire$Reader", "nameRead", "()I"⟩, 9), (⟨"CopiedFire$Reader", "addOperand", "(I)V"⟩, 9), (⟨"CopiedFire$Reader", "addStep", "(I)V"⟩, 9), (⟨"CopiedFire$Reader", "numberRead", "()I"⟩, 9), (⟨"CopiedFire$Reader", "isSignOf", "(I)Z"⟩, 9), (⟨"CopiedFire", "findingFor", "(II)I"⟩, 13), (⟨"CopiedFireModel", "comes", "(IIII)I"⟩, 37), (⟨"CopiedFireModel", "put", "(III)V"⟩, 37), (⟨"CopiedFireModel", "isThing", "(I)Z"⟩, 37), (⟨"CopiedFireModel", "of", "(II)I"⟩, 37)]
theorem lw_r2 : ∀ q ∈ lw_privs_2, lw_okq q := List.forall_mem_cons.mpr ⟨lw_p16, List.forall_mem_cons.mpr ⟨lw_p17, List.forall_mem_cons.mpr ⟨lw_p18, List.forall_mem_cons.mpr ⟨lw_p19, List.forall_mem_cons.mpr ⟨lw_p20, List.forall_mem_cons.mpr ⟨lw_p21, List.forall_mem_cons.mpr ⟨lw_p22, List.forall_mem_cons.mpr ⟨lw_p23, List.forall_mem_cons.mpr ⟨lw_p24, List.forall_mem_cons.mpr ⟨lw_p25, List.forall_mem_cons.mpr ⟨lw_p26, List.forall_mem_cons.mpr ⟨lw_p27, List.forall_mem_cons.mpr ⟨lw_p28, List.forall_mem_cons.mpr ⟨lw_p29, List.forall_mem_cons.mpr ⟨lw_p30, List.forall_mem_cons.mpr ⟨lw_p31, fun _ h => absurd h List.not_mem_nil⟩⟩⟩⟩⟩⟩⟩⟩⟩⟩⟩⟩⟩⟩⟩⟩
theorem lw_p32 : lw_okq (⟨"CopiedFireModel", "burnsOf", "(I)I"⟩, 37) := ⟨⟨by decide +kernel, by decide +kernel⟩, List.mem_of_getElem? (i := 921) (by decide +kernel), List.mem_of_getElem? (i := 1076) (by decide +kernel), List.mem_of_getElem? (i := 1077) (by decide +kernel)⟩
theorem lw_p33 : lw_okq (⟨"CopiedFireModel", "counts", "(I)I"⟩, 37) := ⟨⟨by decide +kernel, by decide +kernel⟩, List.mem_of_getElem? (i := 921) (by decide +kernel), List.mem_of_getElem? (i := 1080) (by decide +kernel), List.mem_of_getElem? (i := 1081) (by decide +kernel)⟩
theorem lw_p34 : lw_okq (⟨"CopiedFireModel", "worksOut", "(I)I"⟩, 37) := ⟨⟨by decide +kernel, by decide +kernel⟩, List.mem_of_getElem? (i := 921) (by decide +kernel), List.mem_of_getElem? (i := 1084) (by decide +kernel), List.mem_of_getElem? (i := 1085) (by decide +kernel)⟩
theorem lw_p35 : lw_okq (⟨"CopiedFireModel", "givesOf", "(II)I"⟩, 37) := ⟨⟨by decide +kernel, by decide +kernel⟩, List.mem_of_getElem? (i := 921) (by decide +kernel), List.mem_of_getElem? (i := 1094) (by decide +kernel), List.mem_of_getElem? (i := 1095) (by decide +kernel)⟩
theorem lw_p36 : lw_okq (⟨"CopiedFireModel", "catchesOf", "(I)I"⟩, 37) := ⟨⟨by decide +kernel, by decide +kernel⟩, List.mem_of_getElem? (i := 921) (by decide +kernel), List.mem_of_getElem? (i := 1098) (by decide +kernel), List.mem_of_getElem? (i := 1099) (by decide +kernel)⟩
theorem lw_p37 : lw_okq (⟨"CopiedFireModel", "worthOf", "(I)I"⟩, 37) := ⟨⟨by decide +kernel, by decide +kernel⟩, List.mem_of_getElem? (i := 921) (by decide +kernel), List.mem_of_getElem? (i := 1102) (by decide +kernel), List.mem_of_getElem? (i := 1103) (by decide +kernel)⟩
theorem lw_p38 : lw_okq (⟨"CopiedFireModel", "swaps", "(II)I"⟩, 37) := ⟨⟨by decide +kernel, by decide +kernel⟩, List.mem_of_getElem? (i := 921) (by decide +kernel), List.mem_of_getElem? (i := 1118) (by decide +kernel), List.mem_of_getElem? (i := 1119) (by decide +kernel)⟩
theorem lw_p39 : lw_okq (⟨"CopiedFireModel", "draw", "()I"⟩, 37) := ⟨⟨by decide +kernel, by decide +kernel⟩, List.mem_of_getElem? (i := 921) (by decide +kernel), List.mem_of_getElem? (i := 1130) (by decide +kernel), List.mem_of_getElem? (i := 1131) (by decide +kernel)⟩
theorem lw_p40 : lw_okq (⟨"CopiedFireModel", "leaves", "(III)I"⟩, 37) := ⟨⟨by decide +kernel, by decide +kernel⟩, List.mem_of_getElem? (i := 921) (by decide +kernel), List.mem_of_getElem? (i := 1154) (by decide +kernel), List.mem_of_getElem? (i := 1155) (by decide +kernel)⟩
theorem lw_p41 : lw_okq (⟨"CopiedFireModel", "gives", "(III)V"⟩, 37) := ⟨⟨by decide +kernel, by decide +kernel⟩, List.mem_of_getElem? (i := 921) (by decide +kernel), List.mem_of_getElem? (i := 1178) (by decide +kernel), List.mem_of_getElem? (i := 1179) (by decide +kernel)⟩
theorem lw_p42 : lw_okq (⟨"CopiedFireModel", "goesOn", "(I)V"⟩, 37) := ⟨⟨by decide +kernel, by decide +kernel⟩, List.mem_of_getElem? (i := 921) (by decide +kernel), List.mem_of_getElem? (i := 1191) (by decide +kernel), List.mem_of_getElem? (i := 1192) (by decide +kernel)⟩
theorem lw_p43 : lw_okq (⟨"CopiedFireModel", "minute", "()V"⟩, 37) := ⟨⟨by decide +kernel, by decide +kernel⟩, List.mem_of_getElem? (i := 921) (by decide +kernel), List.mem_of_getElem? (i := 1195) (by decide +kernel), List.mem_of_getElem? (i := 1196) (by decide +kernel)⟩
theorem lw_p44 : lw_okq (⟨"CopiedFireModel", "burns", "(I)V"⟩, 37) := ⟨⟨by decide +kernel, by decide +kernel⟩, List.mem_of_getElem? (i := 921) (by decide +kernel), List.mem_of_getElem? (i := 1199) (by decide +kernel), List.mem_of_getElem? (i := 1200) (by decide +kernel)⟩
theorem lw_p45 : lw_okq (⟨"CopiedFireModel", "evens", "()V"⟩, 37) := ⟨⟨by decide +kernel, by decide +kernel⟩, List.mem_of_getElem? (i := 921) (by decide +kernel), List.mem_of_getElem? (i := 1203) (by decide +kernel), List.mem_of_getElem? (i := 1204) (by decide +kernel)⟩
theorem lw_p46 : lw_okq (⟨"CopiedFireModel", "catches", "()V"⟩, 37) := ⟨⟨by decide +kernel, by decide +kernel⟩, List.mem_of_getElem? (i := 921) (by decide +kernel), List.mem_of_getElem? (i := 1207) (by decide +kernel), List.mem_of_getElem? (i := 1208) (by decide +kernel)⟩
theorem lw_p47 : lw_okq (⟨"CopiedFireModel", "blows", "()V"⟩, 37) := ⟨⟨by decide +kernel, by decide +kernel⟩, List.mem_of_getElem? (i := 921) (by decide +kernel), List.mem_of_getElem? (i := 1211) (by decide +kernel), List.mem_of_getElem? (i := 1212) (by decide +kernel)⟩
def lw_privs_3 : List (MethodName × Nat) := [(⟨"CopiedFireModel", "burnsOf", "(I)I"⟩, 37), (⟨"CopiedFireModel", "counts", "(I)I"⟩, 37), (⟨"CopiedFireModel", "worksOut", "(I)I"⟩, 37), (⟨"CopiedFireModel", "givesOf", "(II)I"⟩, 37), (⟨"CopiedFireModel", "catchesOf", "(I)I"⟩, 37), (⟨"CopiedFireModel", "worthOf", "(I)I"⟩, 37), (⟨"CopiedFireModel", "swaps", "(II)I"⟩, 37), (⟨"CopiedFireModel", "draw", "()I"⟩, 37), (⟨"CopiedFireModel", "leaves", "(III)I"⟩, 37), (⟨"CopiedFireModel", "gives", "(III)V"⟩, 37), (⟨"CopiedFireModel", "goesOn", "(I)V"⟩, 37), (⟨"CopiedFireModel", "minute", "()V"⟩, 37), (⟨"CopiedFireModel", "burns", "(I)V"⟩, 37), (⟨"CopiedFireModel", "evens", "()V"⟩, 37), (⟨"CopiedFireModel", "catches", "()V"⟩, 37), (⟨"CopiedFireModel", "blows", "()V"⟩, 37)]
theorem lw_r3 : ∀ q ∈ lw_privs_3, lw_okq q := List.forall_mem_cons.mpr ⟨lw_p32, List.forall_mem_cons.mpr ⟨lw_p33, List.forall_mem_cons.mpr ⟨lw_p34, List.forall_mem_cons.mpr ⟨lw_p35, List.forall_mem_cons.mpr ⟨lw_p36, List.forall_mem_cons.mpr ⟨lw_p37, List.forall_mem_cons.mpr ⟨lw_p38, List.forall_mem_cons.mpr ⟨lw_p39, List.forall_mem_cons.mpr ⟨lw_p40, List.forall_mem_cons.mpr ⟨lw_p41, List.forall_mem_cons.mpr ⟨lw_p42, List.forall_mem_cons.mpr ⟨lw_p43, List.forall_mem_cons.mpr ⟨lw_p44, List.forall_mem_cons.mpr ⟨lw_p45, List.forall_mem_cons.mpr ⟨lw_p46, List.forall_mem_cons.mpr ⟨lw_p47, fun _ h => absurd h List.not_mem_nil⟩⟩⟩⟩⟩⟩⟩⟩⟩⟩⟩⟩⟩⟩⟩⟩
theorem lw_p48 : lw_okq (⟨"CopiedFireModel", "lit", "()I"⟩, 37) := ⟨⟨by decide +kernel, by decide +kernel⟩, List.mem_of_getElem? (i := 921) (by decide +kernel), List.mem_of_getElem? (i := 1219) (by decide +kernel), List.mem_of_getElem? (i := 1220) (by decide +kernel)⟩
theorem lw_p49 : lw_okq (⟨"CopiedFireModel", "allHeat", "()I"⟩, 37) := ⟨⟨by decide +kernel, by decide +kernel⟩, List.mem_of_getElem? (i := 921) (by decide +kernel), List.mem_of_getElem? (i := 1223) (by decide +kernel), List.mem_of_getElem? (i := 1224) (by decide +kernel)⟩
theorem lw_p50 : lw_okq (⟨"CopiedFireModel", "thinks", "()V"⟩, 37) := ⟨⟨by decide +kernel, by decide +kernel⟩, List.mem_of_getElem? (i := 921) (by decide +kernel), List.mem_of_getElem? (i := 1231) (by decide +kernel), List.mem_of_getElem? (i := 1232) (by decide +kernel)⟩
theorem lw_p51 : lw_okq (⟨"CopiedFireModel", "putsBack", "()V"⟩, 37) := ⟨⟨by decide +kernel, by decide +kernel⟩, List.mem_of_getElem? (i := 921) (by decide +kernel), List.mem_of_getElem? (i := 1238) (by decide +kernel), List.mem_of_getElem? (i := 1239) (by decide +kernel)⟩
theorem lw_p52 : lw_okq (⟨"CopiedFireModel", "burntBy", "(I)I"⟩, 37) := ⟨⟨by decide +kernel, by decide +kernel⟩, List.mem_of_getElem? (i := 921) (by decide +kernel), List.mem_of_getElem? (i := 1254) (by decide +kernel), List.mem_of_getElem? (i := 1255) (by decide +kernel)⟩
theorem lw_p53 : lw_okq (⟨"CopiedFireModel", "isSo", "(I)Z"⟩, 37) := ⟨⟨by decide +kernel, by decide +kernel⟩, List.mem_of_getElem? (i := 921) (by decide +kernel), List.mem_of_getElem? (i := 1274) (by decide +kernel), List.mem_of_getElem? (i := 1275) (by decide +kernel)⟩
theorem lw_p54 : lw_okq (⟨"CopiedFireModel", "go", "()V"⟩, 37) := ⟨⟨by decide +kernel, by decide +kernel⟩, List.mem_of_getElem? (i := 921) (by decide +kernel), List.mem_of_getElem? (i := 1305) (by decide +kernel), List.mem_of_getElem? (i := 1306) (by decide +kernel)⟩
theorem lw_p55 : lw_okq (⟨"CopiedFireModel", "isLetter", "(I)Z"⟩, 37) := ⟨⟨by decide +kernel, by decide +kernel⟩, List.mem_of_getElem? (i := 921) (by decide +kernel), List.mem_of_getElem? (i := 1309) (by decide +kernel), List.mem_of_getElem? (i := 1310) (by decide +kernel)⟩
theorem lw_p56 : lw_okq (⟨"CopiedFireModel", "isFigure", "(I)Z"⟩, 37) := ⟨⟨by decide +kernel, by decide +kernel⟩, List.mem_of_getElem? (i := 921) (by decide +kernel), List.mem_of_getElem? (i := 1313) (by decide +kernel), List.mem_of_getElem? (i := 1314) (by decide +kernel)⟩
theorem lw_p57 : lw_okq (⟨"CopiedFireModel", "takesKey", "()Z"⟩, 37) := ⟨⟨by decide +kernel, by decide +kernel⟩, List.mem_of_getElem? (i := 921) (by decide +kernel), List.mem_of_getElem? (i := 1317) (by decide +kernel), List.mem_of_getElem? (i := 1318) (by decide +kernel)⟩
theorem lw_p58 : lw_okq (⟨"CopiedFireModel", "takesE", "()Z"⟩, 37) := ⟨⟨by decide +kernel, by decide +kernel⟩, List.mem_of_getElem? (i := 921) (by decide +kernel), List.mem_of_getElem? (i := 1321) (by decide +kernel), List.mem_of_getElem? (i := 1322) (by decide +kernel)⟩
theorem lw_p59 : lw_okq (⟨"CopiedFireModel", "takesPart", "()Z"⟩, 37) := ⟨⟨by decide +kernel, by decide +kernel⟩, List.mem_of_getElem? (i := 921) (by decide +kernel), List.mem_of_getElem? (i := 1325) (by decide +kernel), List.mem_of_getElem? (i := 1326) (by decide +kernel)⟩
theorem lw_p60 : lw_okq (⟨"CopiedFireModel", "nameOf", "(I)I"⟩, 37) := ⟨⟨by decide +kernel, by decide +kernel⟩, List.mem_of_getElem? (i := 921) (by decide +kernel), List.mem_of_getElem? (i := 1329) (by decide +kernel), List.mem_of_getElem? (i := 1330) (by decide +kernel)⟩
theorem lw_p61 : lw_okq (⟨"CopiedFireModel", "settle", "(I)V"⟩, 37) := ⟨⟨by decide +kernel, by decide +kernel⟩, List.mem_of_getElem? (i := 921) (by decide +kernel), List.mem_of_getElem? (i := 1333) (by decide +kernel), List.mem_of_getElem? (i := 1334) (by decide +kernel)⟩
theorem lw_p62 : lw_okq (⟨"CopiedFireModel", "notsOpen", "()I"⟩, 37) := ⟨⟨by decide +kernel, by decide +kernel⟩, List.mem_of_getElem? (i := 921) (by decide +kernel), List.mem_of_getElem? (i := 1340) (by decide +kernel), List.mem_of_getElem? (i := 1341) (by decide +kernel)⟩
theorem lw_p63 : lw_okq (⟨"CopiedFireModel", "signHere", "()I"⟩, 37) := ⟨⟨by decide +kernel, by decide +kernel⟩, List.mem_of_getElem? (i := 921) (by decide +kernel), List.mem_of_getElem? (i := 1344) (by decide +kernel), List.mem_of_getElem? (i := 1345) (by decide +kernel)⟩
def lw_privs_4 : List (MethodName × Nat) := [(⟨"CopiedFireModel", "lit", "()I"⟩, 37), (⟨"CopiedFireModel", "allHeat", "()I"⟩, 37), (⟨"CopiedFireModel", "thinks", "()V"⟩, 37), (⟨"CopiedFireModel", "putsBack", "()V"⟩, 37), (⟨"CopiedFireModel", "burntBy", "(I)I"⟩, 37), (⟨"CopiedFireModel", "isSo", "(I)Z"⟩, 37), (⟨"CopiedFireModel", "go", "()V"⟩, 37), (⟨"CopiedFireModel", "isLetter", "(I)Z"⟩, 37), (⟨"CopiedFireModel", "isFigure", "(I)Z"⟩, 37), (⟨"CopiedFireModel", "takesKey", "()Z"⟩, 37), (⟨"CopiedFireModel", "takesE", "()Z"⟩, 37), (⟨"CopiedFireModel", "takesPart", "()Z"⟩, 37), (⟨"CopiedFireModel", "nameOf", "(I)I"⟩, 37), (⟨"CopiedFireModel", "settle", "(I)V"⟩, 37), (⟨"CopiedFireModel", "notsOpen", "()I"⟩, 37), (⟨"CopiedFireModel", "signHere", "()I"⟩, 37)]
theorem lw_r4 : ∀ q ∈ lw_privs_4, lw_okq q := List.forall_mem_cons.mpr ⟨lw_p48, List.forall_mem_cons.mpr ⟨lw_p49, List.forall_mem_cons.mpr ⟨lw_p50, List.forall_mem_cons.mpr ⟨lw_p51, List.forall_mem_cons.mpr ⟨lw_p52, List.forall_mem_cons.mpr ⟨lw_p53, List.forall_mem_cons.mpr ⟨lw_p54, List.forall_mem_cons.mpr ⟨lw_p55, List.forall_mem_cons.mpr ⟨lw_p56, List.forall_mem_cons.mpr ⟨lw_p57, List.forall_mem_cons.mpr ⟨lw_p58, List.forall_mem_cons.mpr ⟨lw_p59, List.forall_mem_cons.mpr ⟨lw_p60, List.forall_mem_cons.mpr ⟨lw_p61, List.forall_mem_cons.mpr ⟨lw_p62, List.forall_mem_cons.mpr ⟨lw_p63, fun _ h => absurd h List.not_mem_nil⟩⟩⟩⟩⟩⟩⟩⟩⟩⟩⟩⟩⟩⟩⟩⟩
def lw_privs : List (MethodName × Nat) := lw_privs_1 ++ (lw_privs_2 ++ (lw_privs_3 ++ (lw_privs_4)))
def lw_tbl : List Cond := k2_sels lw_privs ++ tables_1
theorem lw_privs_ok : ∀ q ∈ lw_privs, lw_okq q := by
  show ∀ q ∈ lw_privs_1 ++ (lw_privs_2 ++ (lw_privs_3 ++ (lw_privs_4))), lw_okq q
  exact List.forall_mem_append.mpr ⟨lw_r1, List.forall_mem_append.mpr ⟨lw_r2, List.forall_mem_append.mpr ⟨lw_r3, lw_r4⟩⟩⟩
def RX0 : String := "CopiedFire$House"
def TX0 : u_T := fun k => match k with
  | 0 => ("CopiedFire$House", "laws", "LCopiedFire$Laws;", true)
  | 1 => ("CopiedFire$House", "kinds", "[I", true)
  | 2 => ("CopiedFire$House", "rooms", "[I", true)
  | 3 => ("CopiedFire$House", "fuels", "[I", true)
  | 4 => ("CopiedFire$House", "lits", "[I", true)
  | 5 => ("CopiedFire$House", "heats", "[I", true)
  | 6 => ("CopiedFire$House", "doors", "[I", true)
  | 7 => ("CopiedFire$House", "liked", "[I", true)
  | 8 => ("CopiedFire$House", "counting", "[I", true)
  | 9 => ("CopiedFire$House", "things", "I", false)
  | 10 => ("CopiedFire$House", "visitors", "I", false)
  | 11 => ("CopiedFire$House", "texts", "I", false)
  | 12 => ("CopiedFire$House", "wind", "I", false)
  | 13 => ("CopiedFire$House", "cool", "I", false)
  | 14 => ("CopiedFire$House", "burnt", "I", false)
  | 15 => ("CopiedFire$House", "ashes", "I", false)
  | 16 => ("CopiedFire$House", "slams", "I", false)
  | 17 => ("CopiedFire$House", "minute", "I", false)
  | _ => ("CopiedFire$House", "z", "I", false)
def tyX0 : Nat → FieldType := fun k => match k with
  | 0 => .object "CopiedFire$Laws"
  | 1 => .array .int
  | 2 => .array .int
  | 3 => .array .int
  | 4 => .array .int
  | 5 => .array .int
  | 6 => .array .int
  | 7 => .array .int
  | 8 => .array .int
  | 9 => .int
  | 10 => .int
  | 11 => .int
  | 12 => .int
  | 13 => .int
  | 14 => .int
  | 15 => .int
  | 16 => .int
  | 17 => .int
  | _ => .int
abbrev wsX00 : List Cond := u_ws RX0 TX0 19
theorem nmX0 : ∀ a, a < 19 → ∀ b, b < 19 → a ≠ b → (TX0 a).2.1 ≠ (TX0 b).2.1 := by decide +kernel
theorem tyX0_ok : ∀ k, k < 19 → parseFieldDescriptor (TX0 k).2.2.1 = some (tyX0 k) := by decide +kernel
abbrev cX0_init : ByteArray := prog_2_method_1_code
def yX0_init : MethodName := ⟨RX0, "<init>", "(LCopiedFire$Laws;)V"⟩
abbrev cX0_becomeAs : ByteArray := prog_2_method_2_code
def yX0_becomeAs : MethodName := ⟨RX0, "becomeAs", "(LCopiedFire$House;)V"⟩
abbrev cX0_addThing : ByteArray := prog_2_method_3_code
def yX0_addThing : MethodName := ⟨RX0, "addThing", "(IIII)I"⟩
abbrev cX0_drawThing : ByteArray := prog_2_method_4_code
def yX0_drawThing : MethodName := ⟨RX0, "drawThing", "()V"⟩
abbrev cX0_doorBetween : ByteArray := prog_2_method_5_code
def yX0_doorBetween : MethodName := ⟨RX0, "doorBetween", "(II)I"⟩
abbrev cX0_putDoor : ByteArray := prog_2_method_6_code
def yX0_putDoor : MethodName := ⟨RX0, "putDoor", "(III)V"⟩
abbrev cX0_reachedNext : ByteArray := prog_2_method_7_code
def yX0_reachedNext : MethodName := ⟨RX0, "reachedNext", "(I)I"⟩
abbrev cX0_litSet : ByteArray := prog_2_method_8_code
def yX0_litSet : MethodName := ⟨RX0, "litSet", "()I"⟩
abbrev cX0_heatTogether : ByteArray := prog_2_method_9_code
def yX0_heatTogether : MethodName := ⟨RX0, "heatTogether", "()I"⟩
abbrev cX0_burnsOf : ByteArray := prog_2_method_10_code
def yX0_burnsOf : MethodName := ⟨RX0, "burnsOf", "(I)I"⟩
abbrev cX0_passMinute : ByteArray := prog_2_method_11_code
def yX0_passMinute : MethodName := ⟨RX0, "passMinute", "()V"⟩
abbrev cX0_burnThings : ByteArray := prog_2_method_12_code
def yX0_burnThings : MethodName := ⟨RX0, "burnThings", "()V"⟩
abbrev cX0_spreadHeat : ByteArray := prog_2_method_13_code
def yX0_spreadHeat : MethodName := ⟨RX0, "spreadHeat", "()V"⟩
abbrev cX0_coolRooms : ByteArray := prog_2_method_14_code
def yX0_coolRooms : MethodName := ⟨RX0, "coolRooms", "()V"⟩
abbrev cX0_lightThings : ByteArray := prog_2_method_15_code
def yX0_lightThings : MethodName := ⟨RX0, "lightThings", "()V"⟩
abbrev cX0_blowWind : ByteArray := prog_2_method_16_code
def yX0_blowWind : MethodName := ⟨RX0, "blowWind", "()V"⟩
abbrev cX0_draw : ByteArray := prog_2_method_17_code
def yX0_draw : MethodName := ⟨RX0, "draw", "()I"⟩
def RX1 : String := "CopiedFire$Kinds"
def TX1 : u_T := fun k => match k with
  | _ => ("", "", "", false)
def tyX1 : Nat → FieldType := fun k => match k with
  | _ => .int
abbrev wsX10 : List Cond := u_ws RX1 TX1 0
theorem nmX1 : ∀ a, a < 0 → ∀ b, b < 0 → a ≠ b → (TX1 a).2.1 ≠ (TX1 b).2.1 := by decide +kernel
theorem tyX1_ok : ∀ k, k < 0 → parseFieldDescriptor (TX1 k).2.2.1 = some (tyX1 k) := by decide +kernel
abbrev cX1_isOf : ByteArray := prog_3_method_2_code
def yX1_isOf : MethodName := ⟨RX1, "isOf", "(II)Z"⟩
abbrev cX1_burns : ByteArray := prog_3_method_3_code
def yX1_burns : MethodName := ⟨RX1, "burns", "(II)I"⟩
abbrev cX1_gives : ByteArray := prog_3_method_4_code
def yX1_gives : MethodName := ⟨RX1, "gives", "(II)I"⟩
abbrev cX1_catchesFrom : ByteArray := prog_3_method_5_code
def yX1_catchesFrom : MethodName := ⟨RX1, "catchesFrom", "(I)I"⟩
abbrev cX1_worth : ByteArray := prog_3_method_6_code
def yX1_worth : MethodName := ⟨RX1, "worth", "(II)I"⟩
def RX2 : String := "CopiedFire$Laws"
def TX2 : u_T := fun k => match k with
  | 0 => ("CopiedFire$Laws", "rows", "[LCopiedFire$Text;", true)
  | _ => ("CopiedFire$Laws", "stack", "[I", true)
def tyX2 : Nat → FieldType := fun k => match k with
  | 0 => .array (.object "CopiedFire$Text")
  | _ => .array .int
abbrev wsX20 : List Cond := u_ws RX2 TX2 2
theorem nmX2 : ∀ a, a < 2 → ∀ b, b < 2 → a ≠ b → (TX2 a).2.1 ≠ (TX2 b).2.1 := by decide +kernel
theorem tyX2_ok : ∀ k, k < 2 → parseFieldDescriptor (TX2 k).2.2.1 = some (tyX2 k) := by decide +kernel
abbrev cX2_init : ByteArray := prog_4_method_1_code
def yX2_init : MethodName := ⟨RX2, "<init>", "()V"⟩
abbrev cX2_has : ByteArray := prog_4_method_2_code
def yX2_has : MethodName := ⟨RX2, "has", "(I)Z"⟩
abbrev cX2_put : ByteArray := prog_4_method_3_code
def yX2_put : MethodName := ⟨RX2, "put", "(ILCopiedFire$Text;)V"⟩
abbrev cX2_keyOf : ByteArray := prog_4_method_4_code
def yX2_keyOf : MethodName := ⟨RX2, "keyOf", "(I)I"⟩
abbrev cX2_operandsOf : ByteArray := prog_4_method_5_code
def yX2_operandsOf : MethodName := ⟨RX2, "operandsOf", "(I)I"⟩
abbrev cX2_work : ByteArray := prog_4_method_6_code
def yX2_work : MethodName := ⟨RX2, "work", "(IIII)I"⟩
abbrev cX2_joined : ByteArray := prog_4_method_7_code
def yX2_joined : MethodName := ⟨RX2, "joined", "(III)I"⟩
def RX3 : String := "CopiedFire$Reader"
def TX3 : u_T := fun k => match k with
  | 0 => ("CopiedFire$Reader", "tape", "LCopiedFire$Tape;", true)
  | 1 => ("CopiedFire$Reader", "steps", "[I", true)
  | 2 => ("CopiedFire$Reader", "made", "I", false)
  | 3 => ("CopiedFire$Reader", "operands", "I", false)
  | 4 => ("CopiedFire$Reader", "key", "I", false)
  | 5 => ("CopiedFire$Reader", "token", "I", false)
  | 6 => ("CopiedFire$Reader", "start", "I", false)
  | 7 => ("CopiedFire$Reader", "next", "I", false)
  | _ => ("CopiedFire$Reader", "fault", "I", false)
def tyX3 : Nat → FieldType := fun k => match k with
  | 0 => .object "CopiedFire$Tape"
  | 1 => .array .int
  | 2 => .int
  | 3 => .int
  | 4 => .int
  | 5 => .int
  | 6 => .int
  | 7 => .int
  | _ => .int
abbrev wsX30 : List Cond := u_ws RX3 TX3 9
theorem nmX3 : ∀ a, a < 9 → ∀ b, b < 9 → a ≠ b → (TX3 a).2.1 ≠ (TX3 b).2.1 := by decide +kernel
theorem tyX3_ok : ∀ k, k < 9 → parseFieldDescriptor (TX3 k).2.2.1 = some (tyX3 k) := by decide +kernel
abbrev cX3_init : ByteArray := prog_5_method_1_code
def yX3_init : MethodName := ⟨RX3, "<init>", "(LCopiedFire$Tape;)V"⟩
abbrev cX3_readText : ByteArray := prog_5_method_2_code
def yX3_readText : MethodName := ⟨RX3, "readText", "()V"⟩
abbrev cX3_madeText : ByteArray := prog_5_method_3_code
def yX3_madeText : MethodName := ⟨RX3, "madeText", "()LCopiedFire$Text;"⟩
abbrev cX3_stop : ByteArray := prog_5_method_4_code
def yX3_stop : MethodName := ⟨RX3, "stop", "()V"⟩
abbrev cX3_goOn : ByteArray := prog_5_method_5_code
def yX3_goOn : MethodName := ⟨RX3, "goOn", "()V"⟩
abbrev cX3_endOfRow : ByteArray := prog_5_method_6_code
def yX3_endOfRow : MethodName := ⟨RX3, "endOfRow", "(III)I"⟩
abbrev cX3_keyRead : ByteArray := prog_5_method_7_code
def yX3_keyRead : MethodName := ⟨RX3, "keyRead", "()I"⟩
abbrev cX3_isWord : ByteArray := prog_5_method_8_code
def yX3_isWord : MethodName := ⟨RX3, "isWord", "(Ljava/lang/String;)Z"⟩
abbrev cX3_nameRead : ByteArray := prog_5_method_9_code
def yX3_nameRead : MethodName := ⟨RX3, "nameRead", "()I"⟩
abbrev cX3_numberRead : ByteArray := prog_5_method_10_code
def yX3_numberRead : MethodName := ⟨RX3, "numberRead", "()I"⟩
abbrev cX3_readLevel : ByteArray := prog_5_method_11_code
def yX3_readLevel : MethodName := ⟨RX3, "readLevel", "(III)V"⟩
abbrev cX3_isSignOf : ByteArray := prog_5_method_12_code
def yX3_isSignOf : MethodName := ⟨RX3, "isSignOf", "(I)Z"⟩
abbrev cX3_readPiece : ByteArray := prog_5_method_13_code
def yX3_readPiece : MethodName := ⟨RX3, "readPiece", "(II)V"⟩
abbrev cX3_addOperand : ByteArray := prog_5_method_14_code
def yX3_addOperand : MethodName := ⟨RX3, "addOperand", "(I)V"⟩
abbrev cX3_addStep : ByteArray := prog_5_method_15_code
def yX3_addStep : MethodName := ⟨RX3, "addStep", "(I)V"⟩
def RX4 : String := "CopiedFire$Seating"
def TX4 : u_T := fun k => match k with
  | 0 => ("CopiedFire$Seating", "likedByGroup", "[I", true)
  | _ => ("CopiedFire$Seating", "given", "[I", true)
def tyX4 : Nat → FieldType := fun k => match k with
  | 0 => .array .int
  | _ => .array .int
abbrev wsX40 : List Cond := u_ws RX4 TX4 2
theorem nmX4 : ∀ a, a < 2 → ∀ b, b < 2 → a ≠ b → (TX4 a).2.1 ≠ (TX4 b).2.1 := by decide +kernel
theorem tyX4_ok : ∀ k, k < 2 → parseFieldDescriptor (TX4 k).2.2.1 = some (tyX4 k) := by decide +kernel
abbrev cX4_init : ByteArray := prog_6_method_1_code
def yX4_init : MethodName := ⟨RX4, "<init>", "()V"⟩
abbrev cX4_seatAll : ByteArray := prog_6_method_2_code
def yX4_seatAll : MethodName := ⟨RX4, "seatAll", "(LCopiedFire$House;)I"⟩
abbrev cX4_gatherLikes : ByteArray := prog_6_method_3_code
def yX4_gatherLikes : MethodName := ⟨RX4, "gatherLikes", "(LCopiedFire$House;)V"⟩
abbrev cX4_leastRoom : ByteArray := prog_6_method_4_code
def yX4_leastRoom : MethodName := ⟨RX4, "leastRoom", "(IIII)I"⟩
abbrev cX4_mostSeated : ByteArray := prog_6_method_5_code
def yX4_mostSeated : MethodName := ⟨RX4, "mostSeated", "(III)I"⟩
def RX5 : String := "CopiedFire$Sheet"
def TX5 : u_T := fun k => match k with
  | 0 => ("CopiedFire$Sheet", "places", "[I", true)
  | 1 => ("CopiedFire$Sheet", "sort", "I", false)
  | _ => ("CopiedFire$Sheet", "length", "I", false)
def tyX5 : Nat → FieldType := fun k => match k with
  | 0 => .array .int
  | 1 => .int
  | _ => .int
abbrev wsX50 : List Cond := u_ws RX5 TX5 3
theorem nmX5 : ∀ a, a < 3 → ∀ b, b < 3 → a ≠ b → (TX5 a).2.1 ≠ (TX5 b).2.1 := by decide +kernel
theorem tyX5_ok : ∀ k, k < 3 → parseFieldDescriptor (TX5 k).2.2.1 = some (tyX5 k) := by decide +kernel
abbrev cX5_init : ByteArray := prog_7_method_1_code
def yX5_init : MethodName := ⟨RX5, "<init>", "()V"⟩
abbrev cX5_renew : ByteArray := prog_7_method_2_code
def yX5_renew : MethodName := ⟨RX5, "renew", "(II)V"⟩
abbrev cX5_becomeAs : ByteArray := prog_7_method_3_code
def yX5_becomeAs : MethodName := ⟨RX5, "becomeAs", "(LCopiedFire$Sheet;)V"⟩
abbrev cX5_isMissing : ByteArray := prog_7_method_4_code
def yX5_isMissing : MethodName := ⟨RX5, "isMissing", "()Z"⟩
abbrev cX5_hasPlace : ByteArray := prog_7_method_5_code
def yX5_hasPlace : MethodName := ⟨RX5, "hasPlace", "(I)Z"⟩
abbrev cX5_hasNumber : ByteArray := prog_7_method_6_code
def yX5_hasNumber : MethodName := ⟨RX5, "hasNumber", "(I)Z"⟩
abbrev cX5_hasRow : ByteArray := prog_7_method_7_code
def yX5_hasRow : MethodName := ⟨RX5, "hasRow", "(II)Z"⟩
def RX6 : String := "CopiedFire$Slot"
def TX6 : u_T := fun k => match k with
  | 0 => ("CopiedFire$Slot", "row", "LCopiedFire$Sheet;", true)
  | 1 => ("CopiedFire$Slot", "holds", "I", false)
  | 2 => ("CopiedFire$Slot", "kind", "I", false)
  | 3 => ("CopiedFire$Slot", "fuel", "I", false)
  | _ => ("CopiedFire$Slot", "number", "I", false)
def tyX6 : Nat → FieldType := fun k => match k with
  | 0 => .object "CopiedFire$Sheet"
  | 1 => .int
  | 2 => .int
  | 3 => .int
  | _ => .int
abbrev wsX60 : List Cond := u_ws RX6 TX6 5
theorem nmX6 : ∀ a, a < 5 → ∀ b, b < 5 → a ≠ b → (TX6 a).2.1 ≠ (TX6 b).2.1 := by decide +kernel
theorem tyX6_ok : ∀ k, k < 5 → parseFieldDescriptor (TX6 k).2.2.1 = some (tyX6 k) := by decide +kernel
abbrev cX6_init : ByteArray := prog_8_method_1_code
def yX6_init : MethodName := ⟨RX6, "<init>", "()V"⟩
def RX7 : String := "CopiedFire$Tape"
def TX7 : u_T := fun k => match k with
  | 0 => ("CopiedFire$Tape", "bytes", "[I", true)
  | _ => ("CopiedFire$Tape", "length", "I", false)
def tyX7 : Nat → FieldType := fun k => match k with
  | 0 => .array .int
  | _ => .int
abbrev wsX70 : List Cond := u_ws RX7 TX7 2
theorem nmX7 : ∀ a, a < 2 → ∀ b, b < 2 → a ≠ b → (TX7 a).2.1 ≠ (TX7 b).2.1 := by decide +kernel
theorem tyX7_ok : ∀ k, k < 2 → parseFieldDescriptor (TX7 k).2.2.1 = some (tyX7 k) := by decide +kernel
abbrev cX7_init : ByteArray := prog_9_method_1_code
def yX7_init : MethodName := ⟨RX7, "<init>", "()V"⟩
abbrev cX7_addFour : ByteArray := prog_9_method_2_code
def yX7_addFour : MethodName := ⟨RX7, "addFour", "(I)V"⟩
def RX8 : String := "CopiedFire$Text"
def TX8 : u_T := fun k => match k with
  | 0 => ("CopiedFire$Text", "key", "I", true)
  | 1 => ("CopiedFire$Text", "operands", "I", true)
  | _ => ("CopiedFire$Text", "steps", "[I", true)
def tyX8 : Nat → FieldType := fun k => match k with
  | 0 => .int
  | 1 => .int
  | _ => .array .int
abbrev wsX80 : List Cond := u_ws RX8 TX8 3
theorem nmX8 : ∀ a, a < 3 → ∀ b, b < 3 → a ≠ b → (TX8 a).2.1 ≠ (TX8 b).2.1 := by decide +kernel
theorem tyX8_ok : ∀ k, k < 3 → parseFieldDescriptor (TX8 k).2.2.1 = some (tyX8 k) := by decide +kernel
abbrev cX8_init : ByteArray := prog_10_method_1_code
def yX8_init : MethodName := ⟨RX8, "<init>", "(II[I)V"⟩
def RX9 : String := "CopiedFire"
def TX9 : u_T := fun k => match k with
  | 0 => ("CopiedFire", "laws", "LCopiedFire$Laws;", true)
  | 1 => ("CopiedFire", "now", "LCopiedFire$House;", true)
  | 2 => ("CopiedFire", "image", "LCopiedFire$House;", true)
  | 3 => ("CopiedFire", "thought", "LCopiedFire$House;", true)
  | 4 => ("CopiedFire", "seating", "LCopiedFire$Seating;", true)
  | 5 => ("CopiedFire", "tape", "LCopiedFire$Tape;", true)
  | 6 => ("CopiedFire", "reader", "LCopiedFire$Reader;", true)
  | 7 => ("CopiedFire", "sheets", "[LCopiedFire$Sheet;", true)
  | 8 => ("CopiedFire", "slots", "[LCopiedFire$Slot;", true)
  | 9 => ("CopiedFire", "sums", "[I", true)
  | 10 => ("CopiedFire", "waiting", "[I", true)
  | 11 => ("CopiedFire", "waits", "I", false)
  | _ => ("CopiedFire", "kept", "Z", false)
def tyX9 : Nat → FieldType := fun k => match k with
  | 0 => .object "CopiedFire$Laws"
  | 1 => .object "CopiedFire$House"
  | 2 => .object "CopiedFire$House"
  | 3 => .object "CopiedFire$House"
  | 4 => .object "CopiedFire$Seating"
  | 5 => .object "CopiedFire$Tape"
  | 6 => .object "CopiedFire$Reader"
  | 7 => .array (.object "CopiedFire$Sheet")
  | 8 => .array (.object "CopiedFire$Slot")
  | 9 => .array .int
  | 10 => .array .int
  | 11 => .int
  | _ => .boolean
abbrev wsX90 : List Cond := u_ws RX9 TX9 13
theorem nmX9 : ∀ a, a < 13 → ∀ b, b < 13 → a ≠ b → (TX9 a).2.1 ≠ (TX9 b).2.1 := by decide +kernel
theorem tyX9_ok : ∀ k, k < 13 → parseFieldDescriptor (TX9 k).2.2.1 = some (tyX9 k) := by decide +kernel
abbrev cX9_init : ByteArray := prog_1_method_1_code
def yX9_init : MethodName := ⟨RX9, "<init>", "()V"⟩
abbrev cX9_thing : ByteArray := prog_1_method_2_code
def yX9_thing : MethodName := ⟨RX9, "thing", "(IIII)I"⟩
abbrev cX9_told : ByteArray := prog_1_method_3_code
def yX9_told : MethodName := ⟨RX9, "told", "(II)I"⟩
abbrev cX9_as : ByteArray := prog_1_method_4_code
def yX9_as : MethodName := ⟨RX9, "as", "(II)I"⟩
abbrev cX9_turns : ByteArray := prog_1_method_5_code
def yX9_turns : MethodName := ⟨RX9, "turns", "(II)I"⟩
abbrev cX9_set : ByteArray := prog_1_method_6_code
def yX9_set : MethodName := ⟨RX9, "set", "(III)I"⟩
abbrev cX9_deal : ByteArray := prog_1_method_7_code
def yX9_deal : MethodName := ⟨RX9, "deal", "(I)I"⟩
abbrev cX9_seed : ByteArray := prog_1_method_8_code
def yX9_seed : MethodName := ⟨RX9, "seed", "(I)I"⟩
abbrev cX9_heat : ByteArray := prog_1_method_9_code
def yX9_heat : MethodName := ⟨RX9, "heat", "(I)I"⟩
abbrev cX9_heats : ByteArray := prog_1_method_10_code
def yX9_heats : MethodName := ⟨RX9, "heats", "(II)I"⟩
abbrev cX9_door : ByteArray := prog_1_method_11_code
def yX9_door : MethodName := ⟨RX9, "door", "(III)I"⟩
abbrev cX9_doorTold : ByteArray := prog_1_method_12_code
def yX9_doorTold : MethodName := ⟨RX9, "doorTold", "(II)I"⟩
abbrev cX9_rule : ByteArray := prog_1_method_13_code
def yX9_rule : MethodName := ⟨RX9, "rule", "(II)I"⟩
abbrev cX9_visitor : ByteArray := prog_1_method_14_code
def yX9_visitor : MethodName := ⟨RX9, "visitor", "(I)I"⟩
abbrev cX9_likes : ByteArray := prog_1_method_15_code
def yX9_likes : MethodName := ⟨RX9, "likes", "(II)I"⟩
abbrev cX9_seats : ByteArray := prog_1_method_16_code
def yX9_seats : MethodName := ⟨RX9, "seats", "(I)I"⟩
abbrev cX9_way : ByteArray := prog_1_method_17_code
def yX9_way : MethodName := ⟨RX9, "way", "(II)I"⟩
abbrev cX9_minutes : ByteArray := prog_1_method_18_code
def yX9_minutes : MethodName := ⟨RX9, "minutes", "(I)I"⟩
abbrev cX9_house : ByteArray := prog_1_method_19_code
def yX9_house : MethodName := ⟨RX9, "house", "(I)I"⟩
abbrev cX9_behind : ByteArray := prog_1_method_20_code
def yX9_behind : MethodName := ⟨RX9, "behind", "(II)I"⟩
abbrev cX9_out : ByteArray := prog_1_method_21_code
def yX9_out : MethodName := ⟨RX9, "out", "()I"⟩
abbrev cX9_hot : ByteArray := prog_1_method_22_code
def yX9_hot : MethodName := ⟨RX9, "hot", "(I)I"⟩
abbrev cX9_shut : ByteArray := prog_1_method_23_code
def yX9_shut : MethodName := ⟨RX9, "shut", "(II)I"⟩
abbrev cX9_hired : ByteArray := prog_1_method_24_code
def yX9_hired : MethodName := ⟨RX9, "hired", "(II)I"⟩
abbrev cX9_becomes : ByteArray := prog_1_method_25_code
def yX9_becomes : MethodName := ⟨RX9, "becomes", "(III)I"⟩
abbrev cX9_began : ByteArray := prog_1_method_26_code
def yX9_began : MethodName := ⟨RX9, "began", "(I)I"⟩
abbrev cX9_like : ByteArray := prog_1_method_27_code
def yX9_like : MethodName := ⟨RX9, "like", "(II)I"⟩
abbrev cX9_fee : ByteArray := prog_1_method_28_code
def yX9_fee : MethodName := ⟨RX9, "fee", "()I"⟩
abbrev cX9_fine : ByteArray := prog_1_method_29_code
def yX9_fine : MethodName := ⟨RX9, "fine", "(I)I"⟩
abbrev cX9_feed : ByteArray := prog_1_method_30_code
def yX9_feed : MethodName := ⟨RX9, "feed", "(III)I"⟩
abbrev cX9_trim : ByteArray := prog_1_method_31_code
def yX9_trim : MethodName := ⟨RX9, "trim", "(I)I"⟩
abbrev cX9_text : ByteArray := prog_1_method_32_code
def yX9_text : MethodName := ⟨RX9, "text", "()I"⟩
abbrev cX9_textTold : ByteArray := prog_1_method_33_code
def yX9_textTold : MethodName := ⟨RX9, "textTold", "(II)I"⟩
abbrev cX9_why : ByteArray := prog_1_method_34_code
def yX9_why : MethodName := ⟨RX9, "why", "(I)I"⟩
abbrev cX9_sheet : ByteArray := prog_1_method_35_code
def yX9_sheet : MethodName := ⟨RX9, "sheet", "(III)I"⟩
abbrev cX9_mark : ByteArray := prog_1_method_36_code
def yX9_mark : MethodName := ⟨RX9, "mark", "(III)I"⟩
abbrev cX9_pour : ByteArray := prog_1_method_37_code
def yX9_pour : MethodName := ⟨RX9, "pour", "(I)I"⟩
abbrev cX9_reads : ByteArray := prog_1_method_38_code
def yX9_reads : MethodName := ⟨RX9, "reads", "(I)I"⟩
abbrev cX9_copy : ByteArray := prog_1_method_39_code
def yX9_copy : MethodName := ⟨RX9, "copy", "(IIIII)I"⟩
abbrev cX9_lay : ByteArray := prog_1_method_40_code
def yX9_lay : MethodName := ⟨RX9, "lay", "(III)I"⟩
abbrev cX9_ask : ByteArray := prog_1_method_41_code
def yX9_ask : MethodName := ⟨RX9, "ask", "(II)I"⟩
abbrev cX9_item : ByteArray := prog_1_method_42_code
def yX9_item : MethodName := ⟨RX9, "item", "(II)I"⟩
abbrev cX9_rest : ByteArray := prog_1_method_43_code
def yX9_rest : MethodName := ⟨RX9, "rest", "(II)I"⟩
abbrev cX9_tell : ByteArray := prog_1_method_44_code
def yX9_tell : MethodName := ⟨RX9, "tell", "(I)I"⟩
abbrev cX9_check : ByteArray := prog_1_method_45_code
def yX9_check : MethodName := ⟨RX9, "check", "(I)I"⟩
abbrev cX9_keep : ByteArray := prog_1_method_46_code
def yX9_keep : MethodName := ⟨RX9, "keep", "()I"⟩
abbrev cX9_back : ByteArray := prog_1_method_47_code
def yX9_back : MethodName := ⟨RX9, "back", "()I"⟩
abbrev cX9_count : ByteArray := prog_1_method_48_code
def yX9_count : MethodName := ⟨RX9, "count", "(I)I"⟩
abbrev cX9_within : ByteArray := prog_1_method_49_code
def yX9_within : MethodName := ⟨RX9, "within", "(III)Z"⟩
abbrev cX9_held : ByteArray := prog_1_method_50_code
def yX9_held : MethodName := ⟨RX9, "held", "(II)I"⟩
abbrev cX9_isKind : ByteArray := prog_1_method_51_code
def yX9_isKind : MethodName := ⟨RX9, "isKind", "(I)Z"⟩
abbrev cX9_isRoom : ByteArray := prog_1_method_52_code
def yX9_isRoom : MethodName := ⟨RX9, "isRoom", "(I)Z"⟩
abbrev cX9_areTwoRooms : ByteArray := prog_1_method_53_code
def yX9_areTwoRooms : MethodName := ⟨RX9, "areTwoRooms", "(II)Z"⟩
abbrev cX9_isThing : ByteArray := prog_1_method_54_code
def yX9_isThing : MethodName := ⟨RX9, "isThing", "(I)Z"⟩
abbrev cX9_isVisitor : ByteArray := prog_1_method_55_code
def yX9_isVisitor : MethodName := ⟨RX9, "isVisitor", "(I)Z"⟩
abbrev cX9_isSheet : ByteArray := prog_1_method_56_code
def yX9_isSheet : MethodName := ⟨RX9, "isSheet", "(I)Z"⟩
abbrev cX9_isSlot : ByteArray := prog_1_method_57_code
def yX9_isSlot : MethodName := ⟨RX9, "isSlot", "(I)Z"⟩
abbrev cX9_replaced : ByteArray := prog_1_method_58_code
def yX9_replaced : MethodName := ⟨RX9, "replaced", "([IIII)I"⟩
abbrev cX9_thinkOn : ByteArray := prog_1_method_59_code
def yX9_thinkOn : MethodName := ⟨RX9, "thinkOn", "(II)I"⟩
abbrev cX9_canHaveBegunBy : ByteArray := prog_1_method_60_code
def yX9_canHaveBegunBy : MethodName := ⟨RX9, "canHaveBegunBy", "(ILCopiedFire$Sheet;)Z"⟩
abbrev cX9_sumDifferences : ByteArray := prog_1_method_61_code
def yX9_sumDifferences : MethodName := ⟨RX9, "sumDifferences", "(LCopiedFire$Sheet;)V"⟩
abbrev cX9_findingFor : ByteArray := prog_1_method_62_code
def yX9_findingFor : MethodName := ⟨RX9, "findingFor", "(II)I"⟩
def RX10 : String := "CopiedFireModel"
def TX10 : u_T := fun k => match k with
  | 0 => ("CopiedFireModel", "now", "[I", true)
  | 1 => ("CopiedFireModel", "image", "[I", true)
  | 2 => ("CopiedFireModel", "aside", "[I", true)
  | 3 => ("CopiedFireModel", "hasImage", "Z", false)
  | 4 => ("CopiedFireModel", "seat", "[I", true)
  | 5 => ("CopiedFireModel", "bestSeat", "[I", true)
  | 6 => ("CopiedFireModel", "mostSeats", "I", false)
  | 7 => ("CopiedFireModel", "before", "[I", true)
  | 8 => ("CopiedFireModel", "off", "[I", true)
  | 9 => ("CopiedFireModel", "tape", "[I", true)
  | 10 => ("CopiedFireModel", "taped", "I", false)
  | 11 => ("CopiedFireModel", "next", "I", false)
  | 12 => ("CopiedFireModel", "from", "I", false)
  | 13 => ("CopiedFireModel", "token", "I", false)
  | 14 => ("CopiedFireModel", "value", "I", false)
  | 15 => ("CopiedFireModel", "ended", "I", false)
  | 16 => ("CopiedFireModel", "key", "I", false)
  | 17 => ("CopiedFireModel", "keys", "[C", true)
  | 18 => ("CopiedFireModel", "keyAt", "[I", true)
  | 19 => ("CopiedFireModel", "code", "[I", true)
  | 20 => ("CopiedFireModel", "codes", "I", false)
  | 21 => ("CopiedFireModel", "atoms", "I", false)
  | 22 => ("CopiedFireModel", "waits", "[I", true)
  | 23 => ("CopiedFireModel", "held", "I", false)
  | 24 => ("CopiedFireModel", "tested", "[Z", true)
  | 25 => ("CopiedFireModel", "stack", "[I", true)
  | 26 => ("CopiedFireModel", "facts", "[I", true)
  | 27 => ("CopiedFireModel", "sorts", "[I", true)
  | 28 => ("CopiedFireModel", "sizes", "[I", true)
  | 29 => ("CopiedFireModel", "cells", "[I", true)
  | 30 => ("CopiedFireModel", "holds", "[I", true)
  | 31 => ("CopiedFireModel", "holdsA", "[I", true)
  | 32 => ("CopiedFireModel", "holdsB", "[I", true)
  | 33 => ("CopiedFireModel", "heldCells", "[I", true)
  | 34 => ("CopiedFireModel", "moved", "[I", true)
  | 35 => ("CopiedFireModel", "tells", "[I", true)
  | _ => ("CopiedFireModel", "waiting", "I", false)
def tyX10 : Nat → FieldType := fun k => match k with
  | 0 => .array .int
  | 1 => .array .int
  | 2 => .array .int
  | 3 => .boolean
  | 4 => .array .int
  | 5 => .array .int
  | 6 => .int
  | 7 => .array .int
  | 8 => .array .int
  | 9 => .array .int
  | 10 => .int
  | 11 => .int
  | 12 => .int
  | 13 => .int
  | 14 => .int
  | 15 => .int
  | 16 => .int
  | 17 => .array .char
  | 18 => .array .int
  | 19 => .array .int
  | 20 => .int
  | 21 => .int
  | 22 => .array .int
  | 23 => .int
  | 24 => .array .boolean
  | 25 => .array .int
  | 26 => .array .int
  | 27 => .array .int
  | 28 => .array .int
  | 29 => .array .int
  | 30 => .array .int
  | 31 => .array .int
  | 32 => .array .int
  | 33 => .array .int
  | 34 => .array .int
  | 35 => .array .int
  | _ => .int
abbrev wsX100 : List Cond := u_ws RX10 TX10 37
theorem nmX10 : ∀ a, a < 37 → ∀ b, b < 37 → a ≠ b → (TX10 a).2.1 ≠ (TX10 b).2.1 := by decide +kernel
theorem tyX10_ok : ∀ k, k < 37 → parseFieldDescriptor (TX10 k).2.2.1 = some (tyX10 k) := by decide +kernel
abbrev cX10_init : ByteArray := prog_12_method_1_code
def yX10_init : MethodName := ⟨RX10, "<init>", "()V"⟩
abbrev cX10_in : ByteArray := prog_12_method_2_code
def yX10_in : MethodName := ⟨RX10, "in", "(III)Z"⟩
abbrev cX10_within : ByteArray := prog_12_method_3_code
def yX10_within : MethodName := ⟨RX10, "within", "(III)I"⟩
abbrev cX10_copyAll : ByteArray := prog_12_method_4_code
def yX10_copyAll : MethodName := ⟨RX10, "copyAll", "([I[I)V"⟩
abbrev cX10_isThing : ByteArray := prog_12_method_5_code
def yX10_isThing : MethodName := ⟨RX10, "isThing", "(I)Z"⟩
abbrev cX10_isRoom : ByteArray := prog_12_method_6_code
def yX10_isRoom : MethodName := ⟨RX10, "isRoom", "(I)Z"⟩
abbrev cX10_of : ByteArray := prog_12_method_7_code
def yX10_of : MethodName := ⟨RX10, "of", "(II)I"⟩
abbrev cX10_put : ByteArray := prog_12_method_8_code
def yX10_put : MethodName := ⟨RX10, "put", "(III)V"⟩
abbrev cX10_swaps : ByteArray := prog_12_method_9_code
def yX10_swaps : MethodName := ⟨RX10, "swaps", "(II)I"⟩
abbrev cX10_burnsOf : ByteArray := prog_12_method_10_code
def yX10_burnsOf : MethodName := ⟨RX10, "burnsOf", "(I)I"⟩
abbrev cX10_givesOf : ByteArray := prog_12_method_11_code
def yX10_givesOf : MethodName := ⟨RX10, "givesOf", "(II)I"⟩
abbrev cX10_catchesOf : ByteArray := prog_12_method_12_code
def yX10_catchesOf : MethodName := ⟨RX10, "catchesOf", "(I)I"⟩
abbrev cX10_worthOf : ByteArray := prog_12_method_13_code
def yX10_worthOf : MethodName := ⟨RX10, "worthOf", "(I)I"⟩
abbrev cX10_isOf : ByteArray := prog_12_method_14_code
def yX10_isOf : MethodName := ⟨RX10, "isOf", "(II)Z"⟩
abbrev cX10_comes : ByteArray := prog_12_method_15_code
def yX10_comes : MethodName := ⟨RX10, "comes", "(IIII)I"⟩
abbrev cX10_thing : ByteArray := prog_12_method_16_code
def yX10_thing : MethodName := ⟨RX10, "thing", "(IIII)I"⟩
abbrev cX10_told : ByteArray := prog_12_method_17_code
def yX10_told : MethodName := ⟨RX10, "told", "(II)I"⟩
abbrev cX10_isUnder : ByteArray := prog_12_method_18_code
def yX10_isUnder : MethodName := ⟨RX10, "isUnder", "(II)Z"⟩
abbrev cX10_as : ByteArray := prog_12_method_19_code
def yX10_as : MethodName := ⟨RX10, "as", "(II)I"⟩
abbrev cX10_turns : ByteArray := prog_12_method_20_code
def yX10_turns : MethodName := ⟨RX10, "turns", "(II)I"⟩
abbrev cX10_set : ByteArray := prog_12_method_21_code
def yX10_set : MethodName := ⟨RX10, "set", "(III)I"⟩
abbrev cX10_draw : ByteArray := prog_12_method_22_code
def yX10_draw : MethodName := ⟨RX10, "draw", "()I"⟩
abbrev cX10_deal : ByteArray := prog_12_method_23_code
def yX10_deal : MethodName := ⟨RX10, "deal", "(I)I"⟩
abbrev cX10_seed : ByteArray := prog_12_method_24_code
def yX10_seed : MethodName := ⟨RX10, "seed", "(I)I"⟩
abbrev cX10_heat : ByteArray := prog_12_method_25_code
def yX10_heat : MethodName := ⟨RX10, "heat", "(I)I"⟩
abbrev cX10_heats : ByteArray := prog_12_method_26_code
def yX10_heats : MethodName := ⟨RX10, "heats", "(II)I"⟩
abbrev cX10_areTwo : ByteArray := prog_12_method_27_code
def yX10_areTwo : MethodName := ⟨RX10, "areTwo", "(II)Z"⟩
abbrev cX10_leaves : ByteArray := prog_12_method_28_code
def yX10_leaves : MethodName := ⟨RX10, "leaves", "(III)I"⟩
abbrev cX10_door : ByteArray := prog_12_method_29_code
def yX10_door : MethodName := ⟨RX10, "door", "(III)I"⟩
abbrev cX10_doorTold : ByteArray := prog_12_method_30_code
def yX10_doorTold : MethodName := ⟨RX10, "doorTold", "(II)I"⟩
abbrev cX10_rule : ByteArray := prog_12_method_31_code
def yX10_rule : MethodName := ⟨RX10, "rule", "(II)I"⟩
abbrev cX10_visitor : ByteArray := prog_12_method_32_code
def yX10_visitor : MethodName := ⟨RX10, "visitor", "(I)I"⟩
abbrev cX10_likes : ByteArray := prog_12_method_33_code
def yX10_likes : MethodName := ⟨RX10, "likes", "(II)I"⟩
abbrev cX10_gives : ByteArray := prog_12_method_34_code
def yX10_gives : MethodName := ⟨RX10, "gives", "(III)V"⟩
abbrev cX10_seats : ByteArray := prog_12_method_35_code
def yX10_seats : MethodName := ⟨RX10, "seats", "(I)I"⟩
abbrev cX10_way : ByteArray := prog_12_method_36_code
def yX10_way : MethodName := ⟨RX10, "way", "(II)I"⟩
abbrev cX10_burns : ByteArray := prog_12_method_37_code
def yX10_burns : MethodName := ⟨RX10, "burns", "(I)V"⟩
abbrev cX10_evens : ByteArray := prog_12_method_38_code
def yX10_evens : MethodName := ⟨RX10, "evens", "()V"⟩
abbrev cX10_catches : ByteArray := prog_12_method_39_code
def yX10_catches : MethodName := ⟨RX10, "catches", "()V"⟩
abbrev cX10_blows : ByteArray := prog_12_method_40_code
def yX10_blows : MethodName := ⟨RX10, "blows", "()V"⟩
abbrev cX10_minute : ByteArray := prog_12_method_41_code
def yX10_minute : MethodName := ⟨RX10, "minute", "()V"⟩
abbrev cX10_goesOn : ByteArray := prog_12_method_42_code
def yX10_goesOn : MethodName := ⟨RX10, "goesOn", "(I)V"⟩
abbrev cX10_allHeat : ByteArray := prog_12_method_43_code
def yX10_allHeat : MethodName := ⟨RX10, "allHeat", "()I"⟩
abbrev cX10_lit : ByteArray := prog_12_method_44_code
def yX10_lit : MethodName := ⟨RX10, "lit", "()I"⟩
abbrev cX10_bits : ByteArray := prog_12_method_45_code
def yX10_bits : MethodName := ⟨RX10, "bits", "(I)I"⟩
abbrev cX10_minutes : ByteArray := prog_12_method_46_code
def yX10_minutes : MethodName := ⟨RX10, "minutes", "(I)I"⟩
abbrev cX10_house : ByteArray := prog_12_method_47_code
def yX10_house : MethodName := ⟨RX10, "house", "(I)I"⟩
abbrev cX10_thinks : ByteArray := prog_12_method_48_code
def yX10_thinks : MethodName := ⟨RX10, "thinks", "()V"⟩
abbrev cX10_putsBack : ByteArray := prog_12_method_49_code
def yX10_putsBack : MethodName := ⟨RX10, "putsBack", "()V"⟩
abbrev cX10_behind : ByteArray := prog_12_method_50_code
def yX10_behind : MethodName := ⟨RX10, "behind", "(II)I"⟩
abbrev cX10_out : ByteArray := prog_12_method_51_code
def yX10_out : MethodName := ⟨RX10, "out", "()I"⟩
abbrev cX10_hot : ByteArray := prog_12_method_52_code
def yX10_hot : MethodName := ⟨RX10, "hot", "(I)I"⟩
abbrev cX10_burntBy : ByteArray := prog_12_method_53_code
def yX10_burntBy : MethodName := ⟨RX10, "burntBy", "(I)I"⟩
abbrev cX10_shut : ByteArray := prog_12_method_54_code
def yX10_shut : MethodName := ⟨RX10, "shut", "(II)I"⟩
abbrev cX10_hired : ByteArray := prog_12_method_55_code
def yX10_hired : MethodName := ⟨RX10, "hired", "(II)I"⟩
abbrev cX10_becomes : ByteArray := prog_12_method_56_code
def yX10_becomes : MethodName := ⟨RX10, "becomes", "(III)I"⟩
abbrev cX10_isSo : ByteArray := prog_12_method_57_code
def yX10_isSo : MethodName := ⟨RX10, "isSo", "(I)Z"⟩
abbrev cX10_began : ByteArray := prog_12_method_58_code
def yX10_began : MethodName := ⟨RX10, "began", "(I)I"⟩
abbrev cX10_like : ByteArray := prog_12_method_59_code
def yX10_like : MethodName := ⟨RX10, "like", "(II)I"⟩
abbrev cX10_fee : ByteArray := prog_12_method_60_code
def yX10_fee : MethodName := ⟨RX10, "fee", "()I"⟩
abbrev cX10_fine : ByteArray := prog_12_method_61_code
def yX10_fine : MethodName := ⟨RX10, "fine", "(I)I"⟩
abbrev cX10_feed : ByteArray := prog_12_method_62_code
def yX10_feed : MethodName := ⟨RX10, "feed", "(III)I"⟩
abbrev cX10_trim : ByteArray := prog_12_method_63_code
def yX10_trim : MethodName := ⟨RX10, "trim", "(I)I"⟩
abbrev cX10_isLetter : ByteArray := prog_12_method_64_code
def yX10_isLetter : MethodName := ⟨RX10, "isLetter", "(I)Z"⟩
abbrev cX10_isFigure : ByteArray := prog_12_method_65_code
def yX10_isFigure : MethodName := ⟨RX10, "isFigure", "(I)Z"⟩
abbrev cX10_go : ByteArray := prog_12_method_66_code
def yX10_go : MethodName := ⟨RX10, "go", "()V"⟩
abbrev cX10_takesKey : ByteArray := prog_12_method_67_code
def yX10_takesKey : MethodName := ⟨RX10, "takesKey", "()Z"⟩
abbrev cX10_nameOf : ByteArray := prog_12_method_68_code
def yX10_nameOf : MethodName := ⟨RX10, "nameOf", "(I)I"⟩
abbrev cX10_rank : ByteArray := prog_12_method_69_code
def yX10_rank : MethodName := ⟨RX10, "rank", "(I)I"⟩
abbrev cX10_settle : ByteArray := prog_12_method_70_code
def yX10_settle : MethodName := ⟨RX10, "settle", "(I)V"⟩
abbrev cX10_signHere : ByteArray := prog_12_method_71_code
def yX10_signHere : MethodName := ⟨RX10, "signHere", "()I"⟩
abbrev cX10_takesPart : ByteArray := prog_12_method_72_code
def yX10_takesPart : MethodName := ⟨RX10, "takesPart", "()Z"⟩
abbrev cX10_takesE : ByteArray := prog_12_method_73_code
def yX10_takesE : MethodName := ⟨RX10, "takesE", "()Z"⟩
abbrev cX10_notsOpen : ByteArray := prog_12_method_74_code
def yX10_notsOpen : MethodName := ⟨RX10, "notsOpen", "()I"⟩
abbrev cX10_text : ByteArray := prog_12_method_75_code
def yX10_text : MethodName := ⟨RX10, "text", "()I"⟩
abbrev cX10_textTold : ByteArray := prog_12_method_76_code
def yX10_textTold : MethodName := ⟨RX10, "textTold", "(II)I"⟩
abbrev cX10_counts : ByteArray := prog_12_method_77_code
def yX10_counts : MethodName := ⟨RX10, "counts", "(I)I"⟩
abbrev cX10_why : ByteArray := prog_12_method_78_code
def yX10_why : MethodName := ⟨RX10, "why", "(I)I"⟩
abbrev cX10_two : ByteArray := prog_12_method_79_code
def yX10_two : MethodName := ⟨RX10, "two", "(III)I"⟩
abbrev cX10_worksOut : ByteArray := prog_12_method_80_code
def yX10_worksOut : MethodName := ⟨RX10, "worksOut", "(I)I"⟩
abbrev cX10_isSheet : ByteArray := prog_12_method_81_code
def yX10_isSheet : MethodName := ⟨RX10, "isSheet", "(I)Z"⟩
abbrev cX10_isSlot : ByteArray := prog_12_method_82_code
def yX10_isSlot : MethodName := ⟨RX10, "isSlot", "(I)Z"⟩
abbrev cX10_sheet : ByteArray := prog_12_method_83_code
def yX10_sheet : MethodName := ⟨RX10, "sheet", "(III)I"⟩
abbrev cX10_mark : ByteArray := prog_12_method_84_code
def yX10_mark : MethodName := ⟨RX10, "mark", "(III)I"⟩
abbrev cX10_pour : ByteArray := prog_12_method_85_code
def yX10_pour : MethodName := ⟨RX10, "pour", "(I)I"⟩
abbrev cX10_reads : ByteArray := prog_12_method_86_code
def yX10_reads : MethodName := ⟨RX10, "reads", "(I)I"⟩
abbrev cX10_copy : ByteArray := prog_12_method_87_code
def yX10_copy : MethodName := ⟨RX10, "copy", "(IIIII)I"⟩
abbrev cX10_lay : ByteArray := prog_12_method_88_code
def yX10_lay : MethodName := ⟨RX10, "lay", "(III)I"⟩
abbrev cX10_ask : ByteArray := prog_12_method_89_code
def yX10_ask : MethodName := ⟨RX10, "ask", "(II)I"⟩
abbrev cX10_item : ByteArray := prog_12_method_90_code
def yX10_item : MethodName := ⟨RX10, "item", "(II)I"⟩
abbrev cX10_rest : ByteArray := prog_12_method_91_code
def yX10_rest : MethodName := ⟨RX10, "rest", "(II)I"⟩
abbrev cX10_tell : ByteArray := prog_12_method_92_code
def yX10_tell : MethodName := ⟨RX10, "tell", "(I)I"⟩
abbrev cX10_check : ByteArray := prog_12_method_93_code
def yX10_check : MethodName := ⟨RX10, "check", "(I)I"⟩
abbrev cX10_keep : ByteArray := prog_12_method_94_code
def yX10_keep : MethodName := ⟨RX10, "keep", "()I"⟩
abbrev cX10_back : ByteArray := prog_12_method_95_code
def yX10_back : MethodName := ⟨RX10, "back", "()I"⟩
abbrev cX10_count : ByteArray := prog_12_method_96_code
def yX10_count : MethodName := ⟨RX10, "count", "(I)I"⟩
def RL : String := "CopiedFireLaw"
abbrev cL_law : ByteArray := code
def yL_law : MethodName := ⟨RL, "law", "([I)Z"⟩
abbrev vwCl : List vw_C := [(RX0, TX0, 19), (RX2, TX2, 2), (RX3, TX3, 9), (RX4, TX4, 2), (RX5, TX5, 3), (RX6, TX6, 5), (RX7, TX7, 2), (RX8, TX8, 3), (RX9, TX9, 13), (RX10, TX10, 37)]
end
section
/-! ===== the abstract judgement: one world of all cells, states of numbers, one rule an instruction ===== -/
def TB : List Cond := lw_tbl.filter goodWord
theorem TBm {w : Cond} (h : w ∈ lw_tbl) (g : goodWord w = true) : w ∈ TB := List.mem_filter.mpr ⟨h, g⟩
theorem TBg {y : MethodName} {cc : ByteArray} {n : Nat} {r : Option FieldType} (h : Cond.code y cc n r ∈ TB) : GoodIn TB (Cond.code y cc n r :: TB) := by
  intro w hw
  have hw : w ∈ TB := by
    rcases List.mem_cons.mp hw with rfl | hw
    · exact h
    · exact hw
  exact ⟨hw, good_of_word (List.mem_filter.mp hw).2⟩
def gNst : Cond → Bool
  | .fieldLinkNest .. => true
  | .methodLinkNest .. => true
  | _ => false
def NW : List Cond := lw_tbl.filter gNst
theorem NWm {w : Cond} (h : w ∈ lw_tbl) (g : gNst w = true) : w ∈ NW := List.mem_filter.mpr ⟨h, g⟩
def gNw (U : State) : Prop := ∀ w ∈ NW, va_Nw w U
theorem gNw.warm {s U : State} (hW : s.WarmedH U.vm) (h : gNw s) : gNw U := by
  intro w hw
  have h1 := h w hw
  have h2 := (List.mem_filter.mp hw).2
  cases w <;> first | exact va_Nw.warmF hW h1 | exact va_Nw.warmM hW h1 | (simp [gNst] at h2)
theorem gNw.same {s U : State} (hv : s.vm = U.vm) (h : gNw s) : gNw U := by
  intro w hw
  have h1 := h w hw
  have h2 := (List.mem_filter.mp hw).2
  cases w <;> first | (simp [gNst] at h2; done) | exact va_Nw.same rfl hv h1
theorem gNw.use {s : State} (h : gNw s) {w : Cond} (hw : w ∈ NW) (args : Array Value) : w.before args s = true := by
  have h1 := h w hw
  have h2 := (List.mem_filter.mp hw).2
  cases w <;> first | (simp [gNst] at h2; done) | exact va_Nw.use rfl h1
/-- a state: cell, slot, number -/
abbrev gS : Type := Nat → Nat → Int32
def gu (σ : gS) (i k : Nat) (v : Int32) : gS := fun a => if a = i then upd (σ i) k v else σ a
/-- a shape: an object (its class's number, its slots: a number, or a reference to a cell or to none), or an array (its type's number, its length; references) -/
abbrev gH : Type := (Nat × List (Option (Option Nat))) ⊕ (Nat × Nat × Option (Nat → Option Nat))
def gV (ad : Nat → Nat) (f : Nat → Int32) (k : Nat) (o : Option (Option Nat)) : Value := match o with
  | none => .int (f k)
  | some r => va_rf (r.map ad)
def gE (cy : Nat → ClassId) (ad : Nat → Nat) (h : gH) (f : Nat → Int32) : va_E := match h with
  | .inl (ci, fs) => .inr (ci, fs.mapIdx (gV ad f))
  | .inr (t, n, none) => .inl (cy t, n, .inl f)
  | .inr (t, n, some rs) => .inl (cy t, n, .inr (.inr (.inr (.inr (fun k => (rs k).map ad)))))
def gCell (cy : Nat → ClassId) (ad : Nat → Nat) (σ : gS) (i : Nat) (h : gH) : Nat × va_E := (ad i, gE cy ad h (σ i))
def gW (cy : Nat → ClassId) (Z : List gH) (ad : Nat → Nat) (σ : gS) : va_W := Z.mapIdx (gCell cy ad σ)
theorem gW_at {cy : Nat → ClassId} {Z : List gH} {ad : Nat → Nat} {σ : gS} {i : Nat} {h : gH} (hl : Z[i]? = some h) : (gW cy Z ad σ)[i]? = some (ad i, gE cy ad h (σ i)) := by
  unfold gW
  rw [List.getElem?_mapIdx, hl]
  rfl
theorem gu_same (σ : gS) (i k : Nat) (v : Int32) : gu σ i k v i = upd (σ i) k v := by simp [gu]
theorem gu_ne (σ : gS) {i a : Nat} (k : Nat) (v : Int32) (h : a ≠ i) : gu σ i k v a = σ a := by simp [gu, h]
/-- one cell's numbers become others -/
def gp (σ : gS) (i : Nat) (f : Nat → Int32) : gS := fun a => if a = i then f else σ a
theorem gu_gp (σ : gS) (i k : Nat) (v : Int32) : gu σ i k v = gp σ i (upd (σ i) k v) := rfl
theorem gW_setp {cy : Nat → ClassId} {Z : List gH} {ad : Nat → Nat} {σ : gS} {i : Nat} {f : Nat → Int32} {h : gH} (hl : Z[i]? = some h) {e : Nat × va_E} (he : e = (ad i, gE cy ad h f)) : (gW cy Z ad σ).set i e = gW cy Z ad (gp σ i f) := by
  have hi : i < Z.length := (List.getElem?_eq_some_iff.mp hl).1
  unfold gW
  apply List.ext_getElem?
  intro j
  rw [List.getElem?_set, List.getElem?_mapIdx, List.getElem?_mapIdx]
  by_cases hj : i = j
  · subst hj
    rw [hl, if_pos rfl, if_pos (by simpa using hi), he]
    simp [gCell, gp]
  · simp only [hj, if_false]
    cases hq : Z[j]? with
    | none => rfl
    | some q => simp [gCell, gp, Ne.symm hj]
theorem gW_set {cy : Nat → ClassId} {Z : List gH} {ad : Nat → Nat} {σ : gS} {i k : Nat} {v : Int32} {h : gH} (hl : Z[i]? = some h) {e : Nat × va_E} (he : e = (ad i, gE cy ad h (upd (σ i) k v))) : (gW cy Z ad σ).set i e = gW cy Z ad (gu σ i k v) := gW_setp hl he
theorem gV_set {ad : Nat → Nat} {f : Nat → Int32} {fs : List (Option (Option Nat))} {k : Nat} {v : Int32} (h : fs[k]? = some none) : (fs.mapIdx (gV ad f)).set k (.int v) = fs.mapIdx (gV ad (upd f k v)) := by
  have hk : k < fs.length := (List.getElem?_eq_some_iff.mp h).1
  apply List.ext_getElem?
  intro j
  rw [List.getElem?_set, List.getElem?_mapIdx, List.getElem?_mapIdx]
  by_cases hj : k = j
  · subst hj
    rw [h, if_pos rfl, if_pos (by simpa using hk)]
    simp [gV, upd]
  · simp only [hj, if_false]
    cases hq : fs[j]? with
    | none => rfl
    | some q => cases q <;> simp [gV, upd, Ne.symm hj]
theorem gV_at {ad : Nat → Nat} {f : Nat → Int32} {fs : List (Option (Option Nat))} {k : Nat} {o : Option (Option Nat)} (h : fs[k]? = some o) : (fs.mapIdx (gV ad f))[k]? = some (gV ad f k o) := by
  rw [List.getElem?_mapIdx, h]; rfl
/-- the addresses of a world are its layout's -/
theorem gW_fst {cy : Nat → ClassId} {Z : List gH} {ad : Nat → Nat} {σ σ' : gS} : (gW cy Z ad σ).map (·.1) = (gW cy Z ad σ').map (·.1) := by
  unfold gW
  apply List.ext_getElem?
  intro j
  rw [List.getElem?_map, List.getElem?_map, List.getElem?_mapIdx, List.getElem?_mapIdx]
  cases Z[j]? <;> rfl
theorem gD_iff {A : Nat → Prop} {ws : va_W} : va_D A ws ↔ (ws.map (·.1)).Nodup ∧ ∀ a ∈ ws.map (·.1), A a := by
  constructor
  · intro h
    refine ⟨?_, fun a ha => ?_⟩
    · unfold List.Nodup
      rw [List.pairwise_iff_getElem]
      intro i j hi hj hij heq
      rw [List.length_map] at hi hj
      rw [List.getElem_map, List.getElem_map] at heq
      have := h.1 i j _ _ (List.getElem?_eq_getElem hi) (List.getElem?_eq_getElem hj) heq
      omega
    · obtain ⟨q, hq, rfl⟩ := List.mem_map.mp ha
      obtain ⟨k, hk⟩ := List.getElem?_of_mem hq
      exact h.2 k q hk
  · rintro ⟨h1, h2⟩
    refine ⟨fun i j p q hi hj e => ?_, fun k q hk => h2 _ (List.mem_map.mpr ⟨q, List.mem_of_getElem? hk, rfl⟩)⟩
    unfold List.Nodup at h1
    rw [List.pairwise_iff_getElem] at h1
    obtain ⟨li, ei⟩ := List.getElem?_eq_some_iff.mp hi
    obtain ⟨lj, ej⟩ := List.getElem?_eq_some_iff.mp hj
    rcases Nat.lt_trichotomy i j with h | h | h
    · exact absurd (by rw [List.getElem_map, List.getElem_map, ei, ej]; exact e) (h1 i j (by simpa using li) (by simpa using lj) h)
    · exact h
    · exact absurd (by rw [List.getElem_map, List.getElem_map, ei, ej]; exact e.symm) (h1 j i (by simpa using lj) (by simpa using li) h)
theorem gD_fst {A : Nat → Prop} {ws ws' : va_W} (h : ws.map (·.1) = ws'.map (·.1)) (hD : va_D A ws) : va_D A ws' := by
  rw [gD_iff] at hD ⊢
  rw [← h]
  exact hD
theorem gD_perm {A : Nat → Prop} {ws ws' : va_W} (h : ws.Perm ws') (hD : va_D A ws) : va_D A ws' := by
  rw [gD_iff] at hD ⊢
  have hp := h.map (fun q : Nat × va_E => q.1)
  exact ⟨hp.nodup_iff.mp hD.1, fun a ha => hD.2 a (hp.mem_iff.mpr ha)⟩
theorem gP_perm {D : va_G} {cl : List vw_C} {ws ws' : va_W} {H : Heap} (h : ws.Perm ws') (hP : va_P D cl ws H) : va_P D cl ws' H := by
  intro k q hk
  have hq : q ∈ ws := h.mem_iff.mpr (List.mem_of_getElem? hk)
  obtain ⟨j, hj⟩ := List.getElem?_of_mem hq
  exact hP j q hj
theorem gA_iff {ws : va_W} {sz q : Nat} : va_A ws sz q ↔ q ∈ ws.map (·.1) ∨ sz ≤ q := by
  unfold va_A
  constructor
  · rintro (⟨k, e, h⟩ | h)
    · exact Or.inl (List.mem_map.mpr ⟨(q, e), List.mem_of_getElem? h, rfl⟩)
    · exact Or.inr h
  · rintro (h | h)
    · obtain ⟨⟨a, e⟩, hm, rfl⟩ := List.mem_map.mp h
      obtain ⟨k, hk⟩ := List.getElem?_of_mem hm
      exact Or.inl ⟨k, e, hk⟩
    · exact Or.inr h
-- the judgement
def gTy (cy : Nat → ClassId) : List (ClassId × FieldType) := [(cy 0, .int), (cy 1, .char), (cy 2, .boolean), (cy 3, .object "CopiedFire$Sheet"), (cy 4, .object "CopiedFire$Slot"), (cy 5, .object "CopiedFire$Text")]
/-- what is kept beside the world: nest words (statics and text constants come here) -/
def gY (A : Nat → Prop) (U : State) : Prop := gNw U
theorem gY.nw {A : Nat → Prop} {U : State} (h : gY A U) : gNw U := h
theorem gY.use {A : Nat → Prop} {U : State} (h : gY A U) {w : Cond} (hw : w ∈ NW) (args : Array Value) : w.before args U = true := h.nw.use hw args
theorem gY.weaken {A B : Nat → Prop} {U : State} (_ : ∀ q, B q → A q) (h : gY A U) : gY B U := h
theorem gY.moved {A : Nat → Prop} {U V : State} {H : Heap} {locs : List Loc} (hW : U.WarmedH V.vm) (hS : va_S A U.heap H locs) (hH : V.heap = H) (h : gY A U) : gY A V := gNw.warm hW h
theorem gY.same {A : Nat → Prop} {U V : State} (hv : U.vm = V.vm) (hH : U.heap = V.heap) (h : gY A U) : gY A V := gNw.same hv h
def gPre (D : va_G) (cy : Nat → ClassId) (ws : va_W) (A : Nat → Prop) (U : State) : Prop := va_P D vwCl ws U.heap ∧ va_K D vwCl (gTy cy) U ∧ va_D (fun _ => True) ws ∧ gY A U
def gB (D : va_G) (cy : Nat → ClassId) (Z : List gH) (ad : Nat → Nat) (σ : gS) (t : State) : Prop := va_P D vwCl (gW cy Z ad σ) t.heap
def gQ (rt : Option FieldType) (B : gS → State → Prop) (A : Nat → Prop) (z : Int32 × gS) : Array Value → State → Outcome → State → Prop := match rt with
  | none => va_Qv (fun u : gS => u = z.2) B A
  | some _ => va_Qi (fun (r : Int32) (u : gS) => (r, u) = z) B A
/-- the room of a method of height L that makes nothing -/
def gR (L : Nat) : Room := { frames := L, cells := 0, slots := 0, locals := 64 * L }
/-- the contract of a method that makes nothing: what F gives, the bytecode does -/
def gMet (y : MethodName) (cc : ByteArray) (nL : Nat) (rt : Option FieldType) (L : Nat) (Z : List gH) (av : (Nat → Nat) → List Value) (F : gS → Option (Int32 × gS)) : Prop :=
  ∀ (l : Launch) (D : va_G) (cy : Nat → ClassId) (ad : Nat → Nat) (sz : Nat) (σ : gS) (z : Int32 × gS), F σ = some z →
    Met l y (Cond.code y cc nL rt :: TB) (gR L) (va_Pc (av ad) (fun U => U.heap.size = sz ∧ gPre D cy (gW cy Z ad σ) (va_A (gW cy Z ad σ) sz) U)) (gQ rt (gB D cy Z ad) (va_A (gW cy Z ad σ) sz) z) 0 0 (va_A (gW cy Z ad σ) sz)
def gJ (p : Program) (l : Launch) (e : Env) (R : Room) (s : State) (m : MethodId) (args : Array Value) (below : List Frame) (meth : Method) (c : Code) (Q : State → Prop) (A : Nat → Prop) (nL : Nat) (D : va_G) (cy : Nat → ClassId) (Z : List gH) (ad : Nat → Nat) (nc ns : Nat) (pc : Nat) (ls : List (Nat × Value)) (st : List Value) (σ : gS) : Prop :=
  ∀ (H : Heap) (locs : List Loc) (la : Array Slot), va_P D vwCl (gW cy Z ad σ) H → va_D A (gW cy Z ad σ) → va_S A s.heap H locs → lv_has la nL ls → W p l e R s m args below meth c H locs nc ns Q (F0 m pc la st)
/-- g is a good judgement of a method's body: its instructions, class, layout, room; Q is the end -/
def gOkQ (g : Nat → List (Nat × Value) → List Value → gS → Prop) (T : List (Nat × Instr × Nat)) (own : String) (nL : Nat) (rt : Option FieldType) (R : Room) (Z : List gH) (ad : Nat → Nat) (nc ns : Nat) (E : (p : Program) → (l : Launch) → (e : Env) → (s : State) → (m : MethodId) → (args : Array Value) → (below : List Frame) → (meth : Method) → (c : Code) → (A : Nat → Prop) → (D : va_G) → (cy : Nat → ClassId) → (Q : State → Prop) → Prop) : Prop :=
  ∃ (p : Program) (l : Launch) (e : Env) (s : State) (m : MethodId) (args : Array Value) (below : List Frame) (meth : Method) (c : Code) (A : Nat → Prop) (D : va_G) (cy : Nat → ClassId) (Q : State → Prop),
    p.tables.exec = Jvm.exec ∧ (∀ (j pc : Nat) (i : Instr) (n : Nat), T[j]? = some (pc, i, n) → decode c.code pc = .ok (i, n)) ∧ meth.sig.returnType = rt ∧ c.maxLocals = nL ∧ s.vm.findClass own = some m.cls ∧ (∀ w ∈ TB, w.before args s = true) ∧ meth.locks = false ∧ va_K D vwCl (gTy cy) s ∧ (∀ q, s.heap.size ≤ q → A q) ∧ gY A s ∧ E p l e s m args below meth c A D cy Q ∧ nc ≤ R.cells ∧ ns ≤ R.slots ∧
    g = gJ p l e R s m args below meth c Q A nL D cy Z ad nc ns
abbrev gOk (g : Nat → List (Nat × Value) → List Value → gS → Prop) (T : List (Nat × Instr × Nat)) (own : String) (nL : Nat) (rt : Option FieldType) (L : Nat) (Z : List gH) (ad : Nat → Nat) (z : Int32 × gS) : Prop :=
  gOkQ g T own nL rt (gR L) Z ad 0 0 (fun _ _ _ s _ args below _ _ A D cy Q => Q = MQ below (gQ rt (gB D cy Z ad) A z) args s 0 0 A)
def gTb (cc : ByteArray) (T : List (Nat × Instr × Nat)) : Bool := T.all (fun q => decide (decode cc q.1 = .ok q.2))
theorem gTb_ok {cc : ByteArray} {T : List (Nat × Instr × Nat)} (h : gTb cc T = true) (j pc : Nat) (i : Instr) (n : Nat) (hj : T[j]? = some (pc, i, n)) : decode cc pc = .ok (i, n) :=
  of_decide_eq_true (List.all_eq_true.mp h (pc, i, n) (List.mem_of_getElem? hj))
theorem gMet_intro {y : MethodName} {cc : ByteArray} {nL : Nat} {rt : Option FieldType} {L : Nat} {Z : List gH} {av : (Nat → Nat) → List Value} {F : gS → Option (Int32 × gS)} (T : List (Nat × Instr × Nat)) (hT : gTb cc T = true) (hy : plainName y.cls = true) (hn : ∀ ad, (lg_sl (av ad)).length ≤ nL)
    (body : ∀ (g : Nat → List (Nat × Value) → List Value → gS → Prop) (ad : Nat → Nat) (σ : gS) (z : Int32 × gS), gOk g T y.cls nL rt L Z ad z → F σ = some z → g 0 (lv_args 0 (av ad)) [] σ) : gMet y cc nL rt L Z av F := by
  intro l D cy ad sz σ z hF
  refine Met.ofW (cc := cc) (maxL := nL) (ret := rt) hy rfl ?_
  intro p e s m args below meth c s₁ B hml hv
  obtain ⟨rfl, hsz, hP, hK, hD0, hY⟩ := hv
  subst hsz
  have hts := atoms_spec (ws := Cond.code y cc nL rt :: TB) B.pre
  have hown : s.vm.findClass y.cls = some m.cls := findClass_of_methodNamed B.named
  have hD := hD0.self (sz := s.heap.size)
  have hl := lv_entry (av ad) (n := nL) (hn ad)
  rw [lg_entry_eq]
  have hTT : ∀ (j pc : Nat) (i : Instr) (n : Nat), T[j]? = some (pc, i, n) → decode c.code pc = .ok (i, n) := by
    rw [B.bytes]; exact gTb_ok hT
  exact body _ ad σ z ⟨p, l, e, s, m, _, below, meth, c, va_A (gW cy Z ad σ) s.heap.size, D, cy, _, B.exec, hTT, B.returns, hml, hown, fun w hw => hts w (List.mem_cons_of_mem _ hw), B.notSynchronized, hK, fun q h => Or.inr h, hY, rfl, Nat.le_refl _, Nat.le_refl _, rfl⟩ hF _ _ _ hP hD va_S.rf hl
end
section
/-! ===== words of the functions that a program writes out of the bytecode ===== -/
abbrev nn (x : Int32) : Nat := x.toNatClampNeg
def mIn {α : Type} (n : Nat) (x : Int32) (a : Option α) : Option α := if ¬ (x < 0 ∨ n ≤ nn x) then a else none
def mLet {α β : Type} (a : α) (f : α → β) : β := f a
def mCall {α β : Type} (a : Option (β × gS)) (f : β → gS → Option α) : Option α := match a with
  | none => none
  | some q => f q.1 q.2
def mNz {α : Type} (y : Int32) (a : Option α) : Option α := if y = 0 then none else a
def mZ (v : Int32) (σ : gS) : Option (Int32 × gS) := if v = 0 ∨ v = 1 then some (v, σ) else none
def mRem (x y : Int32) : Int32 := x - x / y * y
def mUsr (x y : Int32) : Int32 := (x.toUInt32 >>> (y.toUInt32 &&& Int32.toUInt32 31)).toInt32
def mMin (x y : Int32) : Int32 := if y < x then y else x
def mMax (x y : Int32) : Int32 := if x < y then y else x
def mAbs (x : Int32) : Int32 := if 0 ≤ x then x else 0 - x
def mSome {α β : Type} (o : Option β) (f : β → Option α) : Option α := match o with
  | none => none
  | some c => f c
/-- System.arraycopy of ints, from the cell a (length n0) to the cell b (length n1) -/
def mCopy {α : Type} (n0 n1 : Nat) (σ : gS) (a : Nat) (sp : Int32) (b : Nat) (dp n : Int32) (f : gS → Option α) : Option α :=
  if ¬ sp < 0 ∧ ¬ dp < 0 ∧ ¬ n < 0 ∧ nn sp + nn n ≤ n0 ∧ nn dp + nn n ≤ n1 then f (gp σ b (va_cpy (σ a) (σ b) (nn sp) (nn dp) (nn n))) else none
/-- a field reference of the class own: the class number and the slot; its link stands among the words -/
def gFl (own : String) (index ci k : Nat) : Prop := ∃ (C : String) (T : u_T) (N : Nat), vwCl[ci]? = some (C, T, N) ∧ k < N ∧ (∀ w ∈ u_ws C T N, w ∈ TB) ∧ (Cond.fieldLink own index (T k).1 (T k).2.1 (T k).2.2.1 ∈ TB ∨ ∃ host, Cond.fieldLinkNest own index (T k).1 (T k).2.1 (T k).2.2.1 host ∈ NW)
def gFp (own : String) (index ci k : Nat) (ty : FieldType) : Prop := ∃ (C : String) (T : u_T) (N : Nat), vwCl[ci]? = some (C, T, N) ∧ k < N ∧ (∀ w ∈ u_ws C T N, w ∈ TB) ∧ (∃ ty0 : Nat → FieldType, ∀ k, k < N → parseFieldDescriptor (T k).2.2.1 = some (ty0 k)) ∧ (∀ a, a < N → ∀ b, b < N → a ≠ b → (T a).2.1 ≠ (T b).2.1) ∧ (T k).2.2.2 = false ∧ parseFieldDescriptor (T k).2.2.1 = some ty ∧ (Cond.fieldLink own index (T k).1 (T k).2.1 (T k).2.2.1 ∈ TB ∨ ∃ host, Cond.fieldLinkNest own index (T k).1 (T k).2.1 (T k).2.2.1 host ∈ NW)
/-- a method's words, and those of a link to it -/
def gCw (y : MethodName) (cc : ByteArray) (nL : Nat) (rt : Option FieldType) (n : Nat) : Prop := Cond.code y cc nL rt ∈ TB ∧ Cond.initialized y.cls ∈ TB ∧ (y.cls ≠ "java/lang/invoke/MethodHandle" ∧ y.cls ≠ "java/lang/invoke/VarHandle" ∧ (parseMethodDescriptor y.desc).map (fun d => d.parameters.length) = some n)
def gCi (y : MethodName) : Prop := Cond.instanceMethod y ∈ TB ∧ Cond.selects y.cls y y ∈ TB
def gCs (y : MethodName) : Prop := Cond.static y ∈ TB
def gCn (own : String) (index : Nat) (y : MethodName) : Prop := Cond.methodLink own index y ∈ TB ∨ ∃ host, Cond.methodLinkNest own index y host ∈ NW
theorem h_in {α : Type} {x : Int32} {n : Nat} {a : Option α} {z : α} (h : mIn n x a = some z) : vp_in x n ∧ a = some z := by
  unfold mIn at h
  by_cases hc : ¬ (x < 0 ∨ n ≤ nn x)
  · rw [if_pos hc] at h
    exact ⟨hc, h⟩
  · rw [if_neg hc] at h
    cases h
section
variable {g : Nat → List (Nat × Value) → List Value → gS → Prop} {T : List (Nat × Instr × Nat)} {own : String} {nL : Nat} {rt : Option FieldType} {R : Room} {Z : List gH} {ad : Nat → Nat} {nc ns : Nat} {E : (p : Program) → (l : Launch) → (e : Env) → (s : State) → (m : MethodId) → (args : Array Value) → (below : List Frame) → (meth : Method) → (c : Code) → (A : Nat → Prop) → (D : va_G) → (cy : Nat → ClassId) → (Q : State → Prop) → Prop} {pc : Nat} {ls : List (Nat × Value)} {st : List Value} {σ : gS} {α : Type} {z : α}
theorem g_iconst (C : gOkQ g T own nL rt R Z ad nc ns E) (j : Nat) {n : Int} {v : Int32} (hd : T[j]? = some (pc, .iconst n, 1)) (hv : Int32.ofInt n = v) (k : g (pc + 1) ls (.int v :: st) σ) : g pc ls st σ := by
  obtain ⟨p, l, e, s, m, args, below, meth, c, A, D, cy, Q, hx, hT, hr, hml, hown, hts, hlk, hK, hA, hY, hE, hnc, hns, rfl⟩ := C
  intro H locs la hP hD hS hl
  exact lv_iconst hx rfl (hT j _ _ _ hd) hv (k H locs la hP hD hS hl)
theorem g_bipush (C : gOkQ g T own nL rt R Z ad nc ns E) (j : Nat) {n : Int} {v : Int32} (hd : T[j]? = some (pc, .bipush n, 2)) (hv : (Int8.ofInt n).toInt32 = v) (k : g (pc + 2) ls (.int v :: st) σ) : g pc ls st σ := by
  obtain ⟨p, l, e, s, m, args, below, meth, c, A, D, cy, Q, hx, hT, hr, hml, hown, hts, hlk, hK, hA, hY, hE, hnc, hns, rfl⟩ := C
  intro H locs la hP hD hS hl
  exact lv_bipush hx rfl (hT j _ _ _ hd) hv (k H locs la hP hD hS hl)
theorem g_sipush (C : gOkQ g T own nL rt R Z ad nc ns E) (j : Nat) {n : Int} {v : Int32} (hd : T[j]? = some (pc, .sipush n, 3)) (hv : (Int16.ofInt n).toInt32 = v) (k : g (pc + 3) ls (.int v :: st) σ) : g pc ls st σ := by
  obtain ⟨p, l, e, s, m, args, below, meth, c, A, D, cy, Q, hx, hT, hr, hml, hown, hts, hlk, hK, hA, hY, hE, hnc, hns, rfl⟩ := C
  intro H locs la hP hD hS hl
  exact lv_sipush hx rfl (hT j _ _ _ hd) hv (k H locs la hP hD hS hl)
theorem g_ldc (C : gOkQ g T own nL rt R Z ad nc ns E) (j : Nat) {index : Nat} {v : Int32} (hd : T[j]? = some (pc, .ldc index, 2)) (hw : Cond.constant own index v ∈ TB) (k : g (pc + 2) ls (.int v :: st) σ) : g pc ls st σ := by
  obtain ⟨p, l, e, s, m, args, below, meth, c, A, D, cy, Q, hx, hT, hr, hml, hown, hts, hlk, hK, hA, hY, hE, hnc, hns, rfl⟩ := C
  intro H locs la hP hD hS hl
  exact lv_ldc hx rfl hown (hts _ hw) (hT j _ _ _ hd) (k H locs la hP hD hS hl)
theorem g_ldcw (C : gOkQ g T own nL rt R Z ad nc ns E) (j : Nat) {index : Nat} {v : Int32} (hd : T[j]? = some (pc, .ldc_w index, 3)) (hw : Cond.constant own index v ∈ TB) (k : g (pc + 3) ls (.int v :: st) σ) : g pc ls st σ := by
  obtain ⟨p, l, e, s, m, args, below, meth, c, A, D, cy, Q, hx, hT, hr, hml, hown, hts, hlk, hK, hA, hY, hE, hnc, hns, rfl⟩ := C
  intro H locs la hP hD hS hl
  exact lv_ldcw hx rfl hown (hts _ hw) (hT j _ _ _ hd) (k H locs la hP hD hS hl)
theorem g_iload (C : gOkQ g T own nL rt R Z ad nc ns E) (j : Nat) {i : Nat} {x : Int32} (q : Nat) (hd : T[j]? = some (pc, .iload i, 2)) (hj : ls[q]? = some (i, .int x)) (k : g (pc + 2) ls (.int x :: st) σ) : g pc ls st σ := by
  obtain ⟨p, l, e, s, m, args, below, meth, c, A, D, cy, Q, hx, hT, hr, hml, hown, hts, hlk, hK, hA, hY, hE, hnc, hns, rfl⟩ := C
  intro H locs la hP hD hS hl
  exact lv_iload hx rfl (hT j _ _ _ hd) (lv_at hl q hj) (k H locs la hP hD hS hl)
theorem g_iload_n (C : gOkQ g T own nL rt R Z ad nc ns E) (j : Nat) {i : Fin 4} {x : Int32} (q : Nat) (hd : T[j]? = some (pc, .iload_n i, 1)) (hj : ls[q]? = some (i.val, .int x)) (k : g (pc + 1) ls (.int x :: st) σ) : g pc ls st σ := by
  obtain ⟨p, l, e, s, m, args, below, meth, c, A, D, cy, Q, hx, hT, hr, hml, hown, hts, hlk, hK, hA, hY, hE, hnc, hns, rfl⟩ := C
  intro H locs la hP hD hS hl
  exact lv_iload_n hx rfl (hT j _ _ _ hd) rfl (lv_at hl q hj) (k H locs la hP hD hS hl)
theorem g_istore (C : gOkQ g T own nL rt R Z ad nc ns E) (j : Nat) {i : Nat} {x : Int32} (ls2 : List (Nat × Value)) (hd : T[j]? = some (pc, .istore i, 2)) (hi : i < nL) (h2 : (i, Value.int x) :: ls.filter (fun q => !(q.1 == i) && !(q.1 + 1 == i && q.2.category == 2)) = ls2) (k : g (pc + 2) ls2 st σ) : g pc ls (.int x :: st) σ := by
  obtain ⟨p, l, e, s, m, args, below, meth, c, A, D, cy, Q, hx, hT, hr, hml, hown, hts, hlk, hK, hA, hY, hE, hnc, hns, rfl⟩ := C
  intro H locs la hP hD hS hl
  exact lv_istore hx rfl (hT j _ _ _ hd) hl hi h2 (fun la2 hl2 => k H locs la2 hP hD hS hl2)
theorem g_istore_n (C : gOkQ g T own nL rt R Z ad nc ns E) (j : Nat) {i : Fin 4} {x : Int32} (ls2 : List (Nat × Value)) (hd : T[j]? = some (pc, .istore_n i, 1)) (hi : i.val < nL) (h2 : (i.val, Value.int x) :: ls.filter (fun q => !(q.1 == i.val) && !(q.1 + 1 == i.val && q.2.category == 2)) = ls2) (k : g (pc + 1) ls2 st σ) : g pc ls (.int x :: st) σ := by
  obtain ⟨p, l, e, s, m, args, below, meth, c, A, D, cy, Q, hx, hT, hr, hml, hown, hts, hlk, hK, hA, hY, hE, hnc, hns, rfl⟩ := C
  intro H locs la hP hD hS hl
  exact lv_istore_n hx rfl (hT j _ _ _ hd) rfl hl hi h2 (fun la2 hl2 => k H locs la2 hP hD hS hl2)
theorem g_aload (C : gOkQ g T own nL rt R Z ad nc ns E) (j : Nat) {i : Nat} {x : Nat} (q : Nat) (hd : T[j]? = some (pc, .aload i, 2)) (hj : ls[q]? = some (i, .ref x)) (k : g (pc + 2) ls (.ref x :: st) σ) : g pc ls st σ := by
  obtain ⟨p, l, e, s, m, args, below, meth, c, A, D, cy, Q, hx, hT, hr, hml, hown, hts, hlk, hK, hA, hY, hE, hnc, hns, rfl⟩ := C
  intro H locs la hP hD hS hl
  exact lv_aload hx rfl (hT j _ _ _ hd) (lv_at hl q hj) (k H locs la hP hD hS hl)
theorem g_aload_n (C : gOkQ g T own nL rt R Z ad nc ns E) (j : Nat) {i : Fin 4} {x : Nat} (q : Nat) (hd : T[j]? = some (pc, .aload_n i, 1)) (hj : ls[q]? = some (i.val, .ref x)) (k : g (pc + 1) ls (.ref x :: st) σ) : g pc ls st σ := by
  obtain ⟨p, l, e, s, m, args, below, meth, c, A, D, cy, Q, hx, hT, hr, hml, hown, hts, hlk, hK, hA, hY, hE, hnc, hns, rfl⟩ := C
  intro H locs la hP hD hS hl
  exact lv_aload_n hx rfl (hT j _ _ _ hd) rfl (lv_at hl q hj) (k H locs la hP hD hS hl)
theorem g_astore (C : gOkQ g T own nL rt R Z ad nc ns E) (j : Nat) {i : Nat} {x : Nat} (ls2 : List (Nat × Value)) (hd : T[j]? = some (pc, .astore i, 2)) (hi : i < nL) (h2 : (i, Value.ref x) :: ls.filter (fun q => !(q.1 == i) && !(q.1 + 1 == i && q.2.category == 2)) = ls2) (k : g (pc + 2) ls2 st σ) : g pc ls (.ref x :: st) σ := by
  obtain ⟨p, l, e, s, m, args, below, meth, c, A, D, cy, Q, hx, hT, hr, hml, hown, hts, hlk, hK, hA, hY, hE, hnc, hns, rfl⟩ := C
  intro H locs la hP hD hS hl
  exact lv_astore hx rfl (hT j _ _ _ hd) hl hi h2 (fun la2 hl2 => k H locs la2 hP hD hS hl2)
theorem g_astore_n (C : gOkQ g T own nL rt R Z ad nc ns E) (j : Nat) {i : Fin 4} {x : Nat} (ls2 : List (Nat × Value)) (hd : T[j]? = some (pc, .astore_n i, 1)) (hi : i.val < nL) (h2 : (i.val, Value.ref x) :: ls.filter (fun q => !(q.1 == i.val) && !(q.1 + 1 == i.val && q.2.category == 2)) = ls2) (k : g (pc + 1) ls2 st σ) : g pc ls (.ref x :: st) σ := by
  obtain ⟨p, l, e, s, m, args, below, meth, c, A, D, cy, Q, hx, hT, hr, hml, hown, hts, hlk, hK, hA, hY, hE, hnc, hns, rfl⟩ := C
  intro H locs la hP hD hS hl
  exact lv_astore_n hx rfl (hT j _ _ _ hd) rfl hl hi h2 (fun la2 hl2 => k H locs la2 hP hD hS hl2)
theorem g_iinc (C : gOkQ g T own nL rt R Z ad nc ns E) (j : Nat) {i : Nat} {n : Int} {x : Int32} (q : Nat) (v : Int32) (ls2 : List (Nat × Value)) (hd : T[j]? = some (pc, .iinc i n, 3)) (hj : ls[q]? = some (i, .int x)) (hi : i < nL) (hv : x + Int32.ofInt n = v) (h2 : (i, Value.int v) :: ls.filter (fun q => !(q.1 == i) && !(q.1 + 1 == i && q.2.category == 2)) = ls2) (k : g (pc + 3) ls2 st σ) : g pc ls st σ := by
  obtain ⟨p, l, e, s, m, args, below, meth, c, A, D, cy, Q, hx, hT, hr, hml, hown, hts, hlk, hK, hA, hY, hE, hnc, hns, rfl⟩ := C
  intro H locs la hP hD hS hl
  exact lv_iinc hx rfl (hT j _ _ _ hd) hl hj hv hi h2 (fun la2 hl2 => k H locs la2 hP hD hS hl2)
theorem g_iadd (C : gOkQ g T own nL rt R Z ad nc ns E) (j : Nat) {x y : Int32} (hd : T[j]? = some (pc, .iadd, 1)) (k : g (pc + 1) ls (.int (x + y) :: st) σ) : g pc ls (.int y :: .int x :: st) σ := by
  obtain ⟨p, l, e, s, m, args, below, meth, c, A, D, cy, Q, hx, hT, hr, hml, hown, hts, hlk, hK, hA, hY, hE, hnc, hns, rfl⟩ := C
  intro H locs la hP hD hS hl
  exact lv_iadd hx rfl (hT j _ _ _ hd) (k H locs la hP hD hS hl)
theorem g_isub (C : gOkQ g T own nL rt R Z ad nc ns E) (j : Nat) {x y : Int32} (hd : T[j]? = some (pc, .isub, 1)) (k : g (pc + 1) ls (.int (x - y) :: st) σ) : g pc ls (.int y :: .int x :: st) σ := by
  obtain ⟨p, l, e, s, m, args, below, meth, c, A, D, cy, Q, hx, hT, hr, hml, hown, hts, hlk, hK, hA, hY, hE, hnc, hns, rfl⟩ := C
  intro H locs la hP hD hS hl
  exact lv_isub hx rfl (hT j _ _ _ hd) (k H locs la hP hD hS hl)
theorem g_imul (C : gOkQ g T own nL rt R Z ad nc ns E) (j : Nat) {x y : Int32} (hd : T[j]? = some (pc, .imul, 1)) (k : g (pc + 1) ls (.int (x * y) :: st) σ) : g pc ls (.int y :: .int x :: st) σ := by
  obtain ⟨p, l, e, s, m, args, below, meth, c, A, D, cy, Q, hx, hT, hr, hml, hown, hts, hlk, hK, hA, hY, hE, hnc, hns, rfl⟩ := C
  intro H locs la hP hD hS hl
  exact lv_imul hx rfl (hT j _ _ _ hd) (k H locs la hP hD hS hl)
theorem g_iand (C : gOkQ g T own nL rt R Z ad nc ns E) (j : Nat) {x y : Int32} (hd : T[j]? = some (pc, .iand, 1)) (k : g (pc + 1) ls (.int (x &&& y) :: st) σ) : g pc ls (.int y :: .int x :: st) σ := by
  obtain ⟨p, l, e, s, m, args, below, meth, c, A, D, cy, Q, hx, hT, hr, hml, hown, hts, hlk, hK, hA, hY, hE, hnc, hns, rfl⟩ := C
  intro H locs la hP hD hS hl
  exact lv_iand hx rfl (hT j _ _ _ hd) (k H locs la hP hD hS hl)
theorem g_ior (C : gOkQ g T own nL rt R Z ad nc ns E) (j : Nat) {x y : Int32} (hd : T[j]? = some (pc, .ior, 1)) (k : g (pc + 1) ls (.int (x ||| y) :: st) σ) : g pc ls (.int y :: .int x :: st) σ := by
  obtain ⟨p, l, e, s, m, args, below, meth, c, A, D, cy, Q, hx, hT, hr, hml, hown, hts, hlk, hK, hA, hY, hE, hnc, hns, rfl⟩ := C
  intro H locs la hP hD hS hl
  exact lv_ior hx rfl (hT j _ _ _ hd) (k H locs la hP hD hS hl)
theorem g_ixor (C : gOkQ g T own nL rt R Z ad nc ns E) (j : Nat) {x y : Int32} (hd : T[j]? = some (pc, .ixor, 1)) (k : g (pc + 1) ls (.int (x ^^^ y) :: st) σ) : g pc ls (.int y :: .int x :: st) σ := by
  obtain ⟨p, l, e, s, m, args, below, meth, c, A, D, cy, Q, hx, hT, hr, hml, hown, hts, hlk, hK, hA, hY, hE, hnc, hns, rfl⟩ := C
  intro H locs la hP hD hS hl
  exact lv_ixor hx rfl (hT j _ _ _ hd) (k H locs la hP hD hS hl)
theorem g_ishl (C : gOkQ g T own nL rt R Z ad nc ns E) (j : Nat) {x y : Int32} (hd : T[j]? = some (pc, .ishl, 1)) (k : g (pc + 1) ls (.int (x <<< (y &&& 31)) :: st) σ) : g pc ls (.int y :: .int x :: st) σ := by
  obtain ⟨p, l, e, s, m, args, below, meth, c, A, D, cy, Q, hx, hT, hr, hml, hown, hts, hlk, hK, hA, hY, hE, hnc, hns, rfl⟩ := C
  intro H locs la hP hD hS hl
  exact lv_ishl hx rfl (hT j _ _ _ hd) (k H locs la hP hD hS hl)
theorem g_ishr (C : gOkQ g T own nL rt R Z ad nc ns E) (j : Nat) {x y : Int32} (hd : T[j]? = some (pc, .ishr, 1)) (k : g (pc + 1) ls (.int (x >>> (y &&& 31)) :: st) σ) : g pc ls (.int y :: .int x :: st) σ := by
  obtain ⟨p, l, e, s, m, args, below, meth, c, A, D, cy, Q, hx, hT, hr, hml, hown, hts, hlk, hK, hA, hY, hE, hnc, hns, rfl⟩ := C
  intro H locs la hP hD hS hl
  exact lv_ishr hx rfl (hT j _ _ _ hd) (k H locs la hP hD hS hl)
theorem g_iushr (C : gOkQ g T own nL rt R Z ad nc ns E) (j : Nat) {x y : Int32} (hd : T[j]? = some (pc, .iushr, 1)) (k : g (pc + 1) ls (.int (mUsr x y) :: st) σ) : g pc ls (.int y :: .int x :: st) σ := by
  obtain ⟨p, l, e, s, m, args, below, meth, c, A, D, cy, Q, hx, hT, hr, hml, hown, hts, hlk, hK, hA, hY, hE, hnc, hns, rfl⟩ := C
  intro H locs la hP hD hS hl
  exact lv_iushr hx rfl (hT j _ _ _ hd) rfl (k H locs la hP hD hS hl)
theorem g_idivK (C : gOkQ g T own nL rt R Z ad nc ns E) (j : Nat) {x y : Int32} (hd : T[j]? = some (pc, .idiv, 1)) (hne : ¬ y = 0) (k : g (pc + 1) ls (.int (x / y) :: st) σ) : g pc ls (.int y :: .int x :: st) σ := by
  obtain ⟨p, l, e, s, m, args, below, meth, c, A, D, cy, Q, hx, hT, hr, hml, hown, hts, hlk, hK, hA, hY, hE, hnc, hns, rfl⟩ := C
  intro H locs la hP hD hS hl
  exact lv_idiv hx rfl (hT j _ _ _ hd) hne (k H locs la hP hD hS hl)
theorem g_iremK (C : gOkQ g T own nL rt R Z ad nc ns E) (j : Nat) {x y : Int32} (hd : T[j]? = some (pc, .irem, 1)) (hne : ¬ y = 0) (k : g (pc + 1) ls (.int (mRem x y) :: st) σ) : g pc ls (.int y :: .int x :: st) σ := by
  obtain ⟨p, l, e, s, m, args, below, meth, c, A, D, cy, Q, hx, hT, hr, hml, hown, hts, hlk, hK, hA, hY, hE, hnc, hns, rfl⟩ := C
  intro H locs la hP hD hS hl
  exact lv_irem hx rfl (hT j _ _ _ hd) hne (k H locs la hP hD hS hl)
theorem g_idiv (C : gOkQ g T own nL rt R Z ad nc ns E) (j : Nat) {x y : Int32} {a : Option α} (hd : T[j]? = some (pc, .idiv, 1)) (h : mNz y a = some z) (k : a = some z → g (pc + 1) ls (.int (x / y) :: st) σ) : g pc ls (.int y :: .int x :: st) σ := by
  obtain ⟨p, l, e, s, m, args, below, meth, c, A, D, cy, Q, hx, hT, hr, hml, hown, hts, hlk, hK, hA, hY, hE, hnc, hns, rfl⟩ := C
  intro H locs la hP hD hS hl
  unfold mNz at h
  by_cases hne : y = 0
  · rw [if_pos hne] at h; cases h
  · rw [if_neg hne] at h
    exact lv_idiv hx rfl (hT j _ _ _ hd) hne (k h H locs la hP hD hS hl)
theorem g_irem (C : gOkQ g T own nL rt R Z ad nc ns E) (j : Nat) {x y : Int32} {a : Option α} (hd : T[j]? = some (pc, .irem, 1)) (h : mNz y a = some z) (k : a = some z → g (pc + 1) ls (.int (mRem x y) :: st) σ) : g pc ls (.int y :: .int x :: st) σ := by
  obtain ⟨p, l, e, s, m, args, below, meth, c, A, D, cy, Q, hx, hT, hr, hml, hown, hts, hlk, hK, hA, hY, hE, hnc, hns, rfl⟩ := C
  intro H locs la hP hD hS hl
  unfold mNz at h
  by_cases hne : y = 0
  · rw [if_pos hne] at h; cases h
  · rw [if_neg hne] at h
    exact lv_irem hx rfl (hT j _ _ _ hd) hne (k h H locs la hP hD hS hl)
theorem g_ineg (C : gOkQ g T own nL rt R Z ad nc ns E) (j : Nat) {x : Int32} (hd : T[j]? = some (pc, .ineg, 1)) (k : g (pc + 1) ls (.int (-x) :: st) σ) : g pc ls (.int x :: st) σ := by
  obtain ⟨p, l, e, s, m, args, below, meth, c, A, D, cy, Q, hx, hT, hr, hml, hown, hts, hlk, hK, hA, hY, hE, hnc, hns, rfl⟩ := C
  intro H locs la hP hD hS hl
  exact lv_ineg hx rfl (hT j _ _ _ hd) (k H locs la hP hD hS hl)
theorem g_i2s (C : gOkQ g T own nL rt R Z ad nc ns E) (j : Nat) {x : Int32} (hd : T[j]? = some (pc, .i2s, 1)) (k : g (pc + 1) ls (.int x.toInt16.toInt32 :: st) σ) : g pc ls (.int x :: st) σ := by
  obtain ⟨p, l, e, s, m, args, below, meth, c, A, D, cy, Q, hx, hT, hr, hml, hown, hts, hlk, hK, hA, hY, hE, hnc, hns, rfl⟩ := C
  intro H locs la hP hD hS hl
  exact lv_i2s hx rfl (hT j _ _ _ hd) rfl (k H locs la hP hD hS hl)
theorem g_i2c (C : gOkQ g T own nL rt R Z ad nc ns E) (j : Nat) {x : Int32} (hd : T[j]? = some (pc, .i2c, 1)) (k : g (pc + 1) ls (.int (x.toUInt32 % 65536).toInt32 :: st) σ) : g pc ls (.int x :: st) σ := by
  obtain ⟨p, l, e, s, m, args, below, meth, c, A, D, cy, Q, hx, hT, hr, hml, hown, hts, hlk, hK, hA, hY, hE, hnc, hns, rfl⟩ := C
  intro H locs la hP hD hS hl
  exact lv_i2c hx rfl (hT j _ _ _ hd) rfl (k H locs la hP hD hS hl)
theorem g_dup (C : gOkQ g T own nL rt R Z ad nc ns E) (j : Nat) {v : Value} (hd : T[j]? = some (pc, .dup, 1)) (hc : v.category = 1) (k : g (pc + 1) ls (v :: v :: st) σ) : g pc ls (v :: st) σ := by
  obtain ⟨p, l, e, s, m, args, below, meth, c, A, D, cy, Q, hx, hT, hr, hml, hown, hts, hlk, hK, hA, hY, hE, hnc, hns, rfl⟩ := C
  intro H locs la hP hD hS hl
  exact lv_dup hx rfl (hT j _ _ _ hd) hc (k H locs la hP hD hS hl)
theorem g_dup2 (C : gOkQ g T own nL rt R Z ad nc ns E) (j : Nat) {v w : Value} (hd : T[j]? = some (pc, .dup2, 1)) (hv : v.category = 1) (hw : w.category = 1) (k : g (pc + 1) ls (v :: w :: v :: w :: st) σ) : g pc ls (v :: w :: st) σ := by
  obtain ⟨p, l, e, s, m, args, below, meth, c, A, D, cy, Q, hx, hT, hr, hml, hown, hts, hlk, hK, hA, hY, hE, hnc, hns, rfl⟩ := C
  intro H locs la hP hD hS hl
  exact lv_dup2_11 hx rfl (hT j _ _ _ hd) hv hw (k H locs la hP hD hS hl)
theorem g_pop (C : gOkQ g T own nL rt R Z ad nc ns E) (j : Nat) {v : Value} (hd : T[j]? = some (pc, .pop, 1)) (hc : v.category = 1) (k : g (pc + 1) ls st σ) : g pc ls (v :: st) σ := by
  obtain ⟨p, l, e, s, m, args, below, meth, c, A, D, cy, Q, hx, hT, hr, hml, hown, hts, hlk, hK, hA, hY, hE, hnc, hns, rfl⟩ := C
  intro H locs la hP hD hS hl
  exact lv_pop hx rfl (hT j _ _ _ hd) hc (k H locs la hP hD hS hl)
theorem g_if_eq (C : gOkQ g T own nL rt R Z ad nc ns E) (j : Nat) {x : Int32} {off : Int} (tgt : Nat) (hd : T[j]? = some (pc, .ifCond .eq off, 3)) (ht : (pc : Int) + off = (tgt : Int)) {a b : Option α} [inst : Decidable (x = 0)] (h : (@ite (Option α) (x = 0) inst a b) = some z) (kt : a = some z → g tgt ls st σ) (kf : b = some z → g (pc + 3) ls st σ) : g pc ls (.int x :: st) σ := by
  obtain ⟨p, l, e, s, m, args, below, meth, c, A, D, cy, Q, hx, hT, hr, hml, hown, hts, hlk, hK, hA, hY, hE, hnc, hns, rfl⟩ := C
  intro H locs la hP hD hS hl
  exact lv_if_eq hx rfl (hT j _ _ _ hd) ht (fun hc => kt (by rw [if_pos hc] at h; exact h) H locs la hP hD hS hl) (fun hc => kf (by rw [if_neg hc] at h; exact h) H locs la hP hD hS hl)
theorem g_icmp_eq (C : gOkQ g T own nL rt R Z ad nc ns E) (j : Nat) {x y : Int32} {off : Int} (tgt : Nat) (hd : T[j]? = some (pc, .if_icmp .eq off, 3)) (ht : (pc : Int) + off = (tgt : Int)) {a b : Option α} [inst : Decidable (x = y)] (h : (@ite (Option α) (x = y) inst a b) = some z) (kt : a = some z → g tgt ls st σ) (kf : b = some z → g (pc + 3) ls st σ) : g pc ls (.int y :: .int x :: st) σ := by
  obtain ⟨p, l, e, s, m, args, below, meth, c, A, D, cy, Q, hx, hT, hr, hml, hown, hts, hlk, hK, hA, hY, hE, hnc, hns, rfl⟩ := C
  intro H locs la hP hD hS hl
  exact lv_icmp_eq hx rfl (hT j _ _ _ hd) ht (fun hc => kt (by rw [if_pos hc] at h; exact h) H locs la hP hD hS hl) (fun hc => kf (by rw [if_neg hc] at h; exact h) H locs la hP hD hS hl)
theorem g_if_ne (C : gOkQ g T own nL rt R Z ad nc ns E) (j : Nat) {x : Int32} {off : Int} (tgt : Nat) (hd : T[j]? = some (pc, .ifCond .ne off, 3)) (ht : (pc : Int) + off = (tgt : Int)) {a b : Option α} [inst : Decidable (x = 0)] (h : (@ite (Option α) (x = 0) inst a b) = some z) (kt : b = some z → g tgt ls st σ) (kf : a = some z → g (pc + 3) ls st σ) : g pc ls (.int x :: st) σ := by
  obtain ⟨p, l, e, s, m, args, below, meth, c, A, D, cy, Q, hx, hT, hr, hml, hown, hts, hlk, hK, hA, hY, hE, hnc, hns, rfl⟩ := C
  intro H locs la hP hD hS hl
  exact lv_if_ne hx rfl (hT j _ _ _ hd) ht (fun hc => kt (by rw [if_neg hc] at h; exact h) H locs la hP hD hS hl) (fun hc => kf (by rw [if_pos (by simpa using hc)] at h; exact h) H locs la hP hD hS hl)
theorem g_icmp_ne (C : gOkQ g T own nL rt R Z ad nc ns E) (j : Nat) {x y : Int32} {off : Int} (tgt : Nat) (hd : T[j]? = some (pc, .if_icmp .ne off, 3)) (ht : (pc : Int) + off = (tgt : Int)) {a b : Option α} [inst : Decidable (x = y)] (h : (@ite (Option α) (x = y) inst a b) = some z) (kt : b = some z → g tgt ls st σ) (kf : a = some z → g (pc + 3) ls st σ) : g pc ls (.int y :: .int x :: st) σ := by
  obtain ⟨p, l, e, s, m, args, below, meth, c, A, D, cy, Q, hx, hT, hr, hml, hown, hts, hlk, hK, hA, hY, hE, hnc, hns, rfl⟩ := C
  intro H locs la hP hD hS hl
  exact lv_icmp_ne hx rfl (hT j _ _ _ hd) ht (fun hc => kt (by rw [if_neg hc] at h; exact h) H locs la hP hD hS hl) (fun hc => kf (by rw [if_pos (by simpa using hc)] at h; exact h) H locs la hP hD hS hl)
theorem g_if_lt (C : gOkQ g T own nL rt R Z ad nc ns E) (j : Nat) {x : Int32} {off : Int} (tgt : Nat) (hd : T[j]? = some (pc, .ifCond .lt off, 3)) (ht : (pc : Int) + off = (tgt : Int)) {a b : Option α} [inst : Decidable (x < 0)] (h : (@ite (Option α) (x < 0) inst a b) = some z) (kt : a = some z → g tgt ls st σ) (kf : b = some z → g (pc + 3) ls st σ) : g pc ls (.int x :: st) σ := by
  obtain ⟨p, l, e, s, m, args, below, meth, c, A, D, cy, Q, hx, hT, hr, hml, hown, hts, hlk, hK, hA, hY, hE, hnc, hns, rfl⟩ := C
  intro H locs la hP hD hS hl
  exact lv_if_lt hx rfl (hT j _ _ _ hd) ht (fun hc => kt (by rw [if_pos hc] at h; exact h) H locs la hP hD hS hl) (fun hc => kf (by rw [if_neg hc] at h; exact h) H locs la hP hD hS hl)
theorem g_icmp_lt (C : gOkQ g T own nL rt R Z ad nc ns E) (j : Nat) {x y : Int32} {off : Int} (tgt : Nat) (hd : T[j]? = some (pc, .if_icmp .lt off, 3)) (ht : (pc : Int) + off = (tgt : Int)) {a b : Option α} [inst : Decidable (x < y)] (h : (@ite (Option α) (x < y) inst a b) = some z) (kt : a = some z → g tgt ls st σ) (kf : b = some z → g (pc + 3) ls st σ) : g pc ls (.int y :: .int x :: st) σ := by
  obtain ⟨p, l, e, s, m, args, below, meth, c, A, D, cy, Q, hx, hT, hr, hml, hown, hts, hlk, hK, hA, hY, hE, hnc, hns, rfl⟩ := C
  intro H locs la hP hD hS hl
  exact lv_icmp_lt hx rfl (hT j _ _ _ hd) ht (fun hc => kt (by rw [if_pos hc] at h; exact h) H locs la hP hD hS hl) (fun hc => kf (by rw [if_neg hc] at h; exact h) H locs la hP hD hS hl)
theorem g_if_ge (C : gOkQ g T own nL rt R Z ad nc ns E) (j : Nat) {x : Int32} {off : Int} (tgt : Nat) (hd : T[j]? = some (pc, .ifCond .ge off, 3)) (ht : (pc : Int) + off = (tgt : Int)) {a b : Option α} [inst : Decidable (0 ≤ x)] (h : (@ite (Option α) (0 ≤ x) inst a b) = some z) (kt : a = some z → g tgt ls st σ) (kf : b = some z → g (pc + 3) ls st σ) : g pc ls (.int x :: st) σ := by
  obtain ⟨p, l, e, s, m, args, below, meth, c, A, D, cy, Q, hx, hT, hr, hml, hown, hts, hlk, hK, hA, hY, hE, hnc, hns, rfl⟩ := C
  intro H locs la hP hD hS hl
  exact lv_if_ge hx rfl (hT j _ _ _ hd) ht (fun hc => kt (by rw [if_pos hc] at h; exact h) H locs la hP hD hS hl) (fun hc => kf (by rw [if_neg hc] at h; exact h) H locs la hP hD hS hl)
theorem g_icmp_ge (C : gOkQ g T own nL rt R Z ad nc ns E) (j : Nat) {x y : Int32} {off : Int} (tgt : Nat) (hd : T[j]? = some (pc, .if_icmp .ge off, 3)) (ht : (pc : Int) + off = (tgt : Int)) {a b : Option α} [inst : Decidable (y ≤ x)] (h : (@ite (Option α) (y ≤ x) inst a b) = some z) (kt : a = some z → g tgt ls st σ) (kf : b = some z → g (pc + 3) ls st σ) : g pc ls (.int y :: .int x :: st) σ := by
  obtain ⟨p, l, e, s, m, args, below, meth, c, A, D, cy, Q, hx, hT, hr, hml, hown, hts, hlk, hK, hA, hY, hE, hnc, hns, rfl⟩ := C
  intro H locs la hP hD hS hl
  exact lv_icmp_ge hx rfl (hT j _ _ _ hd) ht (fun hc => kt (by rw [if_pos hc] at h; exact h) H locs la hP hD hS hl) (fun hc => kf (by rw [if_neg hc] at h; exact h) H locs la hP hD hS hl)
theorem g_if_gt (C : gOkQ g T own nL rt R Z ad nc ns E) (j : Nat) {x : Int32} {off : Int} (tgt : Nat) (hd : T[j]? = some (pc, .ifCond .gt off, 3)) (ht : (pc : Int) + off = (tgt : Int)) {a b : Option α} [inst : Decidable (0 < x)] (h : (@ite (Option α) (0 < x) inst a b) = some z) (kt : a = some z → g tgt ls st σ) (kf : b = some z → g (pc + 3) ls st σ) : g pc ls (.int x :: st) σ := by
  obtain ⟨p, l, e, s, m, args, below, meth, c, A, D, cy, Q, hx, hT, hr, hml, hown, hts, hlk, hK, hA, hY, hE, hnc, hns, rfl⟩ := C
  intro H locs la hP hD hS hl
  exact lv_if_gt hx rfl (hT j _ _ _ hd) ht (fun hc => kt (by rw [if_pos hc] at h; exact h) H locs la hP hD hS hl) (fun hc => kf (by rw [if_neg hc] at h; exact h) H locs la hP hD hS hl)
theorem g_icmp_gt (C : gOkQ g T own nL rt R Z ad nc ns E) (j : Nat) {x y : Int32} {off : Int} (tgt : Nat) (hd : T[j]? = some (pc, .if_icmp .gt off, 3)) (ht : (pc : Int) + off = (tgt : Int)) {a b : Option α} [inst : Decidable (y < x)] (h : (@ite (Option α) (y < x) inst a b) = some z) (kt : a = some z → g tgt ls st σ) (kf : b = some z → g (pc + 3) ls st σ) : g pc ls (.int y :: .int x :: st) σ := by
  obtain ⟨p, l, e, s, m, args, below, meth, c, A, D, cy, Q, hx, hT, hr, hml, hown, hts, hlk, hK, hA, hY, hE, hnc, hns, rfl⟩ := C
  intro H locs la hP hD hS hl
  exact lv_icmp_gt hx rfl (hT j _ _ _ hd) ht (fun hc => kt (by rw [if_pos hc] at h; exact h) H locs la hP hD hS hl) (fun hc => kf (by rw [if_neg hc] at h; exact h) H locs la hP hD hS hl)
theorem g_if_le (C : gOkQ g T own nL rt R Z ad nc ns E) (j : Nat) {x : Int32} {off : Int} (tgt : Nat) (hd : T[j]? = some (pc, .ifCond .le off, 3)) (ht : (pc : Int) + off = (tgt : Int)) {a b : Option α} [inst : Decidable (x ≤ 0)] (h : (@ite (Option α) (x ≤ 0) inst a b) = some z) (kt : a = some z → g tgt ls st σ) (kf : b = some z → g (pc + 3) ls st σ) : g pc ls (.int x :: st) σ := by
  obtain ⟨p, l, e, s, m, args, below, meth, c, A, D, cy, Q, hx, hT, hr, hml, hown, hts, hlk, hK, hA, hY, hE, hnc, hns, rfl⟩ := C
  intro H locs la hP hD hS hl
  exact lv_if_le hx rfl (hT j _ _ _ hd) ht (fun hc => kt (by rw [if_pos hc] at h; exact h) H locs la hP hD hS hl) (fun hc => kf (by rw [if_neg hc] at h; exact h) H locs la hP hD hS hl)
theorem g_icmp_le (C : gOkQ g T own nL rt R Z ad nc ns E) (j : Nat) {x y : Int32} {off : Int} (tgt : Nat) (hd : T[j]? = some (pc, .if_icmp .le off, 3)) (ht : (pc : Int) + off = (tgt : Int)) {a b : Option α} [inst : Decidable (x ≤ y)] (h : (@ite (Option α) (x ≤ y) inst a b) = some z) (kt : a = some z → g tgt ls st σ) (kf : b = some z → g (pc + 3) ls st σ) : g pc ls (.int y :: .int x :: st) σ := by
  obtain ⟨p, l, e, s, m, args, below, meth, c, A, D, cy, Q, hx, hT, hr, hml, hown, hts, hlk, hK, hA, hY, hE, hnc, hns, rfl⟩ := C
  intro H locs la hP hD hS hl
  exact lv_icmp_le hx rfl (hT j _ _ _ hd) ht (fun hc => kt (by rw [if_pos hc] at h; exact h) H locs la hP hD hS hl) (fun hc => kf (by rw [if_neg hc] at h; exact h) H locs la hP hD hS hl)
theorem g_goto (C : gOkQ g T own nL rt R Z ad nc ns E) (j : Nat) {off : Int} (tgt : Nat) (hd : T[j]? = some (pc, .goto off, 3)) (ht : (pc : Int) + off = (tgt : Int)) (k : g tgt ls st σ) : g pc ls st σ := by
  obtain ⟨p, l, e, s, m, args, below, meth, c, A, D, cy, Q, hx, hT, hr, hml, hown, hts, hlk, hK, hA, hY, hE, hnc, hns, rfl⟩ := C
  intro H locs la hP hD hS hl
  exact lv_goto hx rfl (hT j _ _ _ hd) ht (k H locs la hP hD hS hl)
theorem g_tblAt (C : gOkQ g T own nL rt R Z ad nc ns E) (j : Nat) {dflt lo hi : Int} {offs : Array Int} {len : Nat} {x : Int32} {off : Int} (v : Int32) (hxv : x = v) (tgt : Nat) (hd : T[j]? = some (pc, .tableswitch dflt lo hi offs, len)) (h1 : ¬ v.toInt < lo) (h2 : ¬ hi < v.toInt) (ho : offs[(v.toInt - lo).toNat]? = some off) (ht : (pc : Int) + off = (tgt : Int)) (k : g tgt ls st σ) : g pc ls (.int x :: st) σ := by
  obtain ⟨p, l, e, s, m, args, below, meth, c, A, D, cy, Q, hx, hT, hr, hml, hown, hts, hlk, hK, hA, hY, hE, hnc, hns, rfl⟩ := C
  intro H locs la hP hD hS hl
  subst hxv
  exact lv_tableIn hx rfl (hT j _ _ _ hd) h1 h2 ho ht (k H locs la hP hD hS hl)
theorem g_tblOut (C : gOkQ g T own nL rt R Z ad nc ns E) (j : Nat) {dflt lo hi : Int} {offs : Array Int} {len : Nat} {x : Int32} (tgt : Nat) (hd : T[j]? = some (pc, .tableswitch dflt lo hi offs, len)) (h : x.toInt < lo ∨ hi < x.toInt) (ht : (pc : Int) + dflt = (tgt : Int)) (k : g tgt ls st σ) : g pc ls (.int x :: st) σ := by
  obtain ⟨p, l, e, s, m, args, below, meth, c, A, D, cy, Q, hx, hT, hr, hml, hown, hts, hlk, hK, hA, hY, hE, hnc, hns, rfl⟩ := C
  intro H locs la hP hD hS hl
  exact lv_tableOut hx rfl (hT j _ _ _ hd) h ht (k H locs la hP hD hS hl)
theorem g_lookup (C : gOkQ g T own nL rt R Z ad nc ns E) (j : Nat) {dflt : Int} {ps : Array (Int × Int)} {len : Nat} {x : Int32} {off : Int} (tgt : Nat) (hd : T[j]? = some (pc, .lookupswitch dflt ps, len)) (hp : (ps.toList.zip (ps.toList.drop 1)).all (fun (a, next) => a.1 < next.1) = true) (ho : Op.lookupswitch.offset ps.toList dflt x.toInt = off) (ht : (pc : Int) + off = (tgt : Int)) (k : g tgt ls st σ) : g pc ls (.int x :: st) σ := by
  obtain ⟨p, l, e, s, m, args, below, meth, c, A, D, cy, Q, hx, hT, hr, hml, hown, hts, hlk, hK, hA, hY, hE, hnc, hns, rfl⟩ := C
  intro H locs la hP hD hS hl
  exact lv_lookup hx rfl (hT j _ _ _ hd) hp ho ht (k H locs la hP hD hS hl)
theorem g_sub (C : gOkQ g T own nL rt R Z ad nc ns E) (is : List Nat) (ls2 : List (Nat × Value)) (h2 : lv_pick ls is = ls2) (k : g pc ls2 st σ) : g pc ls st σ := by
  obtain ⟨p, l, e, s, m, args, below, meth, c, A, D, cy, Q, hx, hT, hr, hml, hown, hts, hlk, hK, hA, hY, hE, hnc, hns, rfl⟩ := C
  intro H locs la hP hD hS hl
  exact k H locs la hP hD hS (lv_sub hl is h2)
theorem g_geti (C : gOkQ g T own nL rt R Z ad nc ns E) (j : Nat) {index i k ci : Nat} {fs : List (Option (Option Nat))} (hd : T[j]? = some (pc, .getfield index, 3)) (hw : gFl own index ci k) (hc : Z[i]? = some (.inl (ci, fs))) (hf : fs[k]? = some none) (kk : g (pc + 3) ls (.int (σ i k) :: st) σ) : g pc ls (.ref (ad i) :: st) σ := by
  obtain ⟨p, l, e, s, m, args, below, meth, c, A, D, cy, Q, hx, hT, hr, hml, hown, hts, hlk, hK, hA, hY, hE, hnc, hns, rfl⟩ := C
  intro H locs la hP hD hS hl
  obtain ⟨CN, TN, N, hcl, hk, hin, hw⟩ := hw
  have he := gW_at (cy := cy) (ad := ad) (σ := σ) hc
  rcases hw with hw | ⟨host, hw⟩
  · exact va_get hx rfl hts hin hown hK hP i he hcl k hk (hts _ hw) (fun _ h => h) (gV_at hf) (hT j _ _ _ hd) (kk H locs la hP hD hS hl)
  · exact va_getN hx rfl hts hin hown hK hP i he hcl k hk (hY.use hw args) (fun _ h => h) (gV_at hf) (hT j _ _ _ hd) (kk H locs la hP hD hS hl)
theorem g_getr (C : gOkQ g T own nL rt R Z ad nc ns E) (j : Nat) {index i k ci b : Nat} {fs : List (Option (Option Nat))} (hd : T[j]? = some (pc, .getfield index, 3)) (hw : gFl own index ci k) (hc : Z[i]? = some (.inl (ci, fs))) (hf : fs[k]? = some (some (some b))) (kk : g (pc + 3) ls (.ref (ad b) :: st) σ) : g pc ls (.ref (ad i) :: st) σ := by
  obtain ⟨p, l, e, s, m, args, below, meth, c, A, D, cy, Q, hx, hT, hr, hml, hown, hts, hlk, hK, hA, hY, hE, hnc, hns, rfl⟩ := C
  intro H locs la hP hD hS hl
  obtain ⟨CN, TN, N, hcl, hk, hin, hw⟩ := hw
  have he := gW_at (cy := cy) (ad := ad) (σ := σ) hc
  rcases hw with hw | ⟨host, hw⟩
  · exact va_get hx rfl hts hin hown hK hP i he hcl k hk (hts _ hw) (fun _ h => h) (gV_at hf) (hT j _ _ _ hd) (kk H locs la hP hD hS hl)
  · exact va_getN hx rfl hts hin hown hK hP i he hcl k hk (hY.use hw args) (fun _ h => h) (gV_at hf) (hT j _ _ _ hd) (kk H locs la hP hD hS hl)
theorem g_put (C : gOkQ g T own nL rt R Z ad nc ns E) (j : Nat) {index i k ci : Nat} {fs : List (Option (Option Nat))} {v : Int32} {ty : FieldType} {f : gS → Option α} (hd : T[j]? = some (pc, .putfield index, 3)) (hw : gFp own index ci k ty) (hc : Z[i]? = some (.inl (ci, fs))) (hf : fs[k]? = some none) (hn : narrow ty (.int v) = .int v) (hfit : fits ty (.int v) = true) (h : mLet (gu σ i k v) f = some z) (kk : ∀ σ1, f σ1 = some z → g (pc + 3) ls st σ1) : g pc ls (.int v :: .ref (ad i) :: st) σ := by
  obtain ⟨p, l, e, s, m, args, below, meth, c, A, D, cy, Q, hx, hT, hr, hml, hown, hts, hlk, hK, hA, hY, hE, hnc, hns, rfl⟩ := C
  intro H locs la hP hD hS hl
  obtain ⟨CN, TN, N, hcl, hk, hin, ⟨ty0, hty⟩, hnm, hfin, hpd, hw⟩ := hw
  have he := gW_at (cy := cy) (ad := ad) (σ := σ) hc
  have hkf : k < (fs.mapIdx (gV ad (σ i))).length := by simpa using (List.getElem?_eq_some_iff.mp hf).1
  have hset : (gW cy Z ad σ).set i (ad i, .inr (ci, (fs.mapIdx (gV ad (σ i))).set k (.int v))) = gW cy Z ad (gu σ i k v) := gW_set hc (by rw [gV_set hf]; rfl)
  rcases hw with hw | ⟨host, hw⟩
  · exact va_put hx rfl hts hin ty0 hty hnm hown hK hP hD hS i he hcl k hk (hts _ hw) (fun _ h => h) hfin hpd hn hfit hkf (hT j _ _ _ hd) (fun H1 l1 hP1 hD1 hS1 => kk _ h H1 l1 la (hset ▸ hP1) (hset ▸ hD1) hS1 hl)
  · exact va_putN hx rfl hts hin ty0 hty hnm hown hK hP hD hS i he hcl k hk (hY.use hw args) (fun _ h => h) hfin hpd hn hfit hkf (hT j _ _ _ hd) (fun H1 l1 hP1 hD1 hS1 => kk _ h H1 l1 la (hset ▸ hP1) (hset ▸ hD1) hS1 hl)
theorem g_iald (C : gOkQ g T own nL rt R Z ad nc ns E) (j : Nat) {i n : Nat} {x : Int32} {a : Option α} (hd : T[j]? = some (pc, .iaload, 1)) (hc : Z[i]? = some (.inr (0, n, none))) (h : mIn n x a = some z) (kk : a = some z → g (pc + 1) ls (.int (σ i (nn x)) :: st) σ) : g pc ls (.int x :: .ref (ad i) :: st) σ := by
  obtain ⟨p, l, e, s, m, args, below, meth, c, A, D, cy, Q, hx, hT, hr, hml, hown, hts, hlk, hK, hA, hY, hE, hnc, hns, rfl⟩ := C
  intro H locs la hP hD hS hl
  obtain ⟨hin, h⟩ := h_in h
  exact va_iald hx rfl hK hP i 0 (gW_at hc) rfl hin (hT j _ _ _ hd) (kk h H locs la hP hD hS hl)
theorem g_ialdK (C : gOkQ g T own nL rt R Z ad nc ns E) (j : Nat) {i n : Nat} {x : Int32} (q : Nat) (hd : T[j]? = some (pc, .iaload, 1)) (hc : Z[i]? = some (.inr (0, n, none))) (hq : nn x = q) (hin : vp_in x n) (kk : g (pc + 1) ls (.int (σ i q) :: st) σ) : g pc ls (.int x :: .ref (ad i) :: st) σ := by
  obtain ⟨p, l, e, s, m, args, below, meth, c, A, D, cy, Q, hx, hT, hr, hml, hown, hts, hlk, hK, hA, hY, hE, hnc, hns, rfl⟩ := C
  intro H locs la hP hD hS hl
  subst hq
  exact va_iald hx rfl hK hP i 0 (gW_at hc) rfl hin (hT j _ _ _ hd) (kk H locs la hP hD hS hl)
theorem g_cald (C : gOkQ g T own nL rt R Z ad nc ns E) (j : Nat) {i n : Nat} {x : Int32} {a : Option α} (hd : T[j]? = some (pc, .caload, 1)) (hc : Z[i]? = some (.inr (1, n, none))) (h : mIn n x a = some z) (kk : a = some z → g (pc + 1) ls (.int (σ i (nn x)) :: st) σ) : g pc ls (.int x :: .ref (ad i) :: st) σ := by
  obtain ⟨p, l, e, s, m, args, below, meth, c, A, D, cy, Q, hx, hT, hr, hml, hown, hts, hlk, hK, hA, hY, hE, hnc, hns, rfl⟩ := C
  intro H locs la hP hD hS hl
  obtain ⟨hin, h⟩ := h_in h
  exact va_cald hx rfl hK hP i 1 (gW_at hc) rfl hin (hT j _ _ _ hd) (kk h H locs la hP hD hS hl)
theorem g_caldK (C : gOkQ g T own nL rt R Z ad nc ns E) (j : Nat) {i n : Nat} {x : Int32} (q : Nat) (hd : T[j]? = some (pc, .caload, 1)) (hc : Z[i]? = some (.inr (1, n, none))) (hq : nn x = q) (hin : vp_in x n) (kk : g (pc + 1) ls (.int (σ i q) :: st) σ) : g pc ls (.int x :: .ref (ad i) :: st) σ := by
  obtain ⟨p, l, e, s, m, args, below, meth, c, A, D, cy, Q, hx, hT, hr, hml, hown, hts, hlk, hK, hA, hY, hE, hnc, hns, rfl⟩ := C
  intro H locs la hP hD hS hl
  subst hq
  exact va_cald hx rfl hK hP i 1 (gW_at hc) rfl hin (hT j _ _ _ hd) (kk H locs la hP hD hS hl)
theorem g_zald (C : gOkQ g T own nL rt R Z ad nc ns E) (j : Nat) {i n : Nat} {x : Int32} {a : Option α} (hd : T[j]? = some (pc, .baload, 1)) (hc : Z[i]? = some (.inr (2, n, none))) (h : mIn n x a = some z) (kk : a = some z → g (pc + 1) ls (.int (σ i (nn x)) :: st) σ) : g pc ls (.int x :: .ref (ad i) :: st) σ := by
  obtain ⟨p, l, e, s, m, args, below, meth, c, A, D, cy, Q, hx, hT, hr, hml, hown, hts, hlk, hK, hA, hY, hE, hnc, hns, rfl⟩ := C
  intro H locs la hP hD hS hl
  obtain ⟨hin, h⟩ := h_in h
  exact va_zald hx rfl hK hP i 2 (gW_at hc) rfl hin (hT j _ _ _ hd) (kk h H locs la hP hD hS hl)
theorem g_zaldK (C : gOkQ g T own nL rt R Z ad nc ns E) (j : Nat) {i n : Nat} {x : Int32} (q : Nat) (hd : T[j]? = some (pc, .baload, 1)) (hc : Z[i]? = some (.inr (2, n, none))) (hq : nn x = q) (hin : vp_in x n) (kk : g (pc + 1) ls (.int (σ i q) :: st) σ) : g pc ls (.int x :: .ref (ad i) :: st) σ := by
  obtain ⟨p, l, e, s, m, args, below, meth, c, A, D, cy, Q, hx, hT, hr, hml, hown, hts, hlk, hK, hA, hY, hE, hnc, hns, rfl⟩ := C
  intro H locs la hP hD hS hl
  subst hq
  exact va_zald hx rfl hK hP i 2 (gW_at hc) rfl hin (hT j _ _ _ hd) (kk H locs la hP hD hS hl)
theorem g_iast (C : gOkQ g T own nL rt R Z ad nc ns E) (j : Nat) {i n : Nat} {x v : Int32} {f : gS → Option α} (hd : T[j]? = some (pc, .iastore, 1)) (hc : Z[i]? = some (.inr (0, n, none))) (h : mIn n x (mLet (gu σ i (nn x) v) f) = some z) (kk : ∀ σ1, f σ1 = some z → g (pc + 1) ls st σ1) : g pc ls (.int v :: .int x :: .ref (ad i) :: st) σ := by
  obtain ⟨p, l, e, s, m, args, below, meth, c, A, D, cy, Q, hx, hT, hr, hml, hown, hts, hlk, hK, hA, hY, hE, hnc, hns, rfl⟩ := C
  intro H locs la hP hD hS hl
  obtain ⟨hin, h⟩ := h_in h
  have hset : (gW cy Z ad σ).set i (ad i, .inl (cy 0, n, .inl (upd (σ i) (nn x) v))) = gW cy Z ad (gu σ i (nn x) v) := gW_set hc rfl
  exact va_iast hx rfl hK hP hD hS i 0 (gW_at hc) rfl hin (hT j _ _ _ hd) (fun H1 l1 hP1 hD1 hS1 => kk _ h H1 l1 la (hset ▸ hP1) (hset ▸ hD1) hS1 hl)
theorem g_iastK (C : gOkQ g T own nL rt R Z ad nc ns E) (j : Nat) {i n : Nat} {x v : Int32} {f : gS → Option α} (q : Nat) (hd : T[j]? = some (pc, .iastore, 1)) (hc : Z[i]? = some (.inr (0, n, none))) (hq : nn x = q) (hin : vp_in x n) (h : mLet (gu σ i q v) f = some z) (kk : ∀ σ1, f σ1 = some z → g (pc + 1) ls st σ1) : g pc ls (.int v :: .int x :: .ref (ad i) :: st) σ := by
  obtain ⟨p, l, e, s, m, args, below, meth, c, A, D, cy, Q, hx, hT, hr, hml, hown, hts, hlk, hK, hA, hY, hE, hnc, hns, rfl⟩ := C
  intro H locs la hP hD hS hl
  subst hq
  have hset : (gW cy Z ad σ).set i (ad i, .inl (cy 0, n, .inl (upd (σ i) (nn x) v))) = gW cy Z ad (gu σ i (nn x) v) := gW_set hc rfl
  exact va_iast hx rfl hK hP hD hS i 0 (gW_at hc) rfl hin (hT j _ _ _ hd) (fun H1 l1 hP1 hD1 hS1 => kk _ h H1 l1 la (hset ▸ hP1) (hset ▸ hD1) hS1 hl)
theorem g_zast (C : gOkQ g T own nL rt R Z ad nc ns E) (j : Nat) {i n : Nat} {x v : Int32} {f : gS → Option α} (hd : T[j]? = some (pc, .bastore, 1)) (hc : Z[i]? = some (.inr (2, n, none))) (h : mIn n x (mLet (gu σ i (nn x) (vp_nar .boolean v)) f) = some z) (kk : ∀ σ1, f σ1 = some z → g (pc + 1) ls st σ1) : g pc ls (.int v :: .int x :: .ref (ad i) :: st) σ := by
  obtain ⟨p, l, e, s, m, args, below, meth, c, A, D, cy, Q, hx, hT, hr, hml, hown, hts, hlk, hK, hA, hY, hE, hnc, hns, rfl⟩ := C
  intro H locs la hP hD hS hl
  obtain ⟨hin, h⟩ := h_in h
  have hset : (gW cy Z ad σ).set i (ad i, .inl (cy 2, n, .inl (upd (σ i) (nn x) (vp_nar .boolean v)))) = gW cy Z ad (gu σ i (nn x) (vp_nar .boolean v)) := gW_set hc rfl
  exact va_zast hx rfl hK hP hD hS i 2 (gW_at hc) rfl hin (hT j _ _ _ hd) (fun H1 l1 hP1 hD1 hS1 => kk _ h H1 l1 la (hset ▸ hP1) (hset ▸ hD1) hS1 hl)
theorem g_zastK (C : gOkQ g T own nL rt R Z ad nc ns E) (j : Nat) {i n : Nat} {x v : Int32} {f : gS → Option α} (q : Nat) (hd : T[j]? = some (pc, .bastore, 1)) (hc : Z[i]? = some (.inr (2, n, none))) (hq : nn x = q) (hin : vp_in x n) (h : mLet (gu σ i q (vp_nar .boolean v)) f = some z) (kk : ∀ σ1, f σ1 = some z → g (pc + 1) ls st σ1) : g pc ls (.int v :: .int x :: .ref (ad i) :: st) σ := by
  obtain ⟨p, l, e, s, m, args, below, meth, c, A, D, cy, Q, hx, hT, hr, hml, hown, hts, hlk, hK, hA, hY, hE, hnc, hns, rfl⟩ := C
  intro H locs la hP hD hS hl
  subst hq
  have hset : (gW cy Z ad σ).set i (ad i, .inl (cy 2, n, .inl (upd (σ i) (nn x) (vp_nar .boolean v)))) = gW cy Z ad (gu σ i (nn x) (vp_nar .boolean v)) := gW_set hc rfl
  exact va_zast hx rfl hK hP hD hS i 2 (gW_at hc) rfl hin (hT j _ _ _ hd) (fun H1 l1 hP1 hD1 hS1 => kk _ h H1 l1 la (hset ▸ hP1) (hset ▸ hD1) hS1 hl)
theorem g_aald (C : gOkQ g T own nL rt R Z ad nc ns E) (j : Nat) {i n t : Nat} {rs : Nat → Option Nat} {x : Int32} {a : Option α} (hd : T[j]? = some (pc, .aaload, 1)) (ht : t = 3 ∨ t = 4 ∨ t = 5) (hc : Z[i]? = some (.inr (t, n, some rs))) (h : mIn n x a = some z) (kk : vp_in x n → a = some z → g (pc + 1) ls (va_rf ((rs (nn x)).map ad) :: st) σ) : g pc ls (.int x :: .ref (ad i) :: st) σ := by
  obtain ⟨p, l, e, s, m, args, below, meth, c, A, D, cy, Q, hx, hT, hr, hml, hown, hts, hlk, hK, hA, hY, hE, hnc, hns, rfl⟩ := C
  intro H locs la hP hD hS hl
  obtain ⟨hin, h⟩ := h_in h
  rcases ht with rfl | rfl | rfl
  · exact va_aldq hx rfl hK hP i 3 (gW_at hc) rfl hin (hT j _ _ _ hd) (kk hin h H locs la hP hD hS hl)
  · exact va_aldq hx rfl hK hP i 4 (gW_at hc) rfl hin (hT j _ _ _ hd) (kk hin h H locs la hP hD hS hl)
  · exact va_aldq hx rfl hK hP i 5 (gW_at hc) rfl hin (hT j _ _ _ hd) (kk hin h H locs la hP hD hS hl)
theorem g_alen (C : gOkQ g T own nL rt R Z ad nc ns E) (j : Nat) {i n : Nat} (hd : T[j]? = some (pc, .arraylength, 1)) (hc : Z[i]? = some (.inr (0, n, none))) (kk : g (pc + 1) ls (.int (Int32.ofNat n) :: st) σ) : g pc ls (.ref (ad i) :: st) σ := by
  obtain ⟨p, l, e, s, m, args, below, meth, c, A, D, cy, Q, hx, hT, hr, hml, hown, hts, hlk, hK, hA, hY, hE, hnc, hns, rfl⟩ := C
  intro H locs la hP hD hS hl
  exact va_alen hx rfl hK hP i 0 (gW_at hc) rfl rfl (hT j _ _ _ hd) (kk H locs la hP hD hS hl)
theorem g_ifnull (C : gOkQ g T own nL rt R Z ad nc ns E) (j : Nat) {o : Option Nat} {off : Int} (tgt : Nat) (hd : T[j]? = some (pc, .ifnull off, 3)) (ht : (pc : Int) + off = (tgt : Int)) (kt : o = none → g tgt ls st σ) (kf : ∀ b, o = some b → g (pc + 3) ls st σ) : g pc ls (va_rf (o.map ad) :: st) σ := by
  obtain ⟨p, l, e, s, m, args, below, meth, c, A, D, cy, Q, hx, hT, hr, hml, hown, hts, hlk, hK, hA, hY, hE, hnc, hns, rfl⟩ := C
  intro H locs la hP hD hS hl
  cases o with
  | none => exact lv_ifnullN hx rfl (hT j _ _ _ hd) ht (kt rfl H locs la hP hD hS hl)
  | some b => exact lv_ifnull hx rfl (hT j _ _ _ hd) (kf b rfl H locs la hP hD hS hl)
theorem g_mmax (C : gOkQ g T own nL rt R Z ad nc ns E) (j : Nat) {index : Nat} {x y : Int32} (hd : T[j]? = some (pc, .invokestatic index, 3)) (hw : Cond.methodLink own index Lib.Math.max.name ∈ TB) (hw2 : Cond.static Lib.Math.max.name ∈ TB ∧ Cond.initialized "java/lang/Math" ∈ TB ∧ Cond.code Lib.Math.max.name Lib.Math.max.code 2 (some .int) ∈ TB) (hR : 1 ≤ R.frames ∧ (st.map fun v => v.category).sum + 13 ≤ R.locals) (k : g (pc + 3) ls (.int (mMax x y) :: st) σ) : g pc ls (.int y :: .int x :: st) σ := by
  obtain ⟨p, l, e, s, m, args, below, meth, c, A, D, cy, Q, hx, hT, hr, hml, hown, hts, hlk, hK, hA, hY, hE, hnc, hns, rfl⟩ := C
  intro H locs la hP hD hS hl
  exact va_mmax hx rfl (hml.trans hl.1.symm) hown (hts _ hw) (hts _ hw2.1) (hts _ hw2.2.1) (hts _ hw2.2.2) hR.1 hR.2 hnc hns (hT j _ _ _ hd) (k H locs la hP hD hS hl)
theorem g_mmin (C : gOkQ g T own nL rt R Z ad nc ns E) (j : Nat) {index : Nat} {x y : Int32} (hd : T[j]? = some (pc, .invokestatic index, 3)) (hw : Cond.methodLink own index Lib.Math.min.name ∈ TB) (hw2 : Cond.static Lib.Math.min.name ∈ TB ∧ Cond.initialized "java/lang/Math" ∈ TB ∧ Cond.code Lib.Math.min.name Lib.Math.min.code 2 (some .int) ∈ TB) (hR : 1 ≤ R.frames ∧ (st.map fun v => v.category).sum + 13 ≤ R.locals) (k : g (pc + 3) ls (.int (mMin x y) :: st) σ) : g pc ls (.int y :: .int x :: st) σ := by
  obtain ⟨p, l, e, s, m, args, below, meth, c, A, D, cy, Q, hx, hT, hr, hml, hown, hts, hlk, hK, hA, hY, hE, hnc, hns, rfl⟩ := C
  intro H locs la hP hD hS hl
  exact va_mmin hx rfl (hml.trans hl.1.symm) hown (hts _ hw) (hts _ hw2.1) (hts _ hw2.2.1) (hts _ hw2.2.2) hR.1 hR.2 hnc hns (hT j _ _ _ hd) (k H locs la hP hD hS hl)
theorem g_mabs (C : gOkQ g T own nL rt R Z ad nc ns E) (j : Nat) {index : Nat} {x : Int32} (hd : T[j]? = some (pc, .invokestatic index, 3)) (hw : Cond.methodLink own index Lib.Math.abs.name ∈ TB) (hw2 : Cond.static Lib.Math.abs.name ∈ TB ∧ Cond.initialized "java/lang/Math" ∈ TB ∧ Cond.code Lib.Math.abs.name Lib.Math.abs.code 1 (some .int) ∈ TB) (hR : 1 ≤ R.frames ∧ (st.map fun v => v.category).sum + 13 ≤ R.locals) (k : g (pc + 3) ls (.int (mAbs x) :: st) σ) : g pc ls (.int x :: st) σ := by
  obtain ⟨p, l, e, s, m, args, below, meth, c, A, D, cy, Q, hx, hT, hr, hml, hown, hts, hlk, hK, hA, hY, hE, hnc, hns, rfl⟩ := C
  intro H locs la hP hD hS hl
  exact va_mabs hx rfl (hml.trans hl.1.symm) hown (hts _ hw) (hts _ hw2.1) (hts _ hw2.2.1) (hts _ hw2.2.2) hR.1 hR.2 hnc hns (hT j _ _ _ hd) (k H locs la hP hD hS hl)
theorem g_copy (C : gOkQ g T own nL rt R Z ad nc ns E) (j : Nat) {index a b n0 n1 : Nat} {sp dp n : Int32} {f : gS → Option α} (hd : T[j]? = some (pc, .invokestatic index, 3)) (hw : Cond.methodLink own index arraycopyName ∈ TB) (hw2 : Cond.native arraycopyName ∈ TB ∧ Cond.static arraycopyName ∈ TB ∧ Cond.initialized "java/lang/System" ∈ TB) (hR : 1 ≤ R.frames ∧ (st.map fun v => v.category).sum + (nativeFrameWords "java/lang/System" "arraycopy" 5 + 11) ≤ R.locals) (hc0 : Z[a]? = some (.inr (0, n0, none))) (hc1 : Z[b]? = some (.inr (0, n1, none))) (h : mCopy n0 n1 σ a sp b dp n f = some z) (k : ∀ σ1, f σ1 = some z → g (pc + 3) ls st σ1) : g pc ls (.int n :: .int dp :: .ref (ad b) :: .int sp :: .ref (ad a) :: st) σ := by
  obtain ⟨p, l, e, s, m, args, below, meth, c, A, D, cy, Q, hx, hT, hr, hml, hown, hts, hlk, hK, hA, hY, hE, hnc, hns, rfl⟩ := C
  intro H locs la hP hD hS hl
  unfold mCopy at h
  by_cases hq : ¬ sp < 0 ∧ ¬ dp < 0 ∧ ¬ n < 0 ∧ nn sp + nn n ≤ n0 ∧ nn dp + nn n ≤ n1
  · rw [if_pos hq] at h
    obtain ⟨h1, h2, h3, h4, h5⟩ := hq
    have hset : (gW cy Z ad σ).set b (ad b, .inl (cy 0, n1, .inl (va_cpy (σ a) (σ b) (nn sp) (nn dp) (nn n)))) = gW cy Z ad (gp σ b (va_cpy (σ a) (σ b) (nn sp) (nn dp) (nn n))) := gW_setp hc1 rfl
    exact va_copyi hx rfl (hml.trans hl.1.symm) hown (hts _ hw) (hts _ hw2.1) (hts _ hw2.2.1) (hts _ hw2.2.2) hK hP hD hS a b 0 0 (gW_at hc0) (gW_at hc1) rfl rfl rfl h1 h2 h3 h4 h5 (fun i _ => rfl) hR.1 hR.2 (hT j _ _ _ hd) (fun H1 l1 hP1 hD1 hS1 => k _ h H1 l1 la (hset ▸ hP1) (hset ▸ hD1) hS1 hl)
  · rw [if_neg hq] at h; cases h
theorem g_callVi (C : gOkQ g T own nL rt R Z ad nc ns E) (j : Nat) {index : Nat} {y : MethodName} {cc2 : ByteArray} {nL2 L2 n : Nat} {ty : FieldType} {av : (Nat → Nat) → List Value} {F : gS → Option (Int32 × gS)} {f : Int32 → gS → Option α} (As rest : List Value) {i ci N : Nat} {TT : u_T} {fs : List (Option (Option Nat))} (hd : T[j]? = some (pc, .invokevirtual index, 3)) (hM : gMet y cc2 nL2 (some ty) L2 Z av F) (hln : gCn own index y) (hcw : gCw y cc2 nL2 (some ty) n) (hci : gCi y) (hc : Z[i]? = some (.inl (ci, fs))) (hcl : vwCl[ci]? = some (y.cls, TT, N)) (hav : av ad = .ref (ad i) :: As) (hst : st = As.reverse ++ .ref (ad i) :: rest) (hn : As.length = n) (hro : (rest.map fun v => v.category).sum ≤ 8) (hR : L2 + 1 ≤ R.frames ∧ 8 + (nL2 + 11) + 64 * L2 ≤ R.locals) (h : mCall (F σ) f = some z) (k : ∀ r σ1, f r σ1 = some z → g (pc + 3) ls (.int r :: rest) σ1) : g pc ls st σ := by
  obtain ⟨p, l, e, s, m, args, below, meth, c, A, D, cy, Q, hx, hT, hr, hml, hown, hts, hlk, hK, hA, hY, hE, hnc, hns, rfl⟩ := C
  intro H locs la hP hD hS hl
  have hA1 : ∀ q, va_A (gW cy Z ad σ) H.size q → A q := fun q hq => by
    rcases hq with ⟨k, e, hk⟩ | hq
    · exact hD.2 k (q, e) hk
    · exact hA q (Nat.le_trans hS.1 hq)
  have hpre : ∀ U : State, U.heap = H → s.WarmedH U.vm → U.heap.size = H.size ∧ gPre D cy (gW cy Z ad σ) (va_A (gW cy Z ad σ) H.size) U := fun U hU hW => ⟨by rw [hU], by rw [hU]; exact hP, va_K.moved hW.alike hK, hD.weaken (fun _ _ _ _ => trivial), gY.weaken hA1 (gY.moved hW hS hU hY)⟩
  have hbl : FrameBlind (va_Pc (av ad) (fun U => U.heap.size = H.size ∧ gPre D cy (gW cy Z ad σ) (va_A (gW cy Z ad σ) H.size) U)) := fun a U g mk q => by
    obtain ⟨q0, q1, qP, qK, qD, qY⟩ := q
    exact ⟨q0, q1, qP, va_K.moved (u := U) (U := U.calling g mk a) (Vm.Alike.refl U.vm) qK, qD, gY.same (U := U) (V := U.calling g mk a) rfl rfl qY⟩
  have hG : GoodIn TB (Cond.code y cc2 nL2 (some ty) :: TB) := TBg hcw.1
  cases hF : F σ with
  | none => rw [hF] at h; cases h
  | some z2 =>
  rw [hF] at h
  have hM2 := hM l D cy ad H.size σ z2 hF
  have hrv := va_recv hK hP hcl (gW_at hc)
  have hPV : PreV s H y.cls (ad i) (va_Pc (av ad) (fun U => U.heap.size = H.size ∧ gPre D cy (gW cy Z ad σ) (va_A (gW cy Z ad σ) H.size) U)) As := ⟨hbl, hrv, fun U hU hW => ⟨by rw [hav], hpre U hU hW⟩⟩
  rcases hln with hln | ⟨host, hln⟩
  · exact va_calli (va_runV (As := As) (rest := rest) ⟨hx, rfl, hml, hown, hts⟩ hM2 ⟨callB_of n hts hG rfl rfl rfl (hts _ hcw.2.1) (hts _ hln) hcw.2.2 hR, hts _ hci.1, hts _ hci.2⟩ hPV rfl hn hl.1 hst (lv_room hro) (hT j _ _ _ hd) ⟨hnc, hns⟩) hS (fun q _ h => hA1 q h) hA1 (fun r u t H1 l1 ht hvm hw hB hz1 hk1 hS1 => by
    have e1 : r = z2.1 := congrArg Prod.fst hw
    have e2 : u = z2.2 := congrArg Prod.snd hw
    subst e1; subst e2
    have hP1 : va_P D vwCl (gW cy Z ad z2.2) H1 := by rw [← ht]; exact hB
    exact k _ _ h H1 l1 la hP1 (gD_fst gW_fst hD) hS1 hl)
  · exact va_calli (va_runVN (As := As) (rest := rest) ⟨hx, rfl, hml, hown, hts⟩ hM2 ⟨va_cnB n hts hG rfl rfl rfl (hY.nw _ hln) (hts _ hcw.2.1) hcw.2.2 hR, hts _ hci.1, hts _ hci.2⟩ hPV rfl hn hl.1 hst (lv_room hro) (hT j _ _ _ hd) ⟨hnc, hns⟩) hS (fun q _ h => hA1 q h) hA1 (fun r u t H1 l1 ht hvm hw hB hz1 hk1 hS1 => by
    have e1 : r = z2.1 := congrArg Prod.fst hw
    have e2 : u = z2.2 := congrArg Prod.snd hw
    subst e1; subst e2
    have hP1 : va_P D vwCl (gW cy Z ad z2.2) H1 := by rw [← ht]; exact hB
    exact k _ _ h H1 l1 la hP1 (gD_fst gW_fst hD) hS1 hl)
theorem g_callVv (C : gOkQ g T own nL rt R Z ad nc ns E) (j : Nat) {index : Nat} {y : MethodName} {cc2 : ByteArray} {nL2 L2 n : Nat} {av : (Nat → Nat) → List Value} {F : gS → Option (Int32 × gS)} {f : Int32 → gS → Option α} (As rest : List Value) {i ci N : Nat} {TT : u_T} {fs : List (Option (Option Nat))} (hd : T[j]? = some (pc, .invokevirtual index, 3)) (hM : gMet y cc2 nL2 none L2 Z av F) (hln : gCn own index y) (hcw : gCw y cc2 nL2 none n) (hci : gCi y) (hc : Z[i]? = some (.inl (ci, fs))) (hcl : vwCl[ci]? = some (y.cls, TT, N)) (hav : av ad = .ref (ad i) :: As) (hst : st = As.reverse ++ .ref (ad i) :: rest) (hn : As.length = n) (hro : (rest.map fun v => v.category).sum ≤ 8) (hR : L2 + 1 ≤ R.frames ∧ 8 + (nL2 + 11) + 64 * L2 ≤ R.locals) (h : mCall (F σ) f = some z) (k : ∀ r σ1, f r σ1 = some z → g (pc + 3) ls (rest) σ1) : g pc ls st σ := by
  obtain ⟨p, l, e, s, m, args, below, meth, c, A, D, cy, Q, hx, hT, hr, hml, hown, hts, hlk, hK, hA, hY, hE, hnc, hns, rfl⟩ := C
  intro H locs la hP hD hS hl
  have hA1 : ∀ q, va_A (gW cy Z ad σ) H.size q → A q := fun q hq => by
    rcases hq with ⟨k, e, hk⟩ | hq
    · exact hD.2 k (q, e) hk
    · exact hA q (Nat.le_trans hS.1 hq)
  have hpre : ∀ U : State, U.heap = H → s.WarmedH U.vm → U.heap.size = H.size ∧ gPre D cy (gW cy Z ad σ) (va_A (gW cy Z ad σ) H.size) U := fun U hU hW => ⟨by rw [hU], by rw [hU]; exact hP, va_K.moved hW.alike hK, hD.weaken (fun _ _ _ _ => trivial), gY.weaken hA1 (gY.moved hW hS hU hY)⟩
  have hbl : FrameBlind (va_Pc (av ad) (fun U => U.heap.size = H.size ∧ gPre D cy (gW cy Z ad σ) (va_A (gW cy Z ad σ) H.size) U)) := fun a U g mk q => by
    obtain ⟨q0, q1, qP, qK, qD, qY⟩ := q
    exact ⟨q0, q1, qP, va_K.moved (u := U) (U := U.calling g mk a) (Vm.Alike.refl U.vm) qK, qD, gY.same (U := U) (V := U.calling g mk a) rfl rfl qY⟩
  have hG : GoodIn TB (Cond.code y cc2 nL2 none :: TB) := TBg hcw.1
  cases hF : F σ with
  | none => rw [hF] at h; cases h
  | some z2 =>
  rw [hF] at h
  have hM2 := hM l D cy ad H.size σ z2 hF
  have hrv := va_recv hK hP hcl (gW_at hc)
  have hPV : PreV s H y.cls (ad i) (va_Pc (av ad) (fun U => U.heap.size = H.size ∧ gPre D cy (gW cy Z ad σ) (va_A (gW cy Z ad σ) H.size) U)) As := ⟨hbl, hrv, fun U hU hW => ⟨by rw [hav], hpre U hU hW⟩⟩
  rcases hln with hln | ⟨host, hln⟩
  · exact va_callv (va_runV (As := As) (rest := rest) ⟨hx, rfl, hml, hown, hts⟩ hM2 ⟨callB_of n hts hG rfl rfl rfl (hts _ hcw.2.1) (hts _ hln) hcw.2.2 hR, hts _ hci.1, hts _ hci.2⟩ hPV rfl hn hl.1 hst (lv_room hro) (hT j _ _ _ hd) ⟨hnc, hns⟩) hS (fun q _ h => hA1 q h) hA1 (fun u t H1 l1 ht hvm hw hB hz1 hk1 hS1 => by
    subst hw
    have hP1 : va_P D vwCl (gW cy Z ad z2.2) H1 := by rw [← ht]; exact hB
    exact k _ _ h H1 l1 la hP1 (gD_fst gW_fst hD) hS1 hl)
  · exact va_callv (va_runVN (As := As) (rest := rest) ⟨hx, rfl, hml, hown, hts⟩ hM2 ⟨va_cnB n hts hG rfl rfl rfl (hY.nw _ hln) (hts _ hcw.2.1) hcw.2.2 hR, hts _ hci.1, hts _ hci.2⟩ hPV rfl hn hl.1 hst (lv_room hro) (hT j _ _ _ hd) ⟨hnc, hns⟩) hS (fun q _ h => hA1 q h) hA1 (fun u t H1 l1 ht hvm hw hB hz1 hk1 hS1 => by
    subst hw
    have hP1 : va_P D vwCl (gW cy Z ad z2.2) H1 := by rw [← ht]; exact hB
    exact k _ _ h H1 l1 la hP1 (gD_fst gW_fst hD) hS1 hl)
theorem g_callSi (C : gOkQ g T own nL rt R Z ad nc ns E) (j : Nat) {index : Nat} {y : MethodName} {cc2 : ByteArray} {nL2 L2 n : Nat} {ty : FieldType} {av : (Nat → Nat) → List Value} {F : gS → Option (Int32 × gS)} {f : Int32 → gS → Option α} (As rest : List Value) (hd : T[j]? = some (pc, .invokestatic index, 3)) (hM : gMet y cc2 nL2 (some ty) L2 Z av F) (hln : gCn own index y) (hcw : gCw y cc2 nL2 (some ty) n) (hcs : gCs y) (hav : av ad = As) (hst : st = As.reverse ++ rest) (hn : As.length = n) (hro : (rest.map fun v => v.category).sum ≤ 8) (hR : L2 + 1 ≤ R.frames ∧ 8 + (nL2 + 11) + 64 * L2 ≤ R.locals) (h : mCall (F σ) f = some z) (k : ∀ r σ1, f r σ1 = some z → g (pc + 3) ls (.int r :: rest) σ1) : g pc ls st σ := by
  obtain ⟨p, l, e, s, m, args, below, meth, c, A, D, cy, Q, hx, hT, hr, hml, hown, hts, hlk, hK, hA, hY, hE, hnc, hns, rfl⟩ := C
  intro H locs la hP hD hS hl
  have hA1 : ∀ q, va_A (gW cy Z ad σ) H.size q → A q := fun q hq => by
    rcases hq with ⟨k, e, hk⟩ | hq
    · exact hD.2 k (q, e) hk
    · exact hA q (Nat.le_trans hS.1 hq)
  have hpre : ∀ U : State, U.heap = H → s.WarmedH U.vm → U.heap.size = H.size ∧ gPre D cy (gW cy Z ad σ) (va_A (gW cy Z ad σ) H.size) U := fun U hU hW => ⟨by rw [hU], by rw [hU]; exact hP, va_K.moved hW.alike hK, hD.weaken (fun _ _ _ _ => trivial), gY.weaken hA1 (gY.moved hW hS hU hY)⟩
  have hbl : FrameBlind (va_Pc (av ad) (fun U => U.heap.size = H.size ∧ gPre D cy (gW cy Z ad σ) (va_A (gW cy Z ad σ) H.size) U)) := fun a U g mk q => by
    obtain ⟨q0, q1, qP, qK, qD, qY⟩ := q
    exact ⟨q0, q1, qP, va_K.moved (u := U) (U := U.calling g mk a) (Vm.Alike.refl U.vm) qK, qD, gY.same (U := U) (V := U.calling g mk a) rfl rfl qY⟩
  have hG : GoodIn TB (Cond.code y cc2 nL2 (some ty) :: TB) := TBg hcw.1
  cases hF : F σ with
  | none => rw [hF] at h; cases h
  | some z2 =>
  rw [hF] at h
  have hM2 := hM l D cy ad H.size σ z2 hF
  have hPS : PreS s H (va_Pc (av ad) (fun U => U.heap.size = H.size ∧ gPre D cy (gW cy Z ad σ) (va_A (gW cy Z ad σ) H.size) U)) As := ⟨hbl, fun U hU hW => ⟨by rw [hav], hpre U hU hW⟩⟩
  rcases hln with hln | ⟨host, hln⟩
  · exact va_calli (va_runS (As := As) (rest := rest) ⟨hx, rfl, hml, hown, hts⟩ hM2 ⟨callB_of n hts hG rfl rfl rfl (hts _ hcw.2.1) (hts _ hln) hcw.2.2 hR, hts _ hcs⟩ hPS rfl hn hl.1 hst (lv_room hro) (hT j _ _ _ hd) ⟨hnc, hns⟩) hS (fun q _ h => hA1 q h) hA1 (fun r u t H1 l1 ht hvm hw hB hz1 hk1 hS1 => by
    have e1 : r = z2.1 := congrArg Prod.fst hw
    have e2 : u = z2.2 := congrArg Prod.snd hw
    subst e1; subst e2
    have hP1 : va_P D vwCl (gW cy Z ad z2.2) H1 := by rw [← ht]; exact hB
    exact k _ _ h H1 l1 la hP1 (gD_fst gW_fst hD) hS1 hl)
  · exact va_calli (va_runSN (As := As) (rest := rest) ⟨hx, rfl, hml, hown, hts⟩ hM2 ⟨va_cnB n hts hG rfl rfl rfl (hY.nw _ hln) (hts _ hcw.2.1) hcw.2.2 hR, hts _ hcs, trivial⟩ hPS rfl hn hl.1 hst (lv_room hro) (hT j _ _ _ hd) ⟨hnc, hns⟩) hS (fun q _ h => hA1 q h) hA1 (fun r u t H1 l1 ht hvm hw hB hz1 hk1 hS1 => by
    have e1 : r = z2.1 := congrArg Prod.fst hw
    have e2 : u = z2.2 := congrArg Prod.snd hw
    subst e1; subst e2
    have hP1 : va_P D vwCl (gW cy Z ad z2.2) H1 := by rw [← ht]; exact hB
    exact k _ _ h H1 l1 la hP1 (gD_fst gW_fst hD) hS1 hl)
theorem g_callSv (C : gOkQ g T own nL rt R Z ad nc ns E) (j : Nat) {index : Nat} {y : MethodName} {cc2 : ByteArray} {nL2 L2 n : Nat} {av : (Nat → Nat) → List Value} {F : gS → Option (Int32 × gS)} {f : Int32 → gS → Option α} (As rest : List Value) (hd : T[j]? = some (pc, .invokestatic index, 3)) (hM : gMet y cc2 nL2 none L2 Z av F) (hln : gCn own index y) (hcw : gCw y cc2 nL2 none n) (hcs : gCs y) (hav : av ad = As) (hst : st = As.reverse ++ rest) (hn : As.length = n) (hro : (rest.map fun v => v.category).sum ≤ 8) (hR : L2 + 1 ≤ R.frames ∧ 8 + (nL2 + 11) + 64 * L2 ≤ R.locals) (h : mCall (F σ) f = some z) (k : ∀ r σ1, f r σ1 = some z → g (pc + 3) ls (rest) σ1) : g pc ls st σ := by
  obtain ⟨p, l, e, s, m, args, below, meth, c, A, D, cy, Q, hx, hT, hr, hml, hown, hts, hlk, hK, hA, hY, hE, hnc, hns, rfl⟩ := C
  intro H locs la hP hD hS hl
  have hA1 : ∀ q, va_A (gW cy Z ad σ) H.size q → A q := fun q hq => by
    rcases hq with ⟨k, e, hk⟩ | hq
    · exact hD.2 k (q, e) hk
    · exact hA q (Nat.le_trans hS.1 hq)
  have hpre : ∀ U : State, U.heap = H → s.WarmedH U.vm → U.heap.size = H.size ∧ gPre D cy (gW cy Z ad σ) (va_A (gW cy Z ad σ) H.size) U := fun U hU hW => ⟨by rw [hU], by rw [hU]; exact hP, va_K.moved hW.alike hK, hD.weaken (fun _ _ _ _ => trivial), gY.weaken hA1 (gY.moved hW hS hU hY)⟩
  have hbl : FrameBlind (va_Pc (av ad) (fun U => U.heap.size = H.size ∧ gPre D cy (gW cy Z ad σ) (va_A (gW cy Z ad σ) H.size) U)) := fun a U g mk q => by
    obtain ⟨q0, q1, qP, qK, qD, qY⟩ := q
    exact ⟨q0, q1, qP, va_K.moved (u := U) (U := U.calling g mk a) (Vm.Alike.refl U.vm) qK, qD, gY.same (U := U) (V := U.calling g mk a) rfl rfl qY⟩
  have hG : GoodIn TB (Cond.code y cc2 nL2 none :: TB) := TBg hcw.1
  cases hF : F σ with
  | none => rw [hF] at h; cases h
  | some z2 =>
  rw [hF] at h
  have hM2 := hM l D cy ad H.size σ z2 hF
  have hPS : PreS s H (va_Pc (av ad) (fun U => U.heap.size = H.size ∧ gPre D cy (gW cy Z ad σ) (va_A (gW cy Z ad σ) H.size) U)) As := ⟨hbl, fun U hU hW => ⟨by rw [hav], hpre U hU hW⟩⟩
  rcases hln with hln | ⟨host, hln⟩
  · exact va_callv (va_runS (As := As) (rest := rest) ⟨hx, rfl, hml, hown, hts⟩ hM2 ⟨callB_of n hts hG rfl rfl rfl (hts _ hcw.2.1) (hts _ hln) hcw.2.2 hR, hts _ hcs⟩ hPS rfl hn hl.1 hst (lv_room hro) (hT j _ _ _ hd) ⟨hnc, hns⟩) hS (fun q _ h => hA1 q h) hA1 (fun u t H1 l1 ht hvm hw hB hz1 hk1 hS1 => by
    subst hw
    have hP1 : va_P D vwCl (gW cy Z ad z2.2) H1 := by rw [← ht]; exact hB
    exact k _ _ h H1 l1 la hP1 (gD_fst gW_fst hD) hS1 hl)
  · exact va_callv (va_runSN (As := As) (rest := rest) ⟨hx, rfl, hml, hown, hts⟩ hM2 ⟨va_cnB n hts hG rfl rfl rfl (hY.nw _ hln) (hts _ hcw.2.1) hcw.2.2 hR, hts _ hcs, trivial⟩ hPS rfl hn hl.1 hst (lv_room hro) (hT j _ _ _ hd) ⟨hnc, hns⟩) hS (fun q _ h => hA1 q h) hA1 (fun u t H1 l1 ht hvm hw hB hz1 hk1 hS1 => by
    subst hw
    have hP1 : va_P D vwCl (gW cy Z ad z2.2) H1 := by rw [← ht]; exact hB
    exact k _ _ h H1 l1 la hP1 (gD_fst gW_fst hD) hS1 hl)
end
theorem g_ireturn {g : Nat → List (Nat × Value) → List Value → gS → Prop} {T : List (Nat × Instr × Nat)} {own : String} {nL : Nat} {L : Nat} {Z : List gH} {ad : Nat → Nat} {pc : Nat} {ls : List (Nat × Value)} {σ : gS} {z : Int32 × gS} {v : Int32} (C : gOk g T own nL (some .int) L Z ad z) (j : Nat) (hd : T[j]? = some (pc, .ireturn, 1)) (h : some (v, σ) = some z) : g pc ls [.int v] σ := by
  obtain ⟨p, l, e, s, m, args, below, meth, c, A, D, cy, Q, hx, hT, hr, hml, hown, hts, hlk, hK, hA, hY, hQ, hnc, hns, rfl⟩ := C
  intro H locs la hP hD hS hl
  subst hQ
  have hz : (v, σ) = z := Option.some.inj h
  exact W.zret hx rfl hr rfl (fun t ht hW => ⟨⟨v, σ, rfl, hz, by show va_P _ _ _ _; rw [ht]; exact hP⟩, hS.F ht⟩) hS.2.2 (hT j _ _ _ hd) hlk
theorem g_zreturn {g : Nat → List (Nat × Value) → List Value → gS → Prop} {T : List (Nat × Instr × Nat)} {own : String} {nL : Nat} {L : Nat} {Z : List gH} {ad : Nat → Nat} {pc : Nat} {ls : List (Nat × Value)} {σ : gS} {z : Int32 × gS} {v : Int32} (C : gOk g T own nL (some .boolean) L Z ad z) (j : Nat) (hd : T[j]? = some (pc, .ireturn, 1)) (h : mZ v σ = some z) : g pc ls [.int v] σ := by
  obtain ⟨p, l, e, s, m, args, below, meth, c, A, D, cy, Q, hx, hT, hr, hml, hown, hts, hlk, hK, hA, hY, hQ, hnc, hns, rfl⟩ := C
  intro H locs la hP hD hS hl
  subst hQ
  unfold mZ at h
  by_cases hv : v = 0 ∨ v = 1
  · rw [if_pos hv] at h
    have hz : (v, σ) = z := Option.some.inj h
    exact W.zret hx rfl hr (by rcases hv with rfl | rfl <;> rfl) (fun t ht hW => ⟨⟨v, σ, rfl, hz, by show va_P _ _ _ _; rw [ht]; exact hP⟩, hS.F ht⟩) hS.2.2 (hT j _ _ _ hd) hlk
  · rw [if_neg hv] at h; cases h
theorem g_return {g : Nat → List (Nat × Value) → List Value → gS → Prop} {T : List (Nat × Instr × Nat)} {own : String} {nL : Nat} {L : Nat} {Z : List gH} {ad : Nat → Nat} {pc : Nat} {ls : List (Nat × Value)} {σ : gS} {z : Int32 × gS} (C : gOk g T own nL none L Z ad z) (j : Nat) (hd : T[j]? = some (pc, .return_, 1)) (h : some (0, σ) = some z) : g pc ls [] σ := by
  obtain ⟨p, l, e, s, m, args, below, meth, c, A, D, cy, Q, hx, hT, hr, hml, hown, hts, hlk, hK, hA, hY, hQ, hnc, hns, rfl⟩ := C
  intro H locs la hP hD hS hl
  subst hQ
  have hz : σ = z.2 := congrArg Prod.snd (Option.some.inj h)
  exact W.vret hx rfl hr (fun t ht hW => ⟨⟨σ, rfl, hz, by show va_P _ _ _ _; rw [ht]; exact hP⟩, hS.F ht⟩) hS.2.2 (hT j _ _ _ hd) hlk
theorem h_let {α β : Type} {a : α} {f : α → β} {w : β} {P : α → Prop} (h : mLet a f = w) (k : ∀ x, f x = w → P x) : P a := k a h
theorem h_some {α β : Type} {o : Option β} {f : β → Option α} {z : α} {P : Prop} (h : mSome o f = some z) (k : ∀ c, o = some c → f c = some z → P) : P := by
  cases o with
  | none => cases h
  | some c => exact k c rfl h
end
