-- ===== PART A: goes FIRST, ahead of the names: the tables' words, and 'selects' of the private methods out of them =====
/-- a private method of a class that the tables say can be made, by its rows of tables_1 -/
def lw_okq (q : MethodName × Nat) : Prop := (q.1.cls ≠ "java/lang/invoke/MethodHandle" ∧ q.1.cls ≠ "java/lang/invoke/VarHandle") ∧ Cond.instantiable q.1.cls q.2 ∈ tables_1 ∧ Cond.privateMethod q.1 ∈ tables_1 ∧ Cond.instanceMethod q.1 ∈ tables_1
theorem lw_p0 : lw_okq (⟨"StrawGarrison", "isGuard", "(I)Z"⟩, 12) := ⟨⟨by decide +kernel, by decide +kernel⟩, List.mem_of_getElem? (i := 19) (by decide +kernel), List.mem_of_getElem? (i := 261) (by decide +kernel), List.mem_of_getElem? (i := 262) (by decide +kernel)⟩
theorem lw_p1 : lw_okq (⟨"StrawGarrison$Border", "draw", "()I"⟩, 11) := ⟨⟨by decide +kernel, by decide +kernel⟩, List.mem_of_getElem? (i := 27) (by decide +kernel), List.mem_of_getElem? (i := 342) (by decide +kernel), List.mem_of_getElem? (i := 343) (by decide +kernel)⟩
theorem lw_p2 : lw_okq (⟨"StrawGarrison$Border", "blow", "(I)V"⟩, 11) := ⟨⟨by decide +kernel, by decide +kernel⟩, List.mem_of_getElem? (i := 27) (by decide +kernel), List.mem_of_getElem? (i := 372) (by decide +kernel), List.mem_of_getElem? (i := 373) (by decide +kernel)⟩
theorem lw_p3 : lw_okq (⟨"StrawGarrison$Border", "setUp", "()V"⟩, 11) := ⟨⟨by decide +kernel, by decide +kernel⟩, List.mem_of_getElem? (i := 27) (by decide +kernel), List.mem_of_getElem? (i := 377) (by decide +kernel), List.mem_of_getElem? (i := 378) (by decide +kernel)⟩
theorem lw_p4 : lw_okq (⟨"StrawGarrison$Border", "setUpFirstNear", "(I)V"⟩, 11) := ⟨⟨by decide +kernel, by decide +kernel⟩, List.mem_of_getElem? (i := 27) (by decide +kernel), List.mem_of_getElem? (i := 384) (by decide +kernel), List.mem_of_getElem? (i := 385) (by decide +kernel)⟩
theorem lw_p5 : lw_okq (⟨"StrawGarrison$Border", "isNear", "(II)Z"⟩, 11) := ⟨⟨by decide +kernel, by decide +kernel⟩, List.mem_of_getElem? (i := 27) (by decide +kernel), List.mem_of_getElem? (i := 388) (by decide +kernel), List.mem_of_getElem? (i := 389) (by decide +kernel)⟩
theorem lw_p6 : lw_okq (⟨"StrawGarrison$Border", "watch", "(I)V"⟩, 11) := ⟨⟨by decide +kernel, by decide +kernel⟩, List.mem_of_getElem? (i := 27) (by decide +kernel), List.mem_of_getElem? (i := 392) (by decide +kernel), List.mem_of_getElem? (i := 393) (by decide +kernel)⟩
theorem lw_p7 : lw_okq (⟨"StrawGarrison$Border", "wet", "()V"⟩, 11) := ⟨⟨by decide +kernel, by decide +kernel⟩, List.mem_of_getElem? (i := 27) (by decide +kernel), List.mem_of_getElem? (i := 398) (by decide +kernel), List.mem_of_getElem? (i := 399) (by decide +kernel)⟩
theorem lw_p8 : lw_okq (⟨"StrawGarrison", "countedBehind", "(I)I"⟩, 12) := ⟨⟨by decide +kernel, by decide +kernel⟩, List.mem_of_getElem? (i := 19) (by decide +kernel), List.mem_of_getElem? (i := 454) (by decide +kernel), List.mem_of_getElem? (i := 455) (by decide +kernel)⟩
theorem lw_p9 : lw_okq (⟨"StrawGarrison", "firstRaid", "(I)I"⟩, 12) := ⟨⟨by decide +kernel, by decide +kernel⟩, List.mem_of_getElem? (i := 19) (by decide +kernel), List.mem_of_getElem? (i := 462) (by decide +kernel), List.mem_of_getElem? (i := 463) (by decide +kernel)⟩
theorem lw_p10 : lw_okq (⟨"StrawGarrison", "sumDifferences", "(LStrawGarrison$Sheet;)V"⟩, 12) := ⟨⟨by decide +kernel, by decide +kernel⟩, List.mem_of_getElem? (i := 19) (by decide +kernel), List.mem_of_getElem? (i := 486) (by decide +kernel), List.mem_of_getElem? (i := 487) (by decide +kernel)⟩
theorem lw_p11 : lw_okq (⟨"StrawGarrison", "tapeNumber", "(I)V"⟩, 12) := ⟨⟨by decide +kernel, by decide +kernel⟩, List.mem_of_getElem? (i := 19) (by decide +kernel), List.mem_of_getElem? (i := 513) (by decide +kernel), List.mem_of_getElem? (i := 514) (by decide +kernel)⟩
theorem lw_p12 : lw_okq (⟨"StrawGarrison$Reader", "start", "()V"⟩, 10) := ⟨⟨by decide +kernel, by decide +kernel⟩, List.mem_of_getElem? (i := 100) (by decide +kernel), List.mem_of_getElem? (i := 529) (by decide +kernel), List.mem_of_getElem? (i := 530) (by decide +kernel)⟩
theorem lw_p13 : lw_okq (⟨"StrawGarrison$Reader", "goesOnWith", "([BII)Z"⟩, 10) := ⟨⟨by decide +kernel, by decide +kernel⟩, List.mem_of_getElem? (i := 100) (by decide +kernel), List.mem_of_getElem? (i := 600) (by decide +kernel), List.mem_of_getElem? (i := 601) (by decide +kernel)⟩
theorem lw_p14 : lw_okq (⟨"StrawGarrison$Reader", "takesNumber", "([BII)Z"⟩, 10) := ⟨⟨by decide +kernel, by decide +kernel⟩, List.mem_of_getElem? (i := 100) (by decide +kernel), List.mem_of_getElem? (i := 604) (by decide +kernel), List.mem_of_getElem? (i := 605) (by decide +kernel)⟩
theorem lw_p15 : lw_okq (⟨"StrawGarrison$Reader", "takePiece", "(I)V"⟩, 10) := ⟨⟨by decide +kernel, by decide +kernel⟩, List.mem_of_getElem? (i := 100) (by decide +kernel), List.mem_of_getElem? (i := 608) (by decide +kernel), List.mem_of_getElem? (i := 609) (by decide +kernel)⟩
def lw_privs_1 : List (MethodName × Nat) := [(⟨"StrawGarrison", "isGuard", "(I)Z"⟩, 12), (⟨"StrawGarrison$Border", "draw", "()I"⟩, 11), (⟨"StrawGarrison$Border", "blow", "(I)V"⟩, 11), (⟨"StrawGarrison$Border", "setUp", "()V"⟩, 11), (⟨"StrawGarrison$Border", "setUpFirstNear", "(I)V"⟩, 11), (⟨"StrawGarrison$Border", "isNear", "(II)Z"⟩, 11), (⟨"StrawGarrison$Border", "watch", "(I)V"⟩, 11), (⟨"StrawGarrison$Border", "wet", "()V"⟩, 11), (⟨"StrawGarrison", "countedBehind", "(I)I"⟩, 12), (⟨"StrawGarrison", "firstRaid", "(I)I"⟩, 12), (⟨"StrawGarrison", "sumDifferences", "(LStrawGarrison$Sheet;)V"⟩, 12), (⟨"StrawGarrison", "tapeNumber", "(I)V"⟩, 12), (⟨"StrawGarrison$Reader", "start", "()V"⟩, 10), (⟨"StrawGarrison$Reader", "goesOnWith", "([BII)Z"⟩, 10), (⟨"StrawGarrison$Reader", "takesNumber", "([BII)Z"⟩, 10), (⟨"StrawGarrison$Reader", "takePiece", "(I)V"⟩, 10)]
theorem lw_r1 : ∀ q ∈ lw_privs_1, lw_okq q := List.forall_mem_cons.mpr ⟨lw_p0, List.forall_mem_cons.mpr ⟨lw_p1, List.forall_mem_cons.mpr ⟨lw_p2, List.forall_mem_cons.mpr ⟨lw_p3, List.forall_mem_cons.mpr ⟨lw_p4, List.forall_mem_cons.mpr ⟨lw_p5, List.forall_mem_cons.mpr ⟨lw_p6, List.forall_mem_cons.mpr ⟨lw_p7, List.forall_mem_cons.mpr ⟨lw_p8, List.forall_mem_cons.mpr ⟨lw_p9, List.forall_mem_cons.mpr ⟨lw_p10, List.forall_mem_cons.mpr ⟨lw_p11, List.forall_mem_cons.mpr ⟨lw_p12, List.forall_mem_cons.mpr ⟨lw_p13, List.forall_mem_cons.mpr ⟨lw_p14, List.forall_mem_cons.mpr ⟨lw_p15, fun _ h => absurd h List.not_mem_nil⟩⟩⟩⟩⟩⟩⟩⟩⟩⟩⟩⟩⟩⟩⟩⟩
theorem lw_p16 : lw_okq (⟨"StrawGarrison$Reader", "putDown", "(I)V"⟩, 10) := ⟨⟨by decide +kernel, by decide +kernel⟩, List.mem_of_getElem? (i := 100) (by decide +kernel), List.mem_of_getElem? (i := 612) (by decide +kernel), List.mem_of_getElem? (i := 613) (by decide +kernel)⟩
theorem lw_p17 : lw_okq (⟨"StrawGarrison$Reader", "endPiece", "()V"⟩, 10) := ⟨⟨by decide +kernel, by decide +kernel⟩, List.mem_of_getElem? (i := 100) (by decide +kernel), List.mem_of_getElem? (i := 616) (by decide +kernel), List.mem_of_getElem? (i := 617) (by decide +kernel)⟩
theorem lw_p18 : lw_okq (⟨"StrawGarrison$Reader", "takesName", "(I)Z"⟩, 10) := ⟨⟨by decide +kernel, by decide +kernel⟩, List.mem_of_getElem? (i := 100) (by decide +kernel), List.mem_of_getElem? (i := 620) (by decide +kernel), List.mem_of_getElem? (i := 621) (by decide +kernel)⟩
theorem lw_p19 : lw_okq (⟨"StrawGarrison$Reader", "opens", "(I)Z"⟩, 10) := ⟨⟨by decide +kernel, by decide +kernel⟩, List.mem_of_getElem? (i := 100) (by decide +kernel), List.mem_of_getElem? (i := 682) (by decide +kernel), List.mem_of_getElem? (i := 683) (by decide +kernel)⟩
theorem lw_p20 : lw_okq (⟨"StrawGarrison$Reader", "push", "(I)V"⟩, 10) := ⟨⟨by decide +kernel, by decide +kernel⟩, List.mem_of_getElem? (i := 100) (by decide +kernel), List.mem_of_getElem? (i := 686) (by decide +kernel), List.mem_of_getElem? (i := 687) (by decide +kernel)⟩
theorem lw_p21 : lw_okq (⟨"StrawGarrison$Reader", "closes", "()Z"⟩, 10) := ⟨⟨by decide +kernel, by decide +kernel⟩, List.mem_of_getElem? (i := 100) (by decide +kernel), List.mem_of_getElem? (i := 690) (by decide +kernel), List.mem_of_getElem? (i := 691) (by decide +kernel)⟩
theorem lw_p22 : lw_okq (⟨"StrawGarrison$Reader", "putDownFrom", "(I)V"⟩, 10) := ⟨⟨by decide +kernel, by decide +kernel⟩, List.mem_of_getElem? (i := 100) (by decide +kernel), List.mem_of_getElem? (i := 694) (by decide +kernel), List.mem_of_getElem? (i := 695) (by decide +kernel)⟩
theorem lw_p23 : lw_okq (⟨"StrawGarrison$Reader", "joins", "(I)Z"⟩, 10) := ⟨⟨by decide +kernel, by decide +kernel⟩, List.mem_of_getElem? (i := 100) (by decide +kernel), List.mem_of_getElem? (i := 701) (by decide +kernel), List.mem_of_getElem? (i := 702) (by decide +kernel)⟩
theorem lw_p24 : lw_okq (⟨"StrawGarrisonModel", "whose", "(I)I"⟩, 31) := ⟨⟨by decide +kernel, by decide +kernel⟩, List.mem_of_getElem? (i := 833) (by decide +kernel), List.mem_of_getElem? (i := 947) (by decide +kernel), List.mem_of_getElem? (i := 948) (by decide +kernel)⟩
theorem lw_p25 : lw_okq (⟨"StrawGarrisonModel", "of", "(II)I"⟩, 31) := ⟨⟨by decide +kernel, by decide +kernel⟩, List.mem_of_getElem? (i := 833) (by decide +kernel), List.mem_of_getElem? (i := 951) (by decide +kernel), List.mem_of_getElem? (i := 952) (by decide +kernel)⟩
theorem lw_p26 : lw_okq (⟨"StrawGarrisonModel", "comes", "(III)V"⟩, 31) := ⟨⟨by decide +kernel, by decide +kernel⟩, List.mem_of_getElem? (i := 833) (by decide +kernel), List.mem_of_getElem? (i := 957) (by decide +kernel), List.mem_of_getElem? (i := 958) (by decide +kernel)⟩
theorem lw_p27 : lw_okq (⟨"StrawGarrisonModel", "sets", "(III)V"⟩, 31) := ⟨⟨by decide +kernel, by decide +kernel⟩, List.mem_of_getElem? (i := 833) (by decide +kernel), List.mem_of_getElem? (i := 961) (by decide +kernel), List.mem_of_getElem? (i := 962) (by decide +kernel)⟩
theorem lw_p28 : lw_okq (⟨"StrawGarrisonModel", "isGuard", "(I)Z"⟩, 31) := ⟨⟨by decide +kernel, by decide +kernel⟩, List.mem_of_getElem? (i := 833) (by decide +kernel), List.mem_of_getElem? (i := 969) (by decide +kernel), List.mem_of_getElem? (i := 970) (by decide +kernel)⟩
theorem lw_p29 : lw_okq (⟨"StrawGarrisonModel", "looks", "(I)I"⟩, 31) := ⟨⟨by decide +kernel, by decide +kernel⟩, List.mem_of_getElem? (i := 833) (by decide +kernel), List.mem_of_getElem? (i := 974) (by decide +kernel), List.mem_of_getElem? (i := 975) (by decide +kernel)⟩
theorem lw_p30 : lw_okq (⟨"StrawGarrisonModel", "plain", "(I)I"⟩, 31) := ⟨⟨by decide +kernel, by decide +kernel⟩, List.mem_of_getElem? (i := 833) (by decide +kernel), List.mem_of_getElem? (i := 978) (by decide +kernel), List.mem_of_getElem? (i := 979) (by decide +kernel)⟩
theorem lw_p31 : lw_okq (⟨"StrawGarrisonModel", "counts", "(I)I"⟩, 31) := ⟨⟨by decide +kernel, by decide +kernel⟩, List.mem_of_getElem? (i := 833) (by decide +kernel), List.mem_of_getElem? (i := 982) (by decide +kernel), List.mem_of_getElem? (i := 983) (by decide +kernel)⟩
def lw_privs_2 : List (MethodName × Nat) := [(⟨"StrawGarrison$Reader", "putDown", "(I)V"⟩, 10), (⟨"StrawGarrison$Reader", "endPiece", "()V"⟩, 10), (⟨"StrawGarrison$Reader", "takesName", "(I)Z"⟩, 10), (⟨"StrawGarrison$Reader", "opens", "(I)Z"⟩, 10), (⟨"StrawGarrison$Reader", "push", "(I)V"⟩, 10), (⟨"StrawGarrison$Reader", "closes", "()Z"⟩, 10), (⟨"StrawGarrison$Reader", "putDownFrom", "(I)V"⟩, 10), (⟨"StrawGarrison$Reader", "joins", "(I)Z"⟩, 10), (⟨"StrawGarrisonModel", "whose", "(I)I"⟩, 31), (⟨"StrawGarrisonModel", "of", "(II)I"⟩, 31), (⟨"StrawGarrisonModel", "comes", "(III)V"⟩, 31), (⟨"StrawGarrisonModel", "sets", "(III)V"⟩, 31), (⟨"StrawGarrisonModel", "isGuard", "(I)Z"⟩, 31), (⟨"StrawGarrisonModel", "looks", "(I)I"⟩, 31), (⟨"StrawGarrisonModel", "plain", "(I)I"⟩, 31), (⟨"StrawGarrisonModel", "counts", "(I)I"⟩, 31)]
theorem lw_r2 : ∀ q ∈ lw_privs_2, lw_okq q := List.forall_mem_cons.mpr ⟨lw_p16, List.forall_mem_cons.mpr ⟨lw_p17, List.forall_mem_cons.mpr ⟨lw_p18, List.forall_mem_cons.mpr ⟨lw_p19, List.forall_mem_cons.mpr ⟨lw_p20, List.forall_mem_cons.mpr ⟨lw_p21, List.forall_mem_cons.mpr ⟨lw_p22, List.forall_mem_cons.mpr ⟨lw_p23, List.forall_mem_cons.mpr ⟨lw_p24, List.forall_mem_cons.mpr ⟨lw_p25, List.forall_mem_cons.mpr ⟨lw_p26, List.forall_mem_cons.mpr ⟨lw_p27, List.forall_mem_cons.mpr ⟨lw_p28, List.forall_mem_cons.mpr ⟨lw_p29, List.forall_mem_cons.mpr ⟨lw_p30, List.forall_mem_cons.mpr ⟨lw_p31, fun _ h => absurd h List.not_mem_nil⟩⟩⟩⟩⟩⟩⟩⟩⟩⟩⟩⟩⟩⟩⟩⟩
theorem lw_p32 : lw_okq (⟨"StrawGarrisonModel", "textAt", "(I)I"⟩, 31) := ⟨⟨by decide +kernel, by decide +kernel⟩, List.mem_of_getElem? (i := 833) (by decide +kernel), List.mem_of_getElem? (i := 986) (by decide +kernel), List.mem_of_getElem? (i := 987) (by decide +kernel)⟩
theorem lw_p33 : lw_okq (⟨"StrawGarrisonModel", "worked", "(I)I"⟩, 31) := ⟨⟨by decide +kernel, by decide +kernel⟩, List.mem_of_getElem? (i := 833) (by decide +kernel), List.mem_of_getElem? (i := 990) (by decide +kernel), List.mem_of_getElem? (i := 991) (by decide +kernel)⟩
theorem lw_p34 : lw_okq (⟨"StrawGarrisonModel", "falls", "(I)I"⟩, 31) := ⟨⟨by decide +kernel, by decide +kernel⟩, List.mem_of_getElem? (i := 833) (by decide +kernel), List.mem_of_getElem? (i := 1000) (by decide +kernel), List.mem_of_getElem? (i := 1001) (by decide +kernel)⟩
theorem lw_p35 : lw_okq (⟨"StrawGarrisonModel", "fights", "(I)I"⟩, 31) := ⟨⟨by decide +kernel, by decide +kernel⟩, List.mem_of_getElem? (i := 833) (by decide +kernel), List.mem_of_getElem? (i := 1004) (by decide +kernel), List.mem_of_getElem? (i := 1005) (by decide +kernel)⟩
theorem lw_p36 : lw_okq (⟨"StrawGarrisonModel", "worth", "(I)I"⟩, 31) := ⟨⟨by decide +kernel, by decide +kernel⟩, List.mem_of_getElem? (i := 833) (by decide +kernel), List.mem_of_getElem? (i := 1008) (by decide +kernel), List.mem_of_getElem? (i := 1009) (by decide +kernel)⟩
theorem lw_p37 : lw_okq (⟨"StrawGarrisonModel", "changes", "(II)I"⟩, 31) := ⟨⟨by decide +kernel, by decide +kernel⟩, List.mem_of_getElem? (i := 833) (by decide +kernel), List.mem_of_getElem? (i := 1024) (by decide +kernel), List.mem_of_getElem? (i := 1025) (by decide +kernel)⟩
theorem lw_p38 : lw_okq (⟨"StrawGarrisonModel", "drawn", "()I"⟩, 31) := ⟨⟨by decide +kernel, by decide +kernel⟩, List.mem_of_getElem? (i := 833) (by decide +kernel), List.mem_of_getElem? (i := 1058) (by decide +kernel), List.mem_of_getElem? (i := 1059) (by decide +kernel)⟩
theorem lw_p39 : lw_okq (⟨"StrawGarrisonModel", "raids", "()I"⟩, 31) := ⟨⟨by decide +kernel, by decide +kernel⟩, List.mem_of_getElem? (i := 833) (by decide +kernel), List.mem_of_getElem? (i := 1078) (by decide +kernel), List.mem_of_getElem? (i := 1079) (by decide +kernel)⟩
theorem lw_p40 : lw_okq (⟨"StrawGarrisonModel", "goesOnMany", "(I)V"⟩, 31) := ⟨⟨by decide +kernel, by decide +kernel⟩, List.mem_of_getElem? (i := 833) (by decide +kernel), List.mem_of_getElem? (i := 1082) (by decide +kernel), List.mem_of_getElem? (i := 1083) (by decide +kernel)⟩
theorem lw_p41 : lw_okq (⟨"StrawGarrisonModel", "goesOn", "()V"⟩, 31) := ⟨⟨by decide +kernel, by decide +kernel⟩, List.mem_of_getElem? (i := 833) (by decide +kernel), List.mem_of_getElem? (i := 1086) (by decide +kernel), List.mem_of_getElem? (i := 1087) (by decide +kernel)⟩
theorem lw_p42 : lw_okq (⟨"StrawGarrisonModel", "blows", "()V"⟩, 31) := ⟨⟨by decide +kernel, by decide +kernel⟩, List.mem_of_getElem? (i := 833) (by decide +kernel), List.mem_of_getElem? (i := 1090) (by decide +kernel), List.mem_of_getElem? (i := 1091) (by decide +kernel)⟩
theorem lw_p43 : lw_okq (⟨"StrawGarrisonModel", "lives", "(I)Z"⟩, 31) := ⟨⟨by decide +kernel, by decide +kernel⟩, List.mem_of_getElem? (i := 833) (by decide +kernel), List.mem_of_getElem? (i := 1094) (by decide +kernel), List.mem_of_getElem? (i := 1095) (by decide +kernel)⟩
theorem lw_p44 : lw_okq (⟨"StrawGarrisonModel", "rises", "(I)V"⟩, 31) := ⟨⟨by decide +kernel, by decide +kernel⟩, List.mem_of_getElem? (i := 833) (by decide +kernel), List.mem_of_getElem? (i := 1098) (by decide +kernel), List.mem_of_getElem? (i := 1099) (by decide +kernel)⟩
theorem lw_p45 : lw_okq (⟨"StrawGarrisonModel", "watches", "()V"⟩, 31) := ⟨⟨by decide +kernel, by decide +kernel⟩, List.mem_of_getElem? (i := 833) (by decide +kernel), List.mem_of_getElem? (i := 1102) (by decide +kernel), List.mem_of_getElem? (i := 1103) (by decide +kernel)⟩
theorem lw_p46 : lw_okq (⟨"StrawGarrisonModel", "counted", "()I"⟩, 31) := ⟨⟨by decide +kernel, by decide +kernel⟩, List.mem_of_getElem? (i := 833) (by decide +kernel), List.mem_of_getElem? (i := 1106) (by decide +kernel), List.mem_of_getElem? (i := 1107) (by decide +kernel)⟩
theorem lw_p47 : lw_okq (⟨"StrawGarrisonModel", "strength", "()I"⟩, 31) := ⟨⟨by decide +kernel, by decide +kernel⟩, List.mem_of_getElem? (i := 833) (by decide +kernel), List.mem_of_getElem? (i := 1110) (by decide +kernel), List.mem_of_getElem? (i := 1111) (by decide +kernel)⟩
def lw_privs_3 : List (MethodName × Nat) := [(⟨"StrawGarrisonModel", "textAt", "(I)I"⟩, 31), (⟨"StrawGarrisonModel", "worked", "(I)I"⟩, 31), (⟨"StrawGarrisonModel", "falls", "(I)I"⟩, 31), (⟨"StrawGarrisonModel", "fights", "(I)I"⟩, 31), (⟨"StrawGarrisonModel", "worth", "(I)I"⟩, 31), (⟨"StrawGarrisonModel", "changes", "(II)I"⟩, 31), (⟨"StrawGarrisonModel", "drawn", "()I"⟩, 31), (⟨"StrawGarrisonModel", "raids", "()I"⟩, 31), (⟨"StrawGarrisonModel", "goesOnMany", "(I)V"⟩, 31), (⟨"StrawGarrisonModel", "goesOn", "()V"⟩, 31), (⟨"StrawGarrisonModel", "blows", "()V"⟩, 31), (⟨"StrawGarrisonModel", "lives", "(I)Z"⟩, 31), (⟨"StrawGarrisonModel", "rises", "(I)V"⟩, 31), (⟨"StrawGarrisonModel", "watches", "()V"⟩, 31), (⟨"StrawGarrisonModel", "counted", "()I"⟩, 31), (⟨"StrawGarrisonModel", "strength", "()I"⟩, 31)]
theorem lw_r3 : ∀ q ∈ lw_privs_3, lw_okq q := List.forall_mem_cons.mpr ⟨lw_p32, List.forall_mem_cons.mpr ⟨lw_p33, List.forall_mem_cons.mpr ⟨lw_p34, List.forall_mem_cons.mpr ⟨lw_p35, List.forall_mem_cons.mpr ⟨lw_p36, List.forall_mem_cons.mpr ⟨lw_p37, List.forall_mem_cons.mpr ⟨lw_p38, List.forall_mem_cons.mpr ⟨lw_p39, List.forall_mem_cons.mpr ⟨lw_p40, List.forall_mem_cons.mpr ⟨lw_p41, List.forall_mem_cons.mpr ⟨lw_p42, List.forall_mem_cons.mpr ⟨lw_p43, List.forall_mem_cons.mpr ⟨lw_p44, List.forall_mem_cons.mpr ⟨lw_p45, List.forall_mem_cons.mpr ⟨lw_p46, List.forall_mem_cons.mpr ⟨lw_p47, fun _ h => absurd h List.not_mem_nil⟩⟩⟩⟩⟩⟩⟩⟩⟩⟩⟩⟩⟩⟩⟩⟩
theorem lw_p48 : lw_okq (⟨"StrawGarrisonModel", "downs", "()I"⟩, 31) := ⟨⟨by decide +kernel, by decide +kernel⟩, List.mem_of_getElem? (i := 833) (by decide +kernel), List.mem_of_getElem? (i := 1119) (by decide +kernel), List.mem_of_getElem? (i := 1120) (by decide +kernel)⟩
theorem lw_p49 : lw_okq (⟨"StrawGarrisonModel", "doubts", "()I"⟩, 31) := ⟨⟨by decide +kernel, by decide +kernel⟩, List.mem_of_getElem? (i := 833) (by decide +kernel), List.mem_of_getElem? (i := 1123) (by decide +kernel), List.mem_of_getElem? (i := 1124) (by decide +kernel)⟩
theorem lw_p50 : lw_okq (⟨"StrawGarrisonModel", "reached", "(II)I"⟩, 31) := ⟨⟨by decide +kernel, by decide +kernel⟩, List.mem_of_getElem? (i := 833) (by decide +kernel), List.mem_of_getElem? (i := 1131) (by decide +kernel), List.mem_of_getElem? (i := 1132) (by decide +kernel)⟩
theorem lw_p51 : lw_okq (⟨"StrawGarrisonModel", "laysBy", "()V"⟩, 31) := ⟨⟨by decide +kernel, by decide +kernel⟩, List.mem_of_getElem? (i := 833) (by decide +kernel), List.mem_of_getElem? (i := 1143) (by decide +kernel), List.mem_of_getElem? (i := 1144) (by decide +kernel)⟩
theorem lw_p52 : lw_okq (⟨"StrawGarrisonModel", "laysBack", "()V"⟩, 31) := ⟨⟨by decide +kernel, by decide +kernel⟩, List.mem_of_getElem? (i := 833) (by decide +kernel), List.mem_of_getElem? (i := 1147) (by decide +kernel), List.mem_of_getElem? (i := 1148) (by decide +kernel)⟩
theorem lw_p53 : lw_okq (⟨"StrawGarrisonModel", "parse", "()I"⟩, 31) := ⟨⟨by decide +kernel, by decide +kernel⟩, List.mem_of_getElem? (i := 833) (by decide +kernel), List.mem_of_getElem? (i := 1191) (by decide +kernel), List.mem_of_getElem? (i := 1192) (by decide +kernel)⟩
theorem lw_p54 : lw_okq (⟨"StrawGarrisonModel", "nextToken", "()V"⟩, 31) := ⟨⟨by decide +kernel, by decide +kernel⟩, List.mem_of_getElem? (i := 833) (by decide +kernel), List.mem_of_getElem? (i := 1195) (by decide +kernel), List.mem_of_getElem? (i := 1196) (by decide +kernel)⟩
theorem lw_p55 : lw_okq (⟨"StrawGarrisonModel", "isLetter", "(I)Z"⟩, 31) := ⟨⟨by decide +kernel, by decide +kernel⟩, List.mem_of_getElem? (i := 833) (by decide +kernel), List.mem_of_getElem? (i := 1199) (by decide +kernel), List.mem_of_getElem? (i := 1200) (by decide +kernel)⟩
theorem lw_p56 : lw_okq (⟨"StrawGarrisonModel", "isDigit", "(I)Z"⟩, 31) := ⟨⟨by decide +kernel, by decide +kernel⟩, List.mem_of_getElem? (i := 833) (by decide +kernel), List.mem_of_getElem? (i := 1205) (by decide +kernel), List.mem_of_getElem? (i := 1206) (by decide +kernel)⟩
theorem lw_p57 : lw_okq (⟨"StrawGarrisonModel", "key", "()I"⟩, 31) := ⟨⟨by decide +kernel, by decide +kernel⟩, List.mem_of_getElem? (i := 833) (by decide +kernel), List.mem_of_getElem? (i := 1211) (by decide +kernel), List.mem_of_getElem? (i := 1212) (by decide +kernel)⟩
theorem lw_p58 : lw_okq (⟨"StrawGarrisonModel", "isWordAt", "(IIII)Z"⟩, 31) := ⟨⟨by decide +kernel, by decide +kernel⟩, List.mem_of_getElem? (i := 833) (by decide +kernel), List.mem_of_getElem? (i := 1215) (by decide +kernel), List.mem_of_getElem? (i := 1216) (by decide +kernel)⟩
theorem lw_p59 : lw_okq (⟨"StrawGarrisonModel", "either", "(I)Z"⟩, 31) := ⟨⟨by decide +kernel, by decide +kernel⟩, List.mem_of_getElem? (i := 833) (by decide +kernel), List.mem_of_getElem? (i := 1219) (by decide +kernel), List.mem_of_getElem? (i := 1220) (by decide +kernel)⟩
theorem lw_p60 : lw_okq (⟨"StrawGarrisonModel", "both", "(I)Z"⟩, 31) := ⟨⟨by decide +kernel, by decide +kernel⟩, List.mem_of_getElem? (i := 833) (by decide +kernel), List.mem_of_getElem? (i := 1223) (by decide +kernel), List.mem_of_getElem? (i := 1224) (by decide +kernel)⟩
theorem lw_p61 : lw_okq (⟨"StrawGarrisonModel", "test", "(I)Z"⟩, 31) := ⟨⟨by decide +kernel, by decide +kernel⟩, List.mem_of_getElem? (i := 833) (by decide +kernel), List.mem_of_getElem? (i := 1227) (by decide +kernel), List.mem_of_getElem? (i := 1228) (by decide +kernel)⟩
theorem lw_p62 : lw_okq (⟨"StrawGarrisonModel", "sum", "(I)Z"⟩, 31) := ⟨⟨by decide +kernel, by decide +kernel⟩, List.mem_of_getElem? (i := 833) (by decide +kernel), List.mem_of_getElem? (i := 1231) (by decide +kernel), List.mem_of_getElem? (i := 1232) (by decide +kernel)⟩
theorem lw_p63 : lw_okq (⟨"StrawGarrisonModel", "term", "(I)Z"⟩, 31) := ⟨⟨by decide +kernel, by decide +kernel⟩, List.mem_of_getElem? (i := 833) (by decide +kernel), List.mem_of_getElem? (i := 1235) (by decide +kernel), List.mem_of_getElem? (i := 1236) (by decide +kernel)⟩
def lw_privs_4 : List (MethodName × Nat) := [(⟨"StrawGarrisonModel", "downs", "()I"⟩, 31), (⟨"StrawGarrisonModel", "doubts", "()I"⟩, 31), (⟨"StrawGarrisonModel", "reached", "(II)I"⟩, 31), (⟨"StrawGarrisonModel", "laysBy", "()V"⟩, 31), (⟨"StrawGarrisonModel", "laysBack", "()V"⟩, 31), (⟨"StrawGarrisonModel", "parse", "()I"⟩, 31), (⟨"StrawGarrisonModel", "nextToken", "()V"⟩, 31), (⟨"StrawGarrisonModel", "isLetter", "(I)Z"⟩, 31), (⟨"StrawGarrisonModel", "isDigit", "(I)Z"⟩, 31), (⟨"StrawGarrisonModel", "key", "()I"⟩, 31), (⟨"StrawGarrisonModel", "isWordAt", "(IIII)Z"⟩, 31), (⟨"StrawGarrisonModel", "either", "(I)Z"⟩, 31), (⟨"StrawGarrisonModel", "both", "(I)Z"⟩, 31), (⟨"StrawGarrisonModel", "test", "(I)Z"⟩, 31), (⟨"StrawGarrisonModel", "sum", "(I)Z"⟩, 31), (⟨"StrawGarrisonModel", "term", "(I)Z"⟩, 31)]
theorem lw_r4 : ∀ q ∈ lw_privs_4, lw_okq q := List.forall_mem_cons.mpr ⟨lw_p48, List.forall_mem_cons.mpr ⟨lw_p49, List.forall_mem_cons.mpr ⟨lw_p50, List.forall_mem_cons.mpr ⟨lw_p51, List.forall_mem_cons.mpr ⟨lw_p52, List.forall_mem_cons.mpr ⟨lw_p53, List.forall_mem_cons.mpr ⟨lw_p54, List.forall_mem_cons.mpr ⟨lw_p55, List.forall_mem_cons.mpr ⟨lw_p56, List.forall_mem_cons.mpr ⟨lw_p57, List.forall_mem_cons.mpr ⟨lw_p58, List.forall_mem_cons.mpr ⟨lw_p59, List.forall_mem_cons.mpr ⟨lw_p60, List.forall_mem_cons.mpr ⟨lw_p61, List.forall_mem_cons.mpr ⟨lw_p62, List.forall_mem_cons.mpr ⟨lw_p63, fun _ h => absurd h List.not_mem_nil⟩⟩⟩⟩⟩⟩⟩⟩⟩⟩⟩⟩⟩⟩⟩⟩
theorem lw_p64 : lw_okq (⟨"StrawGarrisonModel", "part0", "(I)Z"⟩, 31) := ⟨⟨by decide +kernel, by decide +kernel⟩, List.mem_of_getElem? (i := 833) (by decide +kernel), List.mem_of_getElem? (i := 1239) (by decide +kernel), List.mem_of_getElem? (i := 1240) (by decide +kernel)⟩
theorem lw_p65 : lw_okq (⟨"StrawGarrisonModel", "step", "(II)V"⟩, 31) := ⟨⟨by decide +kernel, by decide +kernel⟩, List.mem_of_getElem? (i := 833) (by decide +kernel), List.mem_of_getElem? (i := 1243) (by decide +kernel), List.mem_of_getElem? (i := 1244) (by decide +kernel)⟩
theorem lw_p66 : lw_okq (⟨"StrawGarrisonModel", "isSign", "(I)Z"⟩, 31) := ⟨⟨by decide +kernel, by decide +kernel⟩, List.mem_of_getElem? (i := 833) (by decide +kernel), List.mem_of_getElem? (i := 1250) (by decide +kernel), List.mem_of_getElem? (i := 1251) (by decide +kernel)⟩
theorem lw_p67 : lw_okq (⟨"StrawGarrisonModel", "isText", "(I)Z"⟩, 31) := ⟨⟨by decide +kernel, by decide +kernel⟩, List.mem_of_getElem? (i := 833) (by decide +kernel), List.mem_of_getElem? (i := 1258) (by decide +kernel), List.mem_of_getElem? (i := 1259) (by decide +kernel)⟩
theorem lw_p68 : lw_okq (⟨"StrawGarrisonModel", "offBy", "(II)I"⟩, 31) := ⟨⟨by decide +kernel, by decide +kernel⟩, List.mem_of_getElem? (i := 833) (by decide +kernel), List.mem_of_getElem? (i := 1295) (by decide +kernel), List.mem_of_getElem? (i := 1296) (by decide +kernel)⟩
theorem lw_p69 : lw_okq (⟨"StrawGarrisonModel", "setAside", "([I[I)V"⟩, 31) := ⟨⟨by decide +kernel, by decide +kernel⟩, List.mem_of_getElem? (i := 833) (by decide +kernel), List.mem_of_getElem? (i := 1331) (by decide +kernel), List.mem_of_getElem? (i := 1332) (by decide +kernel)⟩
def lw_privs_5 : List (MethodName × Nat) := [(⟨"StrawGarrisonModel", "part0", "(I)Z"⟩, 31), (⟨"StrawGarrisonModel", "step", "(II)V"⟩, 31), (⟨"StrawGarrisonModel", "isSign", "(I)Z"⟩, 31), (⟨"StrawGarrisonModel", "isText", "(I)Z"⟩, 31), (⟨"StrawGarrisonModel", "offBy", "(II)I"⟩, 31), (⟨"StrawGarrisonModel", "setAside", "([I[I)V"⟩, 31)]
theorem lw_r5 : ∀ q ∈ lw_privs_5, lw_okq q := List.forall_mem_cons.mpr ⟨lw_p64, List.forall_mem_cons.mpr ⟨lw_p65, List.forall_mem_cons.mpr ⟨lw_p66, List.forall_mem_cons.mpr ⟨lw_p67, List.forall_mem_cons.mpr ⟨lw_p68, List.forall_mem_cons.mpr ⟨lw_p69, fun _ h => absurd h List.not_mem_nil⟩⟩⟩⟩⟩⟩
def lw_privs : List (MethodName × Nat) := lw_privs_1 ++ (lw_privs_2 ++ (lw_privs_3 ++ (lw_privs_4 ++ (lw_privs_5))))
def lw_tbl : List Cond := k2_sels lw_privs ++ tables_1
theorem lw_privs_ok : ∀ q ∈ lw_privs, lw_okq q := by
  show ∀ q ∈ lw_privs_1 ++ (lw_privs_2 ++ (lw_privs_3 ++ (lw_privs_4 ++ (lw_privs_5)))), lw_okq q
  exact List.forall_mem_append.mpr ⟨lw_r1, List.forall_mem_append.mpr ⟨lw_r2, List.forall_mem_append.mpr ⟨lw_r3, List.forall_mem_append.mpr ⟨lw_r4, lw_r5⟩⟩⟩⟩
def RX0 : String := "StrawGarrison$Book"
def TX0 : u_T := fun k => match k with
  | 0 => ("StrawGarrison$Book", "rows", "[LStrawGarrison$Text;", true)
  | 1 => ("StrawGarrison$Book", "texts", "I", false)
  | _ => ("StrawGarrison$Book", "counting", "[I", true)
def tyX0 : Nat → FieldType := fun k => match k with
  | 0 => .array (.object "StrawGarrison$Text")
  | 1 => .int
  | _ => .array .int
theorem nmX0 : ∀ a, a < 3 → ∀ b, b < 3 → a ≠ b → (TX0 a).2.1 ≠ (TX0 b).2.1 := by decide +kernel
theorem tyX0_ok : ∀ k, k < 3 → parseFieldDescriptor (TX0 k).2.2.1 = some (tyX0 k) := by decide +kernel
abbrev cX0_init : ByteArray := prog_2_method_1_code
def yX0_init : MethodName := ⟨RX0, "<init>", "()V"⟩
abbrev cX0_become : ByteArray := prog_2_method_2_code
def yX0_become : MethodName := ⟨RX0, "become", "(LStrawGarrison$Book;)V"⟩
abbrev cX0_take : ByteArray := prog_2_method_3_code
def yX0_take : MethodName := ⟨RX0, "take", "(LStrawGarrison$Reader;)I"⟩
abbrev cX0_rowOf : ByteArray := prog_2_method_4_code
def yX0_rowOf : MethodName := ⟨RX0, "rowOf", "(I)LStrawGarrison$Text;"⟩
abbrev cX0_textFor : ByteArray := prog_2_method_5_code
def yX0_textFor : MethodName := ⟨RX0, "textFor", "(I)LStrawGarrison$Text;"⟩
def RX1 : String := "StrawGarrison$Border"
def TX1 : u_T := fun k => match k with
  | 0 => ("StrawGarrison$Border", "book", "LStrawGarrison$Book;", true)
  | 1 => ("StrawGarrison$Border", "guards", "I", false)
  | 2 => ("StrawGarrison$Border", "kind", "[I", true)
  | 3 => ("StrawGarrison$Border", "post", "[I", true)
  | 4 => ("StrawGarrison$Border", "wear", "[I", true)
  | 5 => ("StrawGarrison$Border", "doubt", "[I", true)
  | 6 => ("StrawGarrison$Border", "up", "[I", true)
  | 7 => ("StrawGarrison$Border", "rules", "[I", true)
  | 8 => ("StrawGarrison$Border", "tolls", "[I", true)
  | 9 => ("StrawGarrison$Border", "night", "I", false)
  | _ => ("StrawGarrison$Border", "z", "I", false)
def tyX1 : Nat → FieldType := fun k => match k with
  | 0 => .object "StrawGarrison$Book"
  | 1 => .int
  | 2 => .array .int
  | 3 => .array .int
  | 4 => .array .int
  | 5 => .array .int
  | 6 => .array .int
  | 7 => .array .int
  | 8 => .array .int
  | 9 => .int
  | _ => .int
theorem nmX1 : ∀ a, a < 11 → ∀ b, b < 11 → a ≠ b → (TX1 a).2.1 ≠ (TX1 b).2.1 := by decide +kernel
theorem tyX1_ok : ∀ k, k < 11 → parseFieldDescriptor (TX1 k).2.2.1 = some (tyX1 k) := by decide +kernel
abbrev cX1_init : ByteArray := prog_3_method_1_code
def yX1_init : MethodName := ⟨RX1, "<init>", "()V"⟩
abbrev cX1_become : ByteArray := prog_3_method_2_code
def yX1_become : MethodName := ⟨RX1, "become", "(LStrawGarrison$Border;)V"⟩
abbrev cX1_enlist : ByteArray := prog_3_method_3_code
def yX1_enlist : MethodName := ⟨RX1, "enlist", "(III)I"⟩
abbrev cX1_enlistDrawn : ByteArray := prog_3_method_4_code
def yX1_enlistDrawn : MethodName := ⟨RX1, "enlistDrawn", "()V"⟩
abbrev cX1_draw : ByteArray := prog_3_method_5_code
def yX1_draw : MethodName := ⟨RX1, "draw", "()I"⟩
abbrev cX1_ownerOf : ByteArray := prog_3_method_6_code
def yX1_ownerOf : MethodName := ⟨RX1, "ownerOf", "(I)I"⟩
abbrev cX1_isInSight : ByteArray := prog_3_method_7_code
def yX1_isInSight : MethodName := ⟨RX1, "isInSight", "(II)Z"⟩
abbrev cX1_isNear : ByteArray := prog_3_method_8_code
def yX1_isNear : MethodName := ⟨RX1, "isNear", "(II)Z"⟩
abbrev cX1_looksOf : ByteArray := prog_3_method_9_code
def yX1_looksOf : MethodName := ⟨RX1, "looksOf", "(I)I"⟩
abbrev cX1_counted : ByteArray := prog_3_method_10_code
def yX1_counted : MethodName := ⟨RX1, "counted", "()I"⟩
abbrev cX1_strength : ByteArray := prog_3_method_11_code
def yX1_strength : MethodName := ⟨RX1, "strength", "()I"⟩
abbrev cX1_downBits : ByteArray := prog_3_method_12_code
def yX1_downBits : MethodName := ⟨RX1, "downBits", "()I"⟩
abbrev cX1_doubts : ByteArray := prog_3_method_13_code
def yX1_doubts : MethodName := ⟨RX1, "doubts", "()I"⟩
abbrev cX1_othersNear : ByteArray := prog_3_method_14_code
def yX1_othersNear : MethodName := ⟨RX1, "othersNear", "(II)I"⟩
abbrev cX1_passNight : ByteArray := prog_3_method_15_code
def yX1_passNight : MethodName := ⟨RX1, "passNight", "()Z"⟩
abbrev cX1_blow : ByteArray := prog_3_method_16_code
def yX1_blow : MethodName := ⟨RX1, "blow", "(I)V"⟩
abbrev cX1_setUp : ByteArray := prog_3_method_17_code
def yX1_setUp : MethodName := ⟨RX1, "setUp", "()V"⟩
abbrev cX1_setUpFirstNear : ByteArray := prog_3_method_18_code
def yX1_setUpFirstNear : MethodName := ⟨RX1, "setUpFirstNear", "(I)V"⟩
abbrev cX1_watch : ByteArray := prog_3_method_19_code
def yX1_watch : MethodName := ⟨RX1, "watch", "(I)V"⟩
abbrev cX1_wet : ByteArray := prog_3_method_20_code
def yX1_wet : MethodName := ⟨RX1, "wet", "()V"⟩
def RX2 : String := "StrawGarrison$Kinds"
def TX2 : u_T := fun k => match k with
  | _ => ("", "", "", false)
def tyX2 : Nat → FieldType := fun k => match k with
  | _ => .int
theorem nmX2 : ∀ a, a < 0 → ∀ b, b < 0 → a ≠ b → (TX2 a).2.1 ≠ (TX2 b).2.1 := by decide +kernel
theorem tyX2_ok : ∀ k, k < 0 → parseFieldDescriptor (TX2 k).2.2.1 = some (tyX2 k) := by decide +kernel
abbrev cX2_isUnder : ByteArray := prog_4_method_2_code
def yX2_isUnder : MethodName := ⟨RX2, "isUnder", "(II)Z"⟩
abbrev cX2_lives : ByteArray := prog_4_method_3_code
def yX2_lives : MethodName := ⟨RX2, "lives", "(I)Z"⟩
abbrev cX2_looks : ByteArray := prog_4_method_4_code
def yX2_looks : MethodName := ⟨RX2, "looks", "(III)I"⟩
abbrev cX2_falls : ByteArray := prog_4_method_5_code
def yX2_falls : MethodName := ⟨RX2, "falls", "(II)I"⟩
abbrev cX2_fights : ByteArray := prog_4_method_6_code
def yX2_fights : MethodName := ⟨RX2, "fights", "(I)I"⟩
abbrev cX2_worth : ByteArray := prog_4_method_7_code
def yX2_worth : MethodName := ⟨RX2, "worth", "(II)I"⟩
def RX3 : String := "StrawGarrison$Reader"
def TX3 : u_T := fun k => match k with
  | 0 => ("StrawGarrison$Reader", "key", "I", false)
  | 1 => ("StrawGarrison$Reader", "pieces", "I", false)
  | 2 => ("StrawGarrison$Reader", "code", "[I", true)
  | 3 => ("StrawGarrison$Reader", "length", "I", false)
  | 4 => ("StrawGarrison$Reader", "stack", "[I", true)
  | 5 => ("StrawGarrison$Reader", "height", "I", false)
  | 6 => ("StrawGarrison$Reader", "brackets", "I", false)
  | 7 => ("StrawGarrison$Reader", "bangs", "I", false)
  | 8 => ("StrawGarrison$Reader", "pieceDue", "Z", false)
  | _ => ("StrawGarrison$Reader", "compared", "[Z", true)
def tyX3 : Nat → FieldType := fun k => match k with
  | 0 => .int
  | 1 => .int
  | 2 => .array .int
  | 3 => .int
  | 4 => .array .int
  | 5 => .int
  | 6 => .int
  | 7 => .int
  | 8 => .boolean
  | _ => .array .boolean
theorem nmX3 : ∀ a, a < 10 → ∀ b, b < 10 → a ≠ b → (TX3 a).2.1 ≠ (TX3 b).2.1 := by decide +kernel
theorem tyX3_ok : ∀ k, k < 10 → parseFieldDescriptor (TX3 k).2.2.1 = some (tyX3 k) := by decide +kernel
abbrev cX3_init : ByteArray := prog_5_method_1_code
def yX3_init : MethodName := ⟨RX3, "<init>", "()V"⟩
abbrev cX3_read : ByteArray := prog_5_method_2_code
def yX3_read : MethodName := ⟨RX3, "read", "([BI)I"⟩
abbrev cX3_start : ByteArray := prog_5_method_3_code
def yX3_start : MethodName := ⟨RX3, "start", "()V"⟩
abbrev cX3_sortOf : ByteArray := prog_5_method_4_code
def yX3_sortOf : MethodName := ⟨RX3, "sortOf", "(B)I"⟩
abbrev cX3_placeBehindBlanks : ByteArray := prog_5_method_5_code
def yX3_placeBehindBlanks : MethodName := ⟨RX3, "placeBehindBlanks", "([BII)I"⟩
abbrev cX3_endOf : ByteArray := prog_5_method_6_code
def yX3_endOf : MethodName := ⟨RX3, "endOf", "([BII)I"⟩
abbrev cX3_keyOf : ByteArray := prog_5_method_7_code
def yX3_keyOf : MethodName := ⟨RX3, "keyOf", "([BII)I"⟩
abbrev cX3_isWord : ByteArray := prog_5_method_8_code
def yX3_isWord : MethodName := ⟨RX3, "isWord", "([BIILjava/lang/String;)Z"⟩
abbrev cX3_goesOnWith : ByteArray := prog_5_method_9_code
def yX3_goesOnWith : MethodName := ⟨RX3, "goesOnWith", "([BII)Z"⟩
abbrev cX3_takesNumber : ByteArray := prog_5_method_10_code
def yX3_takesNumber : MethodName := ⟨RX3, "takesNumber", "([BII)Z"⟩
abbrev cX3_takesName : ByteArray := prog_5_method_11_code
def yX3_takesName : MethodName := ⟨RX3, "takesName", "(I)Z"⟩
abbrev cX3_takePiece : ByteArray := prog_5_method_12_code
def yX3_takePiece : MethodName := ⟨RX3, "takePiece", "(I)V"⟩
abbrev cX3_opens : ByteArray := prog_5_method_13_code
def yX3_opens : MethodName := ⟨RX3, "opens", "(I)Z"⟩
abbrev cX3_closes : ByteArray := prog_5_method_14_code
def yX3_closes : MethodName := ⟨RX3, "closes", "()Z"⟩
abbrev cX3_endPiece : ByteArray := prog_5_method_15_code
def yX3_endPiece : MethodName := ⟨RX3, "endPiece", "()V"⟩
abbrev cX3_joins : ByteArray := prog_5_method_16_code
def yX3_joins : MethodName := ⟨RX3, "joins", "(I)Z"⟩
abbrev cX3_tightnessOf : ByteArray := prog_5_method_17_code
def yX3_tightnessOf : MethodName := ⟨RX3, "tightnessOf", "(I)I"⟩
abbrev cX3_putDownFrom : ByteArray := prog_5_method_18_code
def yX3_putDownFrom : MethodName := ⟨RX3, "putDownFrom", "(I)V"⟩
abbrev cX3_putDown : ByteArray := prog_5_method_19_code
def yX3_putDown : MethodName := ⟨RX3, "putDown", "(I)V"⟩
abbrev cX3_push : ByteArray := prog_5_method_20_code
def yX3_push : MethodName := ⟨RX3, "push", "(I)V"⟩
def RX4 : String := "StrawGarrison$Sheet"
def TX4 : u_T := fun k => match k with
  | 0 => ("StrawGarrison$Sheet", "sort", "I", false)
  | 1 => ("StrawGarrison$Sheet", "places", "I", false)
  | _ => ("StrawGarrison$Sheet", "numbers", "[I", true)
def tyX4 : Nat → FieldType := fun k => match k with
  | 0 => .int
  | 1 => .int
  | _ => .array .int
theorem nmX4 : ∀ a, a < 3 → ∀ b, b < 3 → a ≠ b → (TX4 a).2.1 ≠ (TX4 b).2.1 := by decide +kernel
theorem tyX4_ok : ∀ k, k < 3 → parseFieldDescriptor (TX4 k).2.2.1 = some (tyX4 k) := by decide +kernel
abbrev cX4_init : ByteArray := prog_6_method_1_code
def yX4_init : MethodName := ⟨RX4, "<init>", "()V"⟩
abbrev cX4_start : ByteArray := prog_6_method_2_code
def yX4_start : MethodName := ⟨RX4, "start", "(II)V"⟩
abbrev cX4_become : ByteArray := prog_6_method_3_code
def yX4_become : MethodName := ⟨RX4, "become", "(LStrawGarrison$Sheet;)V"⟩
abbrev cX4_isNumber : ByteArray := prog_6_method_4_code
def yX4_isNumber : MethodName := ⟨RX4, "isNumber", "(I)Z"⟩
abbrev cX4_hasPlaces : ByteArray := prog_6_method_5_code
def yX4_hasPlaces : MethodName := ⟨RX4, "hasPlaces", "(II)Z"⟩
def RX5 : String := "StrawGarrison$Slot"
def TX5 : u_T := fun k => match k with
  | 0 => ("StrawGarrison$Slot", "thing", "I", false)
  | 1 => ("StrawGarrison$Slot", "kind", "I", false)
  | 2 => ("StrawGarrison$Slot", "wear", "I", false)
  | 3 => ("StrawGarrison$Slot", "number", "I", false)
  | _ => ("StrawGarrison$Slot", "row", "LStrawGarrison$Sheet;", true)
def tyX5 : Nat → FieldType := fun k => match k with
  | 0 => .int
  | 1 => .int
  | 2 => .int
  | 3 => .int
  | _ => .object "StrawGarrison$Sheet"
theorem nmX5 : ∀ a, a < 5 → ∀ b, b < 5 → a ≠ b → (TX5 a).2.1 ≠ (TX5 b).2.1 := by decide +kernel
theorem tyX5_ok : ∀ k, k < 5 → parseFieldDescriptor (TX5 k).2.2.1 = some (tyX5 k) := by decide +kernel
abbrev cX5_init : ByteArray := prog_7_method_1_code
def yX5_init : MethodName := ⟨RX5, "<init>", "()V"⟩
def RX6 : String := "StrawGarrison$Text"
def TX6 : u_T := fun k => match k with
  | 0 => ("StrawGarrison$Text", "key", "I", true)
  | 1 => ("StrawGarrison$Text", "pieces", "I", true)
  | 2 => ("StrawGarrison$Text", "code", "[I", true)
  | _ => ("StrawGarrison$Text", "stack", "[I", true)
def tyX6 : Nat → FieldType := fun k => match k with
  | 0 => .int
  | 1 => .int
  | 2 => .array .int
  | _ => .array .int
theorem nmX6 : ∀ a, a < 4 → ∀ b, b < 4 → a ≠ b → (TX6 a).2.1 ≠ (TX6 b).2.1 := by decide +kernel
theorem tyX6_ok : ∀ k, k < 4 → parseFieldDescriptor (TX6 k).2.2.1 = some (tyX6 k) := by decide +kernel
abbrev cX6_init : ByteArray := prog_8_method_1_code
def yX6_init : MethodName := ⟨RX6, "<init>", "(LStrawGarrison$Reader;)V"⟩
abbrev cX6_valueOf : ByteArray := prog_8_method_2_code
def yX6_valueOf : MethodName := ⟨RX6, "valueOf", "(III)I"⟩
abbrev cX6_workedOut : ByteArray := prog_8_method_3_code
def yX6_workedOut : MethodName := ⟨RX6, "workedOut", "(III)I"⟩
def RX7 : String := "StrawGarrison"
def TX7 : u_T := fun k => match k with
  | 0 => ("StrawGarrison", "differences", "[I", true)
  | 1 => ("StrawGarrison", "now", "LStrawGarrison$Border;", true)
  | 2 => ("StrawGarrison", "image", "LStrawGarrison$Border;", true)
  | 3 => ("StrawGarrison", "thought", "LStrawGarrison$Border;", true)
  | 4 => ("StrawGarrison", "imageKept", "Z", false)
  | 5 => ("StrawGarrison", "reader", "LStrawGarrison$Reader;", true)
  | 6 => ("StrawGarrison", "tape", "[B", true)
  | 7 => ("StrawGarrison", "taped", "I", false)
  | 8 => ("StrawGarrison", "sheets", "[LStrawGarrison$Sheet;", true)
  | 9 => ("StrawGarrison", "slots", "[LStrawGarrison$Slot;", true)
  | 10 => ("StrawGarrison", "waiting", "[I", true)
  | _ => ("StrawGarrison", "waits", "I", false)
def tyX7 : Nat → FieldType := fun k => match k with
  | 0 => .array .int
  | 1 => .object "StrawGarrison$Border"
  | 2 => .object "StrawGarrison$Border"
  | 3 => .object "StrawGarrison$Border"
  | 4 => .boolean
  | 5 => .object "StrawGarrison$Reader"
  | 6 => .array .byte
  | 7 => .int
  | 8 => .array (.object "StrawGarrison$Sheet")
  | 9 => .array (.object "StrawGarrison$Slot")
  | 10 => .array .int
  | _ => .int
theorem nmX7 : ∀ a, a < 12 → ∀ b, b < 12 → a ≠ b → (TX7 a).2.1 ≠ (TX7 b).2.1 := by decide +kernel
theorem tyX7_ok : ∀ k, k < 12 → parseFieldDescriptor (TX7 k).2.2.1 = some (tyX7 k) := by decide +kernel
abbrev cX7_init : ByteArray := prog_1_method_1_code
def yX7_init : MethodName := ⟨RX7, "<init>", "()V"⟩
abbrev cX7_guard : ByteArray := prog_1_method_2_code
def yX7_guard : MethodName := ⟨RX7, "guard", "(III)I"⟩
abbrev cX7_told : ByteArray := prog_1_method_3_code
def yX7_told : MethodName := ⟨RX7, "told", "(II)I"⟩
abbrev cX7_as : ByteArray := prog_1_method_4_code
def yX7_as : MethodName := ⟨RX7, "as", "(II)I"⟩
abbrev cX7_turns : ByteArray := prog_1_method_5_code
def yX7_turns : MethodName := ⟨RX7, "turns", "(II)I"⟩
abbrev cX7_set : ByteArray := prog_1_method_6_code
def yX7_set : MethodName := ⟨RX7, "set", "(III)I"⟩
abbrev cX7_moves : ByteArray := prog_1_method_7_code
def yX7_moves : MethodName := ⟨RX7, "moves", "(II)I"⟩
abbrev cX7_at : ByteArray := prog_1_method_8_code
def yX7_at : MethodName := ⟨RX7, "at", "(I)I"⟩
abbrev cX7_rule : ByteArray := prog_1_method_9_code
def yX7_rule : MethodName := ⟨RX7, "rule", "(II)I"⟩
abbrev cX7_deal : ByteArray := prog_1_method_10_code
def yX7_deal : MethodName := ⟨RX7, "deal", "(I)I"⟩
abbrev cX7_seed : ByteArray := prog_1_method_11_code
def yX7_seed : MethodName := ⟨RX7, "seed", "(I)I"⟩
abbrev cX7_seen : ByteArray := prog_1_method_12_code
def yX7_seen : MethodName := ⟨RX7, "seen", "(I)I"⟩
abbrev cX7_nights : ByteArray := prog_1_method_13_code
def yX7_nights : MethodName := ⟨RX7, "nights", "(I)I"⟩
abbrev cX7_border : ByteArray := prog_1_method_14_code
def yX7_border : MethodName := ⟨RX7, "border", "(I)I"⟩
abbrev cX7_covers : ByteArray := prog_1_method_15_code
def yX7_covers : MethodName := ⟨RX7, "covers", "(II)I"⟩
abbrev cX7_fewest : ByteArray := prog_1_method_16_code
def yX7_fewest : MethodName := ⟨RX7, "fewest", "()I"⟩
abbrev cX7_behind : ByteArray := prog_1_method_17_code
def yX7_behind : MethodName := ⟨RX7, "behind", "(II)I"⟩
abbrev cX7_bluff : ByteArray := prog_1_method_18_code
def yX7_bluff : MethodName := ⟨RX7, "bluff", "()I"⟩
abbrev cX7_washed : ByteArray := prog_1_method_19_code
def yX7_washed : MethodName := ⟨RX7, "washed", "(II)I"⟩
abbrev cX7_needed : ByteArray := prog_1_method_20_code
def yX7_needed : MethodName := ⟨RX7, "needed", "(I)I"⟩
abbrev cX7_becomes : ByteArray := prog_1_method_21_code
def yX7_becomes : MethodName := ⟨RX7, "becomes", "(III)I"⟩
abbrev cX7_like : ByteArray := prog_1_method_22_code
def yX7_like : MethodName := ⟨RX7, "like", "(II)I"⟩
abbrev cX7_fee : ByteArray := prog_1_method_23_code
def yX7_fee : MethodName := ⟨RX7, "fee", "()I"⟩
abbrev cX7_fine : ByteArray := prog_1_method_24_code
def yX7_fine : MethodName := ⟨RX7, "fine", "(I)I"⟩
abbrev cX7_feed : ByteArray := prog_1_method_25_code
def yX7_feed : MethodName := ⟨RX7, "feed", "(III)I"⟩
abbrev cX7_trim : ByteArray := prog_1_method_26_code
def yX7_trim : MethodName := ⟨RX7, "trim", "(I)I"⟩
abbrev cX7_text : ByteArray := prog_1_method_27_code
def yX7_text : MethodName := ⟨RX7, "text", "()I"⟩
abbrev cX7_textTold : ByteArray := prog_1_method_28_code
def yX7_textTold : MethodName := ⟨RX7, "textTold", "(II)I"⟩
abbrev cX7_why : ByteArray := prog_1_method_29_code
def yX7_why : MethodName := ⟨RX7, "why", "(I)I"⟩
abbrev cX7_sheet : ByteArray := prog_1_method_30_code
def yX7_sheet : MethodName := ⟨RX7, "sheet", "(III)I"⟩
abbrev cX7_mark : ByteArray := prog_1_method_31_code
def yX7_mark : MethodName := ⟨RX7, "mark", "(III)I"⟩
abbrev cX7_pour : ByteArray := prog_1_method_32_code
def yX7_pour : MethodName := ⟨RX7, "pour", "(I)I"⟩
abbrev cX7_reads : ByteArray := prog_1_method_33_code
def yX7_reads : MethodName := ⟨RX7, "reads", "(I)I"⟩
abbrev cX7_copy : ByteArray := prog_1_method_34_code
def yX7_copy : MethodName := ⟨RX7, "copy", "(IIIII)I"⟩
abbrev cX7_lay : ByteArray := prog_1_method_35_code
def yX7_lay : MethodName := ⟨RX7, "lay", "(III)I"⟩
abbrev cX7_ask : ByteArray := prog_1_method_36_code
def yX7_ask : MethodName := ⟨RX7, "ask", "(II)I"⟩
abbrev cX7_item : ByteArray := prog_1_method_37_code
def yX7_item : MethodName := ⟨RX7, "item", "(II)I"⟩
abbrev cX7_rest : ByteArray := prog_1_method_38_code
def yX7_rest : MethodName := ⟨RX7, "rest", "(II)I"⟩
abbrev cX7_tell : ByteArray := prog_1_method_39_code
def yX7_tell : MethodName := ⟨RX7, "tell", "(I)I"⟩
abbrev cX7_check : ByteArray := prog_1_method_40_code
def yX7_check : MethodName := ⟨RX7, "check", "(I)I"⟩
abbrev cX7_keep : ByteArray := prog_1_method_41_code
def yX7_keep : MethodName := ⟨RX7, "keep", "()I"⟩
abbrev cX7_back : ByteArray := prog_1_method_42_code
def yX7_back : MethodName := ⟨RX7, "back", "()I"⟩
abbrev cX7_count : ByteArray := prog_1_method_43_code
def yX7_count : MethodName := ⟨RX7, "count", "(I)I"⟩
abbrev cX7_isGuard : ByteArray := prog_1_method_44_code
def yX7_isGuard : MethodName := ⟨RX7, "isGuard", "(I)Z"⟩
abbrev cX7_isKind : ByteArray := prog_1_method_45_code
def yX7_isKind : MethodName := ⟨RX7, "isKind", "(I)Z"⟩
abbrev cX7_isPost : ByteArray := prog_1_method_46_code
def yX7_isPost : MethodName := ⟨RX7, "isPost", "(I)Z"⟩
abbrev cX7_isSheet : ByteArray := prog_1_method_47_code
def yX7_isSheet : MethodName := ⟨RX7, "isSheet", "(I)Z"⟩
abbrev cX7_isSlot : ByteArray := prog_1_method_48_code
def yX7_isSlot : MethodName := ⟨RX7, "isSlot", "(I)Z"⟩
abbrev cX7_isWithin : ByteArray := prog_1_method_49_code
def yX7_isWithin : MethodName := ⟨RX7, "isWithin", "(III)Z"⟩
abbrev cX7_heldWithin99 : ByteArray := prog_1_method_50_code
def yX7_heldWithin99 : MethodName := ⟨RX7, "heldWithin99", "(I)I"⟩
abbrev cX7_countedBehind : ByteArray := prog_1_method_51_code
def yX7_countedBehind : MethodName := ⟨RX7, "countedBehind", "(I)I"⟩
abbrev cX7_firstRaid : ByteArray := prog_1_method_52_code
def yX7_firstRaid : MethodName := ⟨RX7, "firstRaid", "(I)I"⟩
abbrev cX7_sumDifferences : ByteArray := prog_1_method_53_code
def yX7_sumDifferences : MethodName := ⟨RX7, "sumDifferences", "(LStrawGarrison$Sheet;)V"⟩
abbrev cX7_tapeNumber : ByteArray := prog_1_method_54_code
def yX7_tapeNumber : MethodName := ⟨RX7, "tapeNumber", "(I)V"⟩
def RX8 : String := "StrawGarrisonModel"
def TX8 : u_T := fun k => match k with
  | 0 => ("StrawGarrisonModel", "s", "[I", true)
  | 1 => ("StrawGarrisonModel", "image", "[I", true)
  | 2 => ("StrawGarrisonModel", "aside", "[I", true)
  | 3 => ("StrawGarrisonModel", "hasImage", "Z", false)
  | 4 => ("StrawGarrisonModel", "tSort", "[I", true)
  | 5 => ("StrawGarrisonModel", "tSize", "[I", true)
  | 6 => ("StrawGarrisonModel", "tNumber", "[I", true)
  | 7 => ("StrawGarrisonModel", "held", "[I", true)
  | 8 => ("StrawGarrisonModel", "heldNumber", "[I", true)
  | 9 => ("StrawGarrisonModel", "heldWorth", "[I", true)
  | 10 => ("StrawGarrisonModel", "heldSize", "[I", true)
  | 11 => ("StrawGarrisonModel", "heldRow", "[I", true)
  | 12 => ("StrawGarrisonModel", "close", "[I", true)
  | 13 => ("StrawGarrisonModel", "tape", "[I", true)
  | 14 => ("StrawGarrisonModel", "taped", "I", false)
  | 15 => ("StrawGarrisonModel", "begin", "I", false)
  | 16 => ("StrawGarrisonModel", "behind", "I", false)
  | 17 => ("StrawGarrisonModel", "token", "I", false)
  | 18 => ("StrawGarrisonModel", "number", "I", false)
  | 19 => ("StrawGarrisonModel", "letter", "I", false)
  | 20 => ("StrawGarrisonModel", "deep", "I", false)
  | 21 => ("StrawGarrisonModel", "turned", "I", false)
  | 22 => ("StrawGarrisonModel", "laid", "I", false)
  | 23 => ("StrawGarrisonModel", "laidAt", "I", false)
  | 24 => ("StrawGarrisonModel", "said", "I", false)
  | 25 => ("StrawGarrisonModel", "named", "[I", true)
  | 26 => ("StrawGarrisonModel", "pile", "[I", true)
  | 27 => ("StrawGarrisonModel", "carried", "[I", true)
  | 28 => ("StrawGarrisonModel", "waits", "[I", true)
  | 29 => ("StrawGarrisonModel", "waiting", "I", false)
  | _ => ("StrawGarrisonModel", "rowDue", "[I", true)
def tyX8 : Nat → FieldType := fun k => match k with
  | 0 => .array .int
  | 1 => .array .int
  | 2 => .array .int
  | 3 => .boolean
  | 4 => .array .int
  | 5 => .array .int
  | 6 => .array .int
  | 7 => .array .int
  | 8 => .array .int
  | 9 => .array .int
  | 10 => .array .int
  | 11 => .array .int
  | 12 => .array .int
  | 13 => .array .int
  | 14 => .int
  | 15 => .int
  | 16 => .int
  | 17 => .int
  | 18 => .int
  | 19 => .int
  | 20 => .int
  | 21 => .int
  | 22 => .int
  | 23 => .int
  | 24 => .int
  | 25 => .array .int
  | 26 => .array .int
  | 27 => .array .int
  | 28 => .array .int
  | 29 => .int
  | _ => .array .int
theorem nmX8 : ∀ a, a < 31 → ∀ b, b < 31 → a ≠ b → (TX8 a).2.1 ≠ (TX8 b).2.1 := by decide +kernel
theorem tyX8_ok : ∀ k, k < 31 → parseFieldDescriptor (TX8 k).2.2.1 = some (tyX8 k) := by decide +kernel
abbrev cX8_init : ByteArray := prog_10_method_1_code
def yX8_init : MethodName := ⟨RX8, "<init>", "()V"⟩
abbrev cX8_isIn : ByteArray := prog_10_method_2_code
def yX8_isIn : MethodName := ⟨RX8, "isIn", "(JJJ)Z"⟩
abbrev cX8_orNone : ByteArray := prog_10_method_3_code
def yX8_orNone : MethodName := ⟨RX8, "orNone", "(I)I"⟩
abbrev cX8_within : ByteArray := prog_10_method_4_code
def yX8_within : MethodName := ⟨RX8, "within", "(II)I"⟩
abbrev cX8_off : ByteArray := prog_10_method_5_code
def yX8_off : MethodName := ⟨RX8, "off", "(II)I"⟩
abbrev cX8_changes : ByteArray := prog_10_method_6_code
def yX8_changes : MethodName := ⟨RX8, "changes", "(II)I"⟩
abbrev cX8_textAt : ByteArray := prog_10_method_7_code
def yX8_textAt : MethodName := ⟨RX8, "textAt", "(I)I"⟩
abbrev cX8_of : ByteArray := prog_10_method_8_code
def yX8_of : MethodName := ⟨RX8, "of", "(II)I"⟩
abbrev cX8_sets : ByteArray := prog_10_method_9_code
def yX8_sets : MethodName := ⟨RX8, "sets", "(III)V"⟩
abbrev cX8_isGuard : ByteArray := prog_10_method_10_code
def yX8_isGuard : MethodName := ⟨RX8, "isGuard", "(I)Z"⟩
abbrev cX8_isText : ByteArray := prog_10_method_11_code
def yX8_isText : MethodName := ⟨RX8, "isText", "(I)Z"⟩
abbrev cX8_drawn : ByteArray := prog_10_method_12_code
def yX8_drawn : MethodName := ⟨RX8, "drawn", "()I"⟩
abbrev cX8_isOf : ByteArray := prog_10_method_13_code
def yX8_isOf : MethodName := ⟨RX8, "isOf", "(II)Z"⟩
abbrev cX8_isPost : ByteArray := prog_10_method_14_code
def yX8_isPost : MethodName := ⟨RX8, "isPost", "(I)Z"⟩
abbrev cX8_whose : ByteArray := prog_10_method_15_code
def yX8_whose : MethodName := ⟨RX8, "whose", "(I)I"⟩
abbrev cX8_comes : ByteArray := prog_10_method_16_code
def yX8_comes : MethodName := ⟨RX8, "comes", "(III)V"⟩
abbrev cX8_guard : ByteArray := prog_10_method_17_code
def yX8_guard : MethodName := ⟨RX8, "guard", "(III)I"⟩
abbrev cX8_plain : ByteArray := prog_10_method_18_code
def yX8_plain : MethodName := ⟨RX8, "plain", "(I)I"⟩
abbrev cX8_looks : ByteArray := prog_10_method_19_code
def yX8_looks : MethodName := ⟨RX8, "looks", "(I)I"⟩
abbrev cX8_lives : ByteArray := prog_10_method_20_code
def yX8_lives : MethodName := ⟨RX8, "lives", "(I)Z"⟩
abbrev cX8_falls : ByteArray := prog_10_method_21_code
def yX8_falls : MethodName := ⟨RX8, "falls", "(I)I"⟩
abbrev cX8_fights : ByteArray := prog_10_method_22_code
def yX8_fights : MethodName := ⟨RX8, "fights", "(I)I"⟩
abbrev cX8_worth : ByteArray := prog_10_method_23_code
def yX8_worth : MethodName := ⟨RX8, "worth", "(I)I"⟩
abbrev cX8_told : ByteArray := prog_10_method_24_code
def yX8_told : MethodName := ⟨RX8, "told", "(II)I"⟩
abbrev cX8_as : ByteArray := prog_10_method_25_code
def yX8_as : MethodName := ⟨RX8, "as", "(II)I"⟩
abbrev cX8_turns : ByteArray := prog_10_method_26_code
def yX8_turns : MethodName := ⟨RX8, "turns", "(II)I"⟩
abbrev cX8_set : ByteArray := prog_10_method_27_code
def yX8_set : MethodName := ⟨RX8, "set", "(III)I"⟩
abbrev cX8_moves : ByteArray := prog_10_method_28_code
def yX8_moves : MethodName := ⟨RX8, "moves", "(II)I"⟩
abbrev cX8_at : ByteArray := prog_10_method_29_code
def yX8_at : MethodName := ⟨RX8, "at", "(I)I"⟩
abbrev cX8_rule : ByteArray := prog_10_method_30_code
def yX8_rule : MethodName := ⟨RX8, "rule", "(II)I"⟩
abbrev cX8_deal : ByteArray := prog_10_method_31_code
def yX8_deal : MethodName := ⟨RX8, "deal", "(I)I"⟩
abbrev cX8_seed : ByteArray := prog_10_method_32_code
def yX8_seed : MethodName := ⟨RX8, "seed", "(I)I"⟩
abbrev cX8_counted : ByteArray := prog_10_method_33_code
def yX8_counted : MethodName := ⟨RX8, "counted", "()I"⟩
abbrev cX8_strength : ByteArray := prog_10_method_34_code
def yX8_strength : MethodName := ⟨RX8, "strength", "()I"⟩
abbrev cX8_blows : ByteArray := prog_10_method_35_code
def yX8_blows : MethodName := ⟨RX8, "blows", "()V"⟩
abbrev cX8_rises : ByteArray := prog_10_method_36_code
def yX8_rises : MethodName := ⟨RX8, "rises", "(I)V"⟩
abbrev cX8_watches : ByteArray := prog_10_method_37_code
def yX8_watches : MethodName := ⟨RX8, "watches", "()V"⟩
abbrev cX8_goesOn : ByteArray := prog_10_method_38_code
def yX8_goesOn : MethodName := ⟨RX8, "goesOn", "()V"⟩
abbrev cX8_goesOnMany : ByteArray := prog_10_method_39_code
def yX8_goesOnMany : MethodName := ⟨RX8, "goesOnMany", "(I)V"⟩
abbrev cX8_raids : ByteArray := prog_10_method_40_code
def yX8_raids : MethodName := ⟨RX8, "raids", "()I"⟩
abbrev cX8_seen : ByteArray := prog_10_method_41_code
def yX8_seen : MethodName := ⟨RX8, "seen", "(I)I"⟩
abbrev cX8_nights : ByteArray := prog_10_method_42_code
def yX8_nights : MethodName := ⟨RX8, "nights", "(I)I"⟩
abbrev cX8_doubts : ByteArray := prog_10_method_43_code
def yX8_doubts : MethodName := ⟨RX8, "doubts", "()I"⟩
abbrev cX8_downs : ByteArray := prog_10_method_44_code
def yX8_downs : MethodName := ⟨RX8, "downs", "()I"⟩
abbrev cX8_border : ByteArray := prog_10_method_45_code
def yX8_border : MethodName := ⟨RX8, "border", "(I)I"⟩
abbrev cX8_reached : ByteArray := prog_10_method_46_code
def yX8_reached : MethodName := ⟨RX8, "reached", "(II)I"⟩
abbrev cX8_covers : ByteArray := prog_10_method_47_code
def yX8_covers : MethodName := ⟨RX8, "covers", "(II)I"⟩
abbrev cX8_fewest : ByteArray := prog_10_method_48_code
def yX8_fewest : MethodName := ⟨RX8, "fewest", "()I"⟩
abbrev cX8_laysBy : ByteArray := prog_10_method_49_code
def yX8_laysBy : MethodName := ⟨RX8, "laysBy", "()V"⟩
abbrev cX8_laysBack : ByteArray := prog_10_method_50_code
def yX8_laysBack : MethodName := ⟨RX8, "laysBack", "()V"⟩
abbrev cX8_behind : ByteArray := prog_10_method_51_code
def yX8_behind : MethodName := ⟨RX8, "behind", "(II)I"⟩
abbrev cX8_bluff : ByteArray := prog_10_method_52_code
def yX8_bluff : MethodName := ⟨RX8, "bluff", "()I"⟩
abbrev cX8_isAsked : ByteArray := prog_10_method_53_code
def yX8_isAsked : MethodName := ⟨RX8, "isAsked", "(II)Z"⟩
abbrev cX8_washed : ByteArray := prog_10_method_54_code
def yX8_washed : MethodName := ⟨RX8, "washed", "(II)I"⟩
abbrev cX8_needed : ByteArray := prog_10_method_55_code
def yX8_needed : MethodName := ⟨RX8, "needed", "(I)I"⟩
abbrev cX8_becomes : ByteArray := prog_10_method_56_code
def yX8_becomes : MethodName := ⟨RX8, "becomes", "(III)I"⟩
abbrev cX8_fee : ByteArray := prog_10_method_57_code
def yX8_fee : MethodName := ⟨RX8, "fee", "()I"⟩
abbrev cX8_fine : ByteArray := prog_10_method_58_code
def yX8_fine : MethodName := ⟨RX8, "fine", "(I)I"⟩
abbrev cX8_feed : ByteArray := prog_10_method_59_code
def yX8_feed : MethodName := ⟨RX8, "feed", "(III)I"⟩
abbrev cX8_trim : ByteArray := prog_10_method_60_code
def yX8_trim : MethodName := ⟨RX8, "trim", "(I)I"⟩
abbrev cX8_isLetter : ByteArray := prog_10_method_61_code
def yX8_isLetter : MethodName := ⟨RX8, "isLetter", "(I)Z"⟩
abbrev cX8_isDigit : ByteArray := prog_10_method_62_code
def yX8_isDigit : MethodName := ⟨RX8, "isDigit", "(I)Z"⟩
abbrev cX8_nextToken : ByteArray := prog_10_method_63_code
def yX8_nextToken : MethodName := ⟨RX8, "nextToken", "()V"⟩
abbrev cX8_isSign : ByteArray := prog_10_method_64_code
def yX8_isSign : MethodName := ⟨RX8, "isSign", "(I)Z"⟩
abbrev cX8_isWordAt : ByteArray := prog_10_method_65_code
def yX8_isWordAt : MethodName := ⟨RX8, "isWordAt", "(IIII)Z"⟩
abbrev cX8_key : ByteArray := prog_10_method_66_code
def yX8_key : MethodName := ⟨RX8, "key", "()I"⟩
abbrev cX8_isName : ByteArray := prog_10_method_67_code
def yX8_isName : MethodName := ⟨RX8, "isName", "(II)Z"⟩
abbrev cX8_step : ByteArray := prog_10_method_68_code
def yX8_step : MethodName := ⟨RX8, "step", "(II)V"⟩
abbrev cX8_either : ByteArray := prog_10_method_69_code
def yX8_either : MethodName := ⟨RX8, "either", "(I)Z"⟩
abbrev cX8_both : ByteArray := prog_10_method_70_code
def yX8_both : MethodName := ⟨RX8, "both", "(I)Z"⟩
abbrev cX8_test : ByteArray := prog_10_method_71_code
def yX8_test : MethodName := ⟨RX8, "test", "(I)Z"⟩
abbrev cX8_sum : ByteArray := prog_10_method_72_code
def yX8_sum : MethodName := ⟨RX8, "sum", "(I)Z"⟩
abbrev cX8_term : ByteArray := prog_10_method_73_code
def yX8_term : MethodName := ⟨RX8, "term", "(I)Z"⟩
abbrev cX8_part0 : ByteArray := prog_10_method_74_code
def yX8_part0 : MethodName := ⟨RX8, "part0", "(I)Z"⟩
abbrev cX8_parse : ByteArray := prog_10_method_75_code
def yX8_parse : MethodName := ⟨RX8, "parse", "()I"⟩
abbrev cX8_text : ByteArray := prog_10_method_76_code
def yX8_text : MethodName := ⟨RX8, "text", "()I"⟩
abbrev cX8_textTold : ByteArray := prog_10_method_77_code
def yX8_textTold : MethodName := ⟨RX8, "textTold", "(II)I"⟩
abbrev cX8_counts : ByteArray := prog_10_method_78_code
def yX8_counts : MethodName := ⟨RX8, "counts", "(I)I"⟩
abbrev cX8_why : ByteArray := prog_10_method_79_code
def yX8_why : MethodName := ⟨RX8, "why", "(I)I"⟩
abbrev cX8_joined : ByteArray := prog_10_method_80_code
def yX8_joined : MethodName := ⟨RX8, "joined", "(III)I"⟩
abbrev cX8_worked : ByteArray := prog_10_method_81_code
def yX8_worked : MethodName := ⟨RX8, "worked", "(I)I"⟩
abbrev cX8_isSheet : ByteArray := prog_10_method_82_code
def yX8_isSheet : MethodName := ⟨RX8, "isSheet", "(I)Z"⟩
abbrev cX8_sheet : ByteArray := prog_10_method_83_code
def yX8_sheet : MethodName := ⟨RX8, "sheet", "(III)I"⟩
abbrev cX8_mark : ByteArray := prog_10_method_84_code
def yX8_mark : MethodName := ⟨RX8, "mark", "(III)I"⟩
abbrev cX8_pour : ByteArray := prog_10_method_85_code
def yX8_pour : MethodName := ⟨RX8, "pour", "(I)I"⟩
abbrev cX8_reads : ByteArray := prog_10_method_86_code
def yX8_reads : MethodName := ⟨RX8, "reads", "(I)I"⟩
abbrev cX8_offBy : ByteArray := prog_10_method_87_code
def yX8_offBy : MethodName := ⟨RX8, "offBy", "(II)I"⟩
abbrev cX8_like : ByteArray := prog_10_method_88_code
def yX8_like : MethodName := ⟨RX8, "like", "(II)I"⟩
abbrev cX8_copy : ByteArray := prog_10_method_89_code
def yX8_copy : MethodName := ⟨RX8, "copy", "(IIIII)I"⟩
abbrev cX8_isSlot : ByteArray := prog_10_method_90_code
def yX8_isSlot : MethodName := ⟨RX8, "isSlot", "(I)Z"⟩
abbrev cX8_lay : ByteArray := prog_10_method_91_code
def yX8_lay : MethodName := ⟨RX8, "lay", "(III)I"⟩
abbrev cX8_ask : ByteArray := prog_10_method_92_code
def yX8_ask : MethodName := ⟨RX8, "ask", "(II)I"⟩
abbrev cX8_item : ByteArray := prog_10_method_93_code
def yX8_item : MethodName := ⟨RX8, "item", "(II)I"⟩
abbrev cX8_rest : ByteArray := prog_10_method_94_code
def yX8_rest : MethodName := ⟨RX8, "rest", "(II)I"⟩
abbrev cX8_tell : ByteArray := prog_10_method_95_code
def yX8_tell : MethodName := ⟨RX8, "tell", "(I)I"⟩
abbrev cX8_setAside : ByteArray := prog_10_method_96_code
def yX8_setAside : MethodName := ⟨RX8, "setAside", "([I[I)V"⟩
abbrev cX8_check : ByteArray := prog_10_method_97_code
def yX8_check : MethodName := ⟨RX8, "check", "(I)I"⟩
abbrev cX8_keep : ByteArray := prog_10_method_98_code
def yX8_keep : MethodName := ⟨RX8, "keep", "()I"⟩
abbrev cX8_back : ByteArray := prog_10_method_99_code
def yX8_back : MethodName := ⟨RX8, "back", "()I"⟩
abbrev cX8_count : ByteArray := prog_10_method_100_code
def yX8_count : MethodName := ⟨RX8, "count", "(I)I"⟩
def RJ11 : String := "java/lang/Character"
def RJ9 : String := "java/lang/Math"
abbrev cJ9_abs_0f7a4 : ByteArray := prog_13_method_59_code
def yJ9_abs_0f7a4 : MethodName := ⟨RJ9, "abs", "(I)I"⟩
abbrev cJ9_max_7cf53 : ByteArray := prog_13_method_65_code
def yJ9_max_7cf53 : MethodName := ⟨RJ9, "max", "(II)I"⟩
abbrev cJ9_min_7cf53 : ByteArray := prog_13_method_69_code
def yJ9_min_7cf53 : MethodName := ⟨RJ9, "min", "(II)I"⟩
def RJ0 : String := "java/lang/String"
abbrev cJ0_length_8abf5 : ByteArray := prog_14_method_54_code
def yJ0_length_8abf5 : MethodName := ⟨RJ0, "length", "()I"⟩
abbrev cJ0_charAt_5068e : ByteArray := prog_14_method_56_code
def yJ0_charAt_5068e : MethodName := ⟨RJ0, "charAt", "(I)C"⟩
abbrev cJ0_indexOf_0f7a4 : ByteArray := prog_14_method_79_code
def yJ0_indexOf_0f7a4 : MethodName := ⟨RJ0, "indexOf", "(I)I"⟩
abbrev cJ0_indexOf_7cf53 : ByteArray := prog_14_method_80_code
def yJ0_indexOf_7cf53 : MethodName := ⟨RJ0, "indexOf", "(II)I"⟩
abbrev cJ0_coder_7d493 : ByteArray := prog_14_method_152_code
def yJ0_coder_7d493 : MethodName := ⟨RJ0, "coder", "()B"⟩
abbrev cJ0_isLatin1_aae02 : ByteArray := prog_14_method_154_code
def yJ0_isLatin1_aae02 : MethodName := ⟨RJ0, "isLatin1", "()Z"⟩
abbrev cJ0_checkIndex_df160 : ByteArray := prog_14_method_155_code
def yJ0_checkIndex_df160 : MethodName := ⟨RJ0, "checkIndex", "(II)V"⟩
abbrev cJ0_checkBoundsBeginEnd_23922 : ByteArray := prog_14_method_158_code
def yJ0_checkBoundsBeginEnd_23922 : MethodName := ⟨RJ0, "checkBoundsBeginEnd", "(III)V"⟩
def RJ1 : String := "java/lang/StringLatin1"
abbrev cJ1_charAt_3b067 : ByteArray := prog_15_method_2_code
def yJ1_charAt_3b067 : MethodName := ⟨RJ1, "charAt", "([BI)C"⟩
abbrev cJ1_canEncode_9a6ad : ByteArray := prog_15_method_4_code
def yJ1_canEncode_9a6ad : MethodName := ⟨RJ1, "canEncode", "(I)Z"⟩
abbrev cJ1_indexOf_4cfef : ByteArray := prog_15_method_22_code
def yJ1_indexOf_4cfef : MethodName := ⟨RJ1, "indexOf", "([BIII)I"⟩
abbrev cJ1_indexOfChar_4cfef : ByteArray := prog_15_method_23_code
def yJ1_indexOfChar_4cfef : MethodName := ⟨RJ1, "indexOfChar", "([BIII)I"⟩
def RJ2 : String := "java/lang/StringUTF16"
def RJ10 : String := "java/lang/System"
def RJ7 : String := "java/util/Arrays"
abbrev cJ7_fill_53178 : ByteArray := prog_18_method_103_code
def yJ7_fill_53178 : MethodName := ⟨RJ7, "fill", "([II)V"⟩
abbrev cJ7_copyOf_59c91 : ByteArray := prog_18_method_123_code
def yJ7_copyOf_59c91 : MethodName := ⟨RJ7, "copyOf", "([II)[I"⟩
def RJ3 : String := "jdk/internal/util/Preconditions"
abbrev cJ3_checkIndex_8e157 : ByteArray := prog_19_method_11_code
def yJ3_checkIndex_8e157 : MethodName := ⟨RJ3, "checkIndex", "(IILjava/util/function/BiFunction;)I"⟩
abbrev cJ3_checkFromToIndex_8c36e : ByteArray := prog_19_method_12_code
def yJ3_checkFromToIndex_8c36e : MethodName := ⟨RJ3, "checkFromToIndex", "(IIILjava/util/function/BiFunction;)I"⟩
def RL : String := "StrawGarrisonLaw"
abbrev cL_law : ByteArray := code
theorem dX0_init_0 : decode cX0_init 0 = .ok (.aload_n 0, 1) := by decide +kernel
theorem dX0_init_1 : decode cX0_init 1 = .ok (.invokespecial 3, 3) := by decide +kernel
theorem dX0_init_4 : decode cX0_init 4 = .ok (.aload_n 0, 1) := by decide +kernel
theorem dX0_init_5 : decode cX0_init 5 = .ok (.iconst 0, 1) := by decide +kernel
theorem dX0_init_6 : decode cX0_init 6 = .ok (.putfield 9, 3) := by decide +kernel
theorem dX0_init_9 : decode cX0_init 9 = .ok (.aload_n 0, 1) := by decide +kernel
theorem dX0_init_10 : decode cX0_init 10 = .ok (.bipush 14, 2) := by decide +kernel
theorem dX0_init_12 : decode cX0_init 12 = .ok (.anewarray 15, 3) := by decide +kernel
theorem dX0_init_15 : decode cX0_init 15 = .ok (.putfield 17, 3) := by decide +kernel
theorem dX0_init_18 : decode cX0_init 18 = .ok (.aload_n 0, 1) := by decide +kernel
theorem dX0_init_19 : decode cX0_init 19 = .ok (.iconst 3, 1) := by decide +kernel
theorem dX0_init_20 : decode cX0_init 20 = .ok (.newarray .int, 2) := by decide +kernel
theorem dX0_init_22 : decode cX0_init 22 = .ok (.dup, 1) := by decide +kernel
theorem dX0_init_23 : decode cX0_init 23 = .ok (.iconst 0, 1) := by decide +kernel
theorem dX0_init_24 : decode cX0_init 24 = .ok (.ldc 21, 2) := by decide +kernel
theorem dX0_init_26 : decode cX0_init 26 = .ok (.iastore, 1) := by decide +kernel
theorem dX0_init_27 : decode cX0_init 27 = .ok (.dup, 1) := by decide +kernel
theorem dX0_init_28 : decode cX0_init 28 = .ok (.iconst 1, 1) := by decide +kernel
theorem dX0_init_29 : decode cX0_init 29 = .ok (.ldc 21, 2) := by decide +kernel
theorem dX0_init_31 : decode cX0_init 31 = .ok (.iastore, 1) := by decide +kernel
theorem dX0_init_32 : decode cX0_init 32 = .ok (.dup, 1) := by decide +kernel
theorem dX0_init_33 : decode cX0_init 33 = .ok (.iconst 2, 1) := by decide +kernel
theorem dX0_init_34 : decode cX0_init 34 = .ok (.ldc 21, 2) := by decide +kernel
theorem dX0_init_36 : decode cX0_init 36 = .ok (.iastore, 1) := by decide +kernel
theorem dX0_init_37 : decode cX0_init 37 = .ok (.putfield 22, 3) := by decide +kernel
theorem dX0_init_40 : decode cX0_init 40 = .ok (.return_, 1) := by decide +kernel
theorem dX0_become_0 : decode cX0_become 0 = .ok (.aload_n 0, 1) := by decide +kernel
theorem dX0_become_1 : decode cX0_become 1 = .ok (.aload_n 1, 1) := by decide +kernel
theorem dX0_become_2 : decode cX0_become 2 = .ok (.getfield 9, 3) := by decide +kernel
theorem dX0_become_5 : decode cX0_become 5 = .ok (.putfield 9, 3) := by decide +kernel
theorem dX0_become_8 : decode cX0_become 8 = .ok (.iconst 0, 1) := by decide +kernel
theorem dX0_become_9 : decode cX0_become 9 = .ok (.istore_n 2, 1) := by decide +kernel
theorem dX0_become_10 : decode cX0_become 10 = .ok (.iload_n 2, 1) := by decide +kernel
theorem dX0_become_11 : decode cX0_become 11 = .ok (.bipush 14, 2) := by decide +kernel
theorem dX0_become_13 : decode cX0_become 13 = .ok (.if_icmp .ge 21, 3) := by decide +kernel
theorem dX0_become_16 : decode cX0_become 16 = .ok (.aload_n 0, 1) := by decide +kernel
theorem dX0_become_17 : decode cX0_become 17 = .ok (.getfield 17, 3) := by decide +kernel
theorem dX0_become_20 : decode cX0_become 20 = .ok (.iload_n 2, 1) := by decide +kernel
theorem dX0_become_21 : decode cX0_become 21 = .ok (.aload_n 1, 1) := by decide +kernel
theorem dX0_become_22 : decode cX0_become 22 = .ok (.getfield 17, 3) := by decide +kernel
theorem dX0_become_25 : decode cX0_become 25 = .ok (.iload_n 2, 1) := by decide +kernel
theorem dX0_become_26 : decode cX0_become 26 = .ok (.aaload, 1) := by decide +kernel
theorem dX0_become_27 : decode cX0_become 27 = .ok (.aastore, 1) := by decide +kernel
theorem dX0_become_28 : decode cX0_become 28 = .ok (.iinc 2 1, 3) := by decide +kernel
theorem dX0_become_31 : decode cX0_become 31 = .ok (.goto (-21), 3) := by decide +kernel
theorem dX0_become_34 : decode cX0_become 34 = .ok (.aload_n 1, 1) := by decide +kernel
theorem dX0_become_35 : decode cX0_become 35 = .ok (.getfield 22, 3) := by decide +kernel
theorem dX0_become_38 : decode cX0_become 38 = .ok (.iconst 0, 1) := by decide +kernel
theorem dX0_become_39 : decode cX0_become 39 = .ok (.aload_n 0, 1) := by decide +kernel
theorem dX0_become_40 : decode cX0_become 40 = .ok (.getfield 22, 3) := by decide +kernel
theorem dX0_become_43 : decode cX0_become 43 = .ok (.iconst 0, 1) := by decide +kernel
theorem dX0_become_44 : decode cX0_become 44 = .ok (.iconst 3, 1) := by decide +kernel
theorem dX0_become_45 : decode cX0_become 45 = .ok (.invokestatic 26, 3) := by decide +kernel
theorem dX0_become_48 : decode cX0_become 48 = .ok (.return_, 1) := by decide +kernel
theorem dX0_take_0 : decode cX0_take 0 = .ok (.aload_n 0, 1) := by decide +kernel
theorem dX0_take_1 : decode cX0_take 1 = .ok (.getfield 9, 3) := by decide +kernel
theorem dX0_take_4 : decode cX0_take 4 = .ok (.bipush 14, 2) := by decide +kernel
theorem dX0_take_6 : decode cX0_take 6 = .ok (.if_icmp .lt 6, 3) := by decide +kernel
theorem dX0_take_9 : decode cX0_take 9 = .ok (.ldc 32, 2) := by decide +kernel
theorem dX0_take_11 : decode cX0_take 11 = .ok (.ireturn, 1) := by decide +kernel
theorem dX0_take_12 : decode cX0_take 12 = .ok (.aload_n 0, 1) := by decide +kernel
theorem dX0_take_13 : decode cX0_take 13 = .ok (.getfield 9, 3) := by decide +kernel
theorem dX0_take_16 : decode cX0_take 16 = .ok (.istore_n 2, 1) := by decide +kernel
theorem dX0_take_17 : decode cX0_take 17 = .ok (.aload_n 0, 1) := by decide +kernel
theorem dX0_take_18 : decode cX0_take 18 = .ok (.getfield 17, 3) := by decide +kernel
theorem dX0_take_21 : decode cX0_take 21 = .ok (.iload_n 2, 1) := by decide +kernel
theorem dX0_take_22 : decode cX0_take 22 = .ok (.new 15, 3) := by decide +kernel
theorem dX0_take_25 : decode cX0_take 25 = .ok (.dup, 1) := by decide +kernel
theorem dX0_take_26 : decode cX0_take 26 = .ok (.aload_n 1, 1) := by decide +kernel
theorem dX0_take_27 : decode cX0_take 27 = .ok (.invokespecial 33, 3) := by decide +kernel
theorem dX0_take_30 : decode cX0_take 30 = .ok (.aastore, 1) := by decide +kernel
theorem dX0_take_31 : decode cX0_take 31 = .ok (.aload_n 0, 1) := by decide +kernel
theorem dX0_take_32 : decode cX0_take 32 = .ok (.getfield 22, 3) := by decide +kernel
theorem dX0_take_35 : decode cX0_take 35 = .ok (.aload_n 1, 1) := by decide +kernel
theorem dX0_take_36 : decode cX0_take 36 = .ok (.getfield 36, 3) := by decide +kernel
theorem dX0_take_39 : decode cX0_take 39 = .ok (.iload_n 2, 1) := by decide +kernel
theorem dX0_take_40 : decode cX0_take 40 = .ok (.iastore, 1) := by decide +kernel
theorem dX0_take_41 : decode cX0_take 41 = .ok (.aload_n 0, 1) := by decide +kernel
theorem dX0_take_42 : decode cX0_take 42 = .ok (.dup, 1) := by decide +kernel
theorem dX0_take_43 : decode cX0_take 43 = .ok (.getfield 9, 3) := by decide +kernel
theorem dX0_take_46 : decode cX0_take 46 = .ok (.iconst 1, 1) := by decide +kernel
theorem dX0_take_47 : decode cX0_take 47 = .ok (.iadd, 1) := by decide +kernel
theorem dX0_take_48 : decode cX0_take 48 = .ok (.putfield 9, 3) := by decide +kernel
theorem dX0_take_51 : decode cX0_take 51 = .ok (.iload_n 2, 1) := by decide +kernel
theorem dX0_take_52 : decode cX0_take 52 = .ok (.ireturn, 1) := by decide +kernel
theorem dX0_rowOf_0 : decode cX0_rowOf 0 = .ok (.iload_n 1, 1) := by decide +kernel
theorem dX0_rowOf_1 : decode cX0_rowOf 1 = .ok (.iconst 0, 1) := by decide +kernel
theorem dX0_rowOf_2 : decode cX0_rowOf 2 = .ok (.aload_n 0, 1) := by decide +kernel
theorem dX0_rowOf_3 : decode cX0_rowOf 3 = .ok (.getfield 9, 3) := by decide +kernel
theorem dX0_rowOf_6 : decode cX0_rowOf 6 = .ok (.iconst 1, 1) := by decide +kernel
theorem dX0_rowOf_7 : decode cX0_rowOf 7 = .ok (.isub, 1) := by decide +kernel
theorem dX0_rowOf_8 : decode cX0_rowOf 8 = .ok (.invokestatic 41, 3) := by decide +kernel
theorem dX0_rowOf_11 : decode cX0_rowOf 11 = .ok (.ifCond .eq 12, 3) := by decide +kernel
theorem dX0_rowOf_14 : decode cX0_rowOf 14 = .ok (.aload_n 0, 1) := by decide +kernel
theorem dX0_rowOf_15 : decode cX0_rowOf 15 = .ok (.getfield 17, 3) := by decide +kernel
theorem dX0_rowOf_18 : decode cX0_rowOf 18 = .ok (.iload_n 1, 1) := by decide +kernel
theorem dX0_rowOf_19 : decode cX0_rowOf 19 = .ok (.aaload, 1) := by decide +kernel
theorem dX0_rowOf_20 : decode cX0_rowOf 20 = .ok (.goto 4, 3) := by decide +kernel
theorem dX0_rowOf_23 : decode cX0_rowOf 23 = .ok (.aconst_null, 1) := by decide +kernel
theorem dX0_rowOf_24 : decode cX0_rowOf 24 = .ok (.areturn, 1) := by decide +kernel
theorem dX0_textFor_0 : decode cX0_textFor 0 = .ok (.aload_n 0, 1) := by decide +kernel
theorem dX0_textFor_1 : decode cX0_textFor 1 = .ok (.getfield 22, 3) := by decide +kernel
theorem dX0_textFor_4 : decode cX0_textFor 4 = .ok (.iload_n 1, 1) := by decide +kernel
theorem dX0_textFor_5 : decode cX0_textFor 5 = .ok (.iaload, 1) := by decide +kernel
theorem dX0_textFor_6 : decode cX0_textFor 6 = .ok (.istore_n 2, 1) := by decide +kernel
theorem dX0_textFor_7 : decode cX0_textFor 7 = .ok (.iload_n 2, 1) := by decide +kernel
theorem dX0_textFor_8 : decode cX0_textFor 8 = .ok (.iconst 0, 1) := by decide +kernel
theorem dX0_textFor_9 : decode cX0_textFor 9 = .ok (.aload_n 0, 1) := by decide +kernel
theorem dX0_textFor_10 : decode cX0_textFor 10 = .ok (.getfield 9, 3) := by decide +kernel
theorem dX0_textFor_13 : decode cX0_textFor 13 = .ok (.iconst 1, 1) := by decide +kernel
theorem dX0_textFor_14 : decode cX0_textFor 14 = .ok (.isub, 1) := by decide +kernel
theorem dX0_textFor_15 : decode cX0_textFor 15 = .ok (.invokestatic 41, 3) := by decide +kernel
theorem dX0_textFor_18 : decode cX0_textFor 18 = .ok (.ifCond .eq 12, 3) := by decide +kernel
theorem dX0_textFor_21 : decode cX0_textFor 21 = .ok (.aload_n 0, 1) := by decide +kernel
theorem dX0_textFor_22 : decode cX0_textFor 22 = .ok (.getfield 17, 3) := by decide +kernel
theorem dX0_textFor_25 : decode cX0_textFor 25 = .ok (.iload_n 2, 1) := by decide +kernel
theorem dX0_textFor_26 : decode cX0_textFor 26 = .ok (.aaload, 1) := by decide +kernel
theorem dX0_textFor_27 : decode cX0_textFor 27 = .ok (.goto 4, 3) := by decide +kernel
theorem dX0_textFor_30 : decode cX0_textFor 30 = .ok (.aconst_null, 1) := by decide +kernel
theorem dX0_textFor_31 : decode cX0_textFor 31 = .ok (.areturn, 1) := by decide +kernel
theorem dX1_init_0 : decode cX1_init 0 = .ok (.aload_n 0, 1) := by decide +kernel
theorem dX1_init_1 : decode cX1_init 1 = .ok (.invokespecial 3, 3) := by decide +kernel
theorem dX1_init_4 : decode cX1_init 4 = .ok (.aload_n 0, 1) := by decide +kernel
theorem dX1_init_5 : decode cX1_init 5 = .ok (.iconst 0, 1) := by decide +kernel
theorem dX1_init_6 : decode cX1_init 6 = .ok (.putfield 9, 3) := by decide +kernel
theorem dX1_init_9 : decode cX1_init 9 = .ok (.aload_n 0, 1) := by decide +kernel
theorem dX1_init_10 : decode cX1_init 10 = .ok (.bipush 10, 2) := by decide +kernel
theorem dX1_init_12 : decode cX1_init 12 = .ok (.newarray .int, 2) := by decide +kernel
theorem dX1_init_14 : decode cX1_init 14 = .ok (.putfield 15, 3) := by decide +kernel
theorem dX1_init_17 : decode cX1_init 17 = .ok (.aload_n 0, 1) := by decide +kernel
theorem dX1_init_18 : decode cX1_init 18 = .ok (.bipush 10, 2) := by decide +kernel
theorem dX1_init_20 : decode cX1_init 20 = .ok (.newarray .int, 2) := by decide +kernel
theorem dX1_init_22 : decode cX1_init 22 = .ok (.putfield 19, 3) := by decide +kernel
theorem dX1_init_25 : decode cX1_init 25 = .ok (.aload_n 0, 1) := by decide +kernel
theorem dX1_init_26 : decode cX1_init 26 = .ok (.bipush 10, 2) := by decide +kernel
theorem dX1_init_28 : decode cX1_init 28 = .ok (.newarray .int, 2) := by decide +kernel
theorem dX1_init_30 : decode cX1_init 30 = .ok (.putfield 22, 3) := by decide +kernel
theorem dX1_init_33 : decode cX1_init 33 = .ok (.aload_n 0, 1) := by decide +kernel
theorem dX1_init_34 : decode cX1_init 34 = .ok (.bipush 10, 2) := by decide +kernel
theorem dX1_init_36 : decode cX1_init 36 = .ok (.newarray .int, 2) := by decide +kernel
theorem dX1_init_38 : decode cX1_init 38 = .ok (.putfield 25, 3) := by decide +kernel
theorem dX1_init_41 : decode cX1_init 41 = .ok (.aload_n 0, 1) := by decide +kernel
theorem dX1_init_42 : decode cX1_init 42 = .ok (.bipush 10, 2) := by decide +kernel
theorem dX1_init_44 : decode cX1_init 44 = .ok (.newarray .int, 2) := by decide +kernel
theorem dX1_init_46 : decode cX1_init 46 = .ok (.putfield 28, 3) := by decide +kernel
theorem dX1_init_49 : decode cX1_init 49 = .ok (.aload_n 0, 1) := by decide +kernel
theorem dX1_init_50 : decode cX1_init 50 = .ok (.iconst 4, 1) := by decide +kernel
theorem dX1_init_51 : decode cX1_init 51 = .ok (.newarray .int, 2) := by decide +kernel
theorem dX1_init_53 : decode cX1_init 53 = .ok (.dup, 1) := by decide +kernel
theorem dX1_init_54 : decode cX1_init 54 = .ok (.iconst 0, 1) := by decide +kernel
theorem dX1_init_55 : decode cX1_init 55 = .ok (.iconst 3, 1) := by decide +kernel
theorem dX1_init_56 : decode cX1_init 56 = .ok (.iastore, 1) := by decide +kernel
theorem dX1_init_57 : decode cX1_init 57 = .ok (.dup, 1) := by decide +kernel
theorem dX1_init_58 : decode cX1_init 58 = .ok (.iconst 1, 1) := by decide +kernel
theorem dX1_init_59 : decode cX1_init 59 = .ok (.bipush 30, 2) := by decide +kernel
theorem dX1_init_61 : decode cX1_init 61 = .ok (.iastore, 1) := by decide +kernel
theorem dX1_init_62 : decode cX1_init 62 = .ok (.dup, 1) := by decide +kernel
theorem dX1_init_63 : decode cX1_init 63 = .ok (.iconst 2, 1) := by decide +kernel
theorem dX1_init_64 : decode cX1_init 64 = .ok (.sipush 200, 3) := by decide +kernel
theorem dX1_init_67 : decode cX1_init 67 = .ok (.iastore, 1) := by decide +kernel
theorem dX1_init_68 : decode cX1_init 68 = .ok (.dup, 1) := by decide +kernel
theorem dX1_init_69 : decode cX1_init 69 = .ok (.iconst 3, 1) := by decide +kernel
theorem dX1_init_70 : decode cX1_init 70 = .ok (.bipush 20, 2) := by decide +kernel
theorem dX1_init_72 : decode cX1_init 72 = .ok (.iastore, 1) := by decide +kernel
theorem dX1_init_73 : decode cX1_init 73 = .ok (.putfield 31, 3) := by decide +kernel
theorem dX1_init_76 : decode cX1_init 76 = .ok (.aload_n 0, 1) := by decide +kernel
theorem dX1_init_77 : decode cX1_init 77 = .ok (.iconst 3, 1) := by decide +kernel
theorem dX1_init_78 : decode cX1_init 78 = .ok (.newarray .int, 2) := by decide +kernel
theorem dX1_init_80 : decode cX1_init 80 = .ok (.dup, 1) := by decide +kernel
theorem dX1_init_81 : decode cX1_init 81 = .ok (.iconst 0, 1) := by decide +kernel
theorem dX1_init_82 : decode cX1_init 82 = .ok (.iconst 0, 1) := by decide +kernel
theorem dX1_init_83 : decode cX1_init 83 = .ok (.iastore, 1) := by decide +kernel
theorem dX1_init_84 : decode cX1_init 84 = .ok (.dup, 1) := by decide +kernel
theorem dX1_init_85 : decode cX1_init 85 = .ok (.iconst 1, 1) := by decide +kernel
theorem dX1_init_86 : decode cX1_init 86 = .ok (.iconst 0, 1) := by decide +kernel
theorem dX1_init_87 : decode cX1_init 87 = .ok (.iastore, 1) := by decide +kernel
theorem dX1_init_88 : decode cX1_init 88 = .ok (.dup, 1) := by decide +kernel
theorem dX1_init_89 : decode cX1_init 89 = .ok (.iconst 2, 1) := by decide +kernel
theorem dX1_init_90 : decode cX1_init 90 = .ok (.iconst 0, 1) := by decide +kernel
theorem dX1_init_91 : decode cX1_init 91 = .ok (.iastore, 1) := by decide +kernel
theorem dX1_init_92 : decode cX1_init 92 = .ok (.putfield 34, 3) := by decide +kernel
theorem dX1_init_95 : decode cX1_init 95 = .ok (.aload_n 0, 1) := by decide +kernel
theorem dX1_init_96 : decode cX1_init 96 = .ok (.iconst 0, 1) := by decide +kernel
theorem dX1_init_97 : decode cX1_init 97 = .ok (.putfield 37, 3) := by decide +kernel
theorem dX1_init_100 : decode cX1_init 100 = .ok (.aload_n 0, 1) := by decide +kernel
theorem dX1_init_101 : decode cX1_init 101 = .ok (.iconst 1, 1) := by decide +kernel
theorem dX1_init_102 : decode cX1_init 102 = .ok (.putfield 40, 3) := by decide +kernel
theorem dX1_init_105 : decode cX1_init 105 = .ok (.aload_n 0, 1) := by decide +kernel
theorem dX1_init_106 : decode cX1_init 106 = .ok (.new 43, 3) := by decide +kernel
theorem dX1_init_109 : decode cX1_init 109 = .ok (.dup, 1) := by decide +kernel
theorem dX1_init_110 : decode cX1_init 110 = .ok (.invokespecial 45, 3) := by decide +kernel
theorem dX1_init_113 : decode cX1_init 113 = .ok (.putfield 46, 3) := by decide +kernel
theorem dX1_init_116 : decode cX1_init 116 = .ok (.return_, 1) := by decide +kernel
theorem dX1_become_0 : decode cX1_become 0 = .ok (.aload_n 0, 1) := by decide +kernel
theorem dX1_become_1 : decode cX1_become 1 = .ok (.aload_n 1, 1) := by decide +kernel
theorem dX1_become_2 : decode cX1_become 2 = .ok (.getfield 9, 3) := by decide +kernel
theorem dX1_become_5 : decode cX1_become 5 = .ok (.putfield 9, 3) := by decide +kernel
theorem dX1_become_8 : decode cX1_become 8 = .ok (.aload_n 1, 1) := by decide +kernel
theorem dX1_become_9 : decode cX1_become 9 = .ok (.getfield 15, 3) := by decide +kernel
theorem dX1_become_12 : decode cX1_become 12 = .ok (.iconst 0, 1) := by decide +kernel
theorem dX1_become_13 : decode cX1_become 13 = .ok (.aload_n 0, 1) := by decide +kernel
theorem dX1_become_14 : decode cX1_become 14 = .ok (.getfield 15, 3) := by decide +kernel
theorem dX1_become_17 : decode cX1_become 17 = .ok (.iconst 0, 1) := by decide +kernel
theorem dX1_become_18 : decode cX1_become 18 = .ok (.bipush 10, 2) := by decide +kernel
theorem dX1_become_20 : decode cX1_become 20 = .ok (.invokestatic 50, 3) := by decide +kernel
theorem dX1_become_23 : decode cX1_become 23 = .ok (.aload_n 1, 1) := by decide +kernel
theorem dX1_become_24 : decode cX1_become 24 = .ok (.getfield 19, 3) := by decide +kernel
theorem dX1_become_27 : decode cX1_become 27 = .ok (.iconst 0, 1) := by decide +kernel
theorem dX1_become_28 : decode cX1_become 28 = .ok (.aload_n 0, 1) := by decide +kernel
theorem dX1_become_29 : decode cX1_become 29 = .ok (.getfield 19, 3) := by decide +kernel
theorem dX1_become_32 : decode cX1_become 32 = .ok (.iconst 0, 1) := by decide +kernel
theorem dX1_become_33 : decode cX1_become 33 = .ok (.bipush 10, 2) := by decide +kernel
theorem dX1_become_35 : decode cX1_become 35 = .ok (.invokestatic 50, 3) := by decide +kernel
theorem dX1_become_38 : decode cX1_become 38 = .ok (.aload_n 1, 1) := by decide +kernel
theorem dX1_become_39 : decode cX1_become 39 = .ok (.getfield 22, 3) := by decide +kernel
theorem dX1_become_42 : decode cX1_become 42 = .ok (.iconst 0, 1) := by decide +kernel
theorem dX1_become_43 : decode cX1_become 43 = .ok (.aload_n 0, 1) := by decide +kernel
theorem dX1_become_44 : decode cX1_become 44 = .ok (.getfield 22, 3) := by decide +kernel
theorem dX1_become_47 : decode cX1_become 47 = .ok (.iconst 0, 1) := by decide +kernel
theorem dX1_become_48 : decode cX1_become 48 = .ok (.bipush 10, 2) := by decide +kernel
theorem dX1_become_50 : decode cX1_become 50 = .ok (.invokestatic 50, 3) := by decide +kernel
theorem dX1_become_53 : decode cX1_become 53 = .ok (.aload_n 1, 1) := by decide +kernel
theorem dX1_become_54 : decode cX1_become 54 = .ok (.getfield 25, 3) := by decide +kernel
theorem dX1_become_57 : decode cX1_become 57 = .ok (.iconst 0, 1) := by decide +kernel
theorem dX1_become_58 : decode cX1_become 58 = .ok (.aload_n 0, 1) := by decide +kernel
theorem dX1_become_59 : decode cX1_become 59 = .ok (.getfield 25, 3) := by decide +kernel
theorem dX1_become_62 : decode cX1_become 62 = .ok (.iconst 0, 1) := by decide +kernel
theorem dX1_become_63 : decode cX1_become 63 = .ok (.bipush 10, 2) := by decide +kernel
theorem dX1_become_65 : decode cX1_become 65 = .ok (.invokestatic 50, 3) := by decide +kernel
theorem dX1_become_68 : decode cX1_become 68 = .ok (.aload_n 1, 1) := by decide +kernel
theorem dX1_become_69 : decode cX1_become 69 = .ok (.getfield 28, 3) := by decide +kernel
theorem dX1_become_72 : decode cX1_become 72 = .ok (.iconst 0, 1) := by decide +kernel
theorem dX1_become_73 : decode cX1_become 73 = .ok (.aload_n 0, 1) := by decide +kernel
theorem dX1_become_74 : decode cX1_become 74 = .ok (.getfield 28, 3) := by decide +kernel
theorem dX1_become_77 : decode cX1_become 77 = .ok (.iconst 0, 1) := by decide +kernel
theorem dX1_become_78 : decode cX1_become 78 = .ok (.bipush 10, 2) := by decide +kernel
theorem dX1_become_80 : decode cX1_become 80 = .ok (.invokestatic 50, 3) := by decide +kernel
theorem dX1_become_83 : decode cX1_become 83 = .ok (.aload_n 1, 1) := by decide +kernel
theorem dX1_become_84 : decode cX1_become 84 = .ok (.getfield 31, 3) := by decide +kernel
theorem dX1_become_87 : decode cX1_become 87 = .ok (.iconst 0, 1) := by decide +kernel
theorem dX1_become_88 : decode cX1_become 88 = .ok (.aload_n 0, 1) := by decide +kernel
theorem dX1_become_89 : decode cX1_become 89 = .ok (.getfield 31, 3) := by decide +kernel
theorem dX1_become_92 : decode cX1_become 92 = .ok (.iconst 0, 1) := by decide +kernel
theorem dX1_become_93 : decode cX1_become 93 = .ok (.aload_n 0, 1) := by decide +kernel
theorem dX1_become_94 : decode cX1_become 94 = .ok (.getfield 31, 3) := by decide +kernel
theorem dX1_become_97 : decode cX1_become 97 = .ok (.arraylength, 1) := by decide +kernel
theorem dX1_become_98 : decode cX1_become 98 = .ok (.invokestatic 50, 3) := by decide +kernel
theorem dX1_become_101 : decode cX1_become 101 = .ok (.aload_n 1, 1) := by decide +kernel
theorem dX1_become_102 : decode cX1_become 102 = .ok (.getfield 34, 3) := by decide +kernel
theorem dX1_become_105 : decode cX1_become 105 = .ok (.iconst 0, 1) := by decide +kernel
theorem dX1_become_106 : decode cX1_become 106 = .ok (.aload_n 0, 1) := by decide +kernel
theorem dX1_become_107 : decode cX1_become 107 = .ok (.getfield 34, 3) := by decide +kernel
theorem dX1_become_110 : decode cX1_become 110 = .ok (.iconst 0, 1) := by decide +kernel
theorem dX1_become_111 : decode cX1_become 111 = .ok (.aload_n 0, 1) := by decide +kernel
theorem dX1_become_112 : decode cX1_become 112 = .ok (.getfield 34, 3) := by decide +kernel
theorem dX1_become_115 : decode cX1_become 115 = .ok (.arraylength, 1) := by decide +kernel
theorem dX1_become_116 : decode cX1_become 116 = .ok (.invokestatic 50, 3) := by decide +kernel
theorem dX1_become_119 : decode cX1_become 119 = .ok (.aload_n 0, 1) := by decide +kernel
theorem dX1_become_120 : decode cX1_become 120 = .ok (.aload_n 1, 1) := by decide +kernel
theorem dX1_become_121 : decode cX1_become 121 = .ok (.getfield 37, 3) := by decide +kernel
theorem dX1_become_124 : decode cX1_become 124 = .ok (.putfield 37, 3) := by decide +kernel
theorem dX1_become_127 : decode cX1_become 127 = .ok (.aload_n 0, 1) := by decide +kernel
theorem dX1_become_128 : decode cX1_become 128 = .ok (.aload_n 1, 1) := by decide +kernel
theorem dX1_become_129 : decode cX1_become 129 = .ok (.getfield 40, 3) := by decide +kernel
theorem dX1_become_132 : decode cX1_become 132 = .ok (.putfield 40, 3) := by decide +kernel
theorem dX1_become_135 : decode cX1_become 135 = .ok (.aload_n 0, 1) := by decide +kernel
theorem dX1_become_136 : decode cX1_become 136 = .ok (.getfield 46, 3) := by decide +kernel
theorem dX1_become_139 : decode cX1_become 139 = .ok (.aload_n 1, 1) := by decide +kernel
theorem dX1_become_140 : decode cX1_become 140 = .ok (.getfield 46, 3) := by decide +kernel
theorem dX1_become_143 : decode cX1_become 143 = .ok (.invokevirtual 56, 3) := by decide +kernel
theorem dX1_become_146 : decode cX1_become 146 = .ok (.return_, 1) := by decide +kernel
theorem dX1_enlist_0 : decode cX1_enlist 0 = .ok (.aload_n 0, 1) := by decide +kernel
theorem dX1_enlist_1 : decode cX1_enlist 1 = .ok (.getfield 9, 3) := by decide +kernel
theorem dX1_enlist_4 : decode cX1_enlist 4 = .ok (.istore 4, 2) := by decide +kernel
theorem dX1_enlist_6 : decode cX1_enlist 6 = .ok (.iload 4, 2) := by decide +kernel
theorem dX1_enlist_8 : decode cX1_enlist 8 = .ok (.bipush 10, 2) := by decide +kernel
theorem dX1_enlist_10 : decode cX1_enlist 10 = .ok (.if_icmp .ge 53, 3) := by decide +kernel
theorem dX1_enlist_13 : decode cX1_enlist 13 = .ok (.aload_n 0, 1) := by decide +kernel
theorem dX1_enlist_14 : decode cX1_enlist 14 = .ok (.getfield 15, 3) := by decide +kernel
theorem dX1_enlist_17 : decode cX1_enlist 17 = .ok (.iload 4, 2) := by decide +kernel
theorem dX1_enlist_19 : decode cX1_enlist 19 = .ok (.iload_n 1, 1) := by decide +kernel
theorem dX1_enlist_20 : decode cX1_enlist 20 = .ok (.iastore, 1) := by decide +kernel
theorem dX1_enlist_21 : decode cX1_enlist 21 = .ok (.aload_n 0, 1) := by decide +kernel
theorem dX1_enlist_22 : decode cX1_enlist 22 = .ok (.getfield 19, 3) := by decide +kernel
theorem dX1_enlist_25 : decode cX1_enlist 25 = .ok (.iload 4, 2) := by decide +kernel
theorem dX1_enlist_27 : decode cX1_enlist 27 = .ok (.iload_n 2, 1) := by decide +kernel
theorem dX1_enlist_28 : decode cX1_enlist 28 = .ok (.iastore, 1) := by decide +kernel
theorem dX1_enlist_29 : decode cX1_enlist 29 = .ok (.aload_n 0, 1) := by decide +kernel
theorem dX1_enlist_30 : decode cX1_enlist 30 = .ok (.getfield 22, 3) := by decide +kernel
theorem dX1_enlist_33 : decode cX1_enlist 33 = .ok (.iload 4, 2) := by decide +kernel
theorem dX1_enlist_35 : decode cX1_enlist 35 = .ok (.iload_n 3, 1) := by decide +kernel
theorem dX1_enlist_36 : decode cX1_enlist 36 = .ok (.iastore, 1) := by decide +kernel
theorem dX1_enlist_37 : decode cX1_enlist 37 = .ok (.aload_n 0, 1) := by decide +kernel
theorem dX1_enlist_38 : decode cX1_enlist 38 = .ok (.getfield 25, 3) := by decide +kernel
theorem dX1_enlist_41 : decode cX1_enlist 41 = .ok (.iload 4, 2) := by decide +kernel
theorem dX1_enlist_43 : decode cX1_enlist 43 = .ok (.iconst 0, 1) := by decide +kernel
theorem dX1_enlist_44 : decode cX1_enlist 44 = .ok (.iastore, 1) := by decide +kernel
theorem dX1_enlist_45 : decode cX1_enlist 45 = .ok (.aload_n 0, 1) := by decide +kernel
theorem dX1_enlist_46 : decode cX1_enlist 46 = .ok (.getfield 28, 3) := by decide +kernel
theorem dX1_enlist_49 : decode cX1_enlist 49 = .ok (.iload 4, 2) := by decide +kernel
theorem dX1_enlist_51 : decode cX1_enlist 51 = .ok (.iconst 1, 1) := by decide +kernel
theorem dX1_enlist_52 : decode cX1_enlist 52 = .ok (.iastore, 1) := by decide +kernel
theorem dX1_enlist_53 : decode cX1_enlist 53 = .ok (.aload_n 0, 1) := by decide +kernel
theorem dX1_enlist_54 : decode cX1_enlist 54 = .ok (.dup, 1) := by decide +kernel
theorem dX1_enlist_55 : decode cX1_enlist 55 = .ok (.getfield 9, 3) := by decide +kernel
theorem dX1_enlist_58 : decode cX1_enlist 58 = .ok (.iconst 1, 1) := by decide +kernel
theorem dX1_enlist_59 : decode cX1_enlist 59 = .ok (.iadd, 1) := by decide +kernel
theorem dX1_enlist_60 : decode cX1_enlist 60 = .ok (.putfield 9, 3) := by decide +kernel
theorem dX1_enlist_63 : decode cX1_enlist 63 = .ok (.iload 4, 2) := by decide +kernel
theorem dX1_enlist_65 : decode cX1_enlist 65 = .ok (.ireturn, 1) := by decide +kernel
theorem dX1_enlistDrawn_0 : decode cX1_enlistDrawn 0 = .ok (.aload_n 0, 1) := by decide +kernel
theorem dX1_enlistDrawn_1 : decode cX1_enlistDrawn 1 = .ok (.invokevirtual 60, 3) := by decide +kernel
theorem dX1_enlistDrawn_4 : decode cX1_enlistDrawn 4 = .ok (.bipush 6, 2) := by decide +kernel
theorem dX1_enlistDrawn_6 : decode cX1_enlistDrawn 6 = .ok (.irem, 1) := by decide +kernel
theorem dX1_enlistDrawn_7 : decode cX1_enlistDrawn 7 = .ok (.istore_n 1, 1) := by decide +kernel
theorem dX1_enlistDrawn_8 : decode cX1_enlistDrawn 8 = .ok (.aload_n 0, 1) := by decide +kernel
theorem dX1_enlistDrawn_9 : decode cX1_enlistDrawn 9 = .ok (.invokevirtual 60, 3) := by decide +kernel
theorem dX1_enlistDrawn_12 : decode cX1_enlistDrawn 12 = .ok (.bipush 20, 2) := by decide +kernel
theorem dX1_enlistDrawn_14 : decode cX1_enlistDrawn 14 = .ok (.irem, 1) := by decide +kernel
theorem dX1_enlistDrawn_15 : decode cX1_enlistDrawn 15 = .ok (.istore_n 2, 1) := by decide +kernel
theorem dX1_enlistDrawn_16 : decode cX1_enlistDrawn 16 = .ok (.iconst 0, 1) := by decide +kernel
theorem dX1_enlistDrawn_17 : decode cX1_enlistDrawn 17 = .ok (.istore_n 3, 1) := by decide +kernel
theorem dX1_enlistDrawn_18 : decode cX1_enlistDrawn 18 = .ok (.iload_n 3, 1) := by decide +kernel
theorem dX1_enlistDrawn_19 : decode cX1_enlistDrawn 19 = .ok (.bipush 20, 2) := by decide +kernel
theorem dX1_enlistDrawn_21 : decode cX1_enlistDrawn 21 = .ok (.if_icmp .ge 26, 3) := by decide +kernel
theorem dX1_enlistDrawn_24 : decode cX1_enlistDrawn 24 = .ok (.aload_n 0, 1) := by decide +kernel
theorem dX1_enlistDrawn_25 : decode cX1_enlistDrawn 25 = .ok (.iload_n 2, 1) := by decide +kernel
theorem dX1_enlistDrawn_26 : decode cX1_enlistDrawn 26 = .ok (.invokevirtual 66, 3) := by decide +kernel
theorem dX1_enlistDrawn_29 : decode cX1_enlistDrawn 29 = .ok (.ldc 70, 2) := by decide +kernel
theorem dX1_enlistDrawn_31 : decode cX1_enlistDrawn 31 = .ok (.if_icmp .eq 16, 3) := by decide +kernel
theorem dX1_enlistDrawn_34 : decode cX1_enlistDrawn 34 = .ok (.iload_n 2, 1) := by decide +kernel
theorem dX1_enlistDrawn_35 : decode cX1_enlistDrawn 35 = .ok (.iconst 1, 1) := by decide +kernel
theorem dX1_enlistDrawn_36 : decode cX1_enlistDrawn 36 = .ok (.iadd, 1) := by decide +kernel
theorem dX1_enlistDrawn_37 : decode cX1_enlistDrawn 37 = .ok (.bipush 20, 2) := by decide +kernel
theorem dX1_enlistDrawn_39 : decode cX1_enlistDrawn 39 = .ok (.irem, 1) := by decide +kernel
theorem dX1_enlistDrawn_40 : decode cX1_enlistDrawn 40 = .ok (.istore_n 2, 1) := by decide +kernel
theorem dX1_enlistDrawn_41 : decode cX1_enlistDrawn 41 = .ok (.iinc 3 1, 3) := by decide +kernel
theorem dX1_enlistDrawn_44 : decode cX1_enlistDrawn 44 = .ok (.goto (-26), 3) := by decide +kernel
theorem dX1_enlistDrawn_47 : decode cX1_enlistDrawn 47 = .ok (.aload_n 0, 1) := by decide +kernel
theorem dX1_enlistDrawn_48 : decode cX1_enlistDrawn 48 = .ok (.iload_n 1, 1) := by decide +kernel
theorem dX1_enlistDrawn_49 : decode cX1_enlistDrawn 49 = .ok (.iload_n 2, 1) := by decide +kernel
theorem dX1_enlistDrawn_50 : decode cX1_enlistDrawn 50 = .ok (.aload_n 0, 1) := by decide +kernel
theorem dX1_enlistDrawn_51 : decode cX1_enlistDrawn 51 = .ok (.invokevirtual 60, 3) := by decide +kernel
theorem dX1_enlistDrawn_54 : decode cX1_enlistDrawn 54 = .ok (.bipush 60, 2) := by decide +kernel
theorem dX1_enlistDrawn_56 : decode cX1_enlistDrawn 56 = .ok (.irem, 1) := by decide +kernel
theorem dX1_enlistDrawn_57 : decode cX1_enlistDrawn 57 = .ok (.invokevirtual 71, 3) := by decide +kernel
theorem dX1_enlistDrawn_60 : decode cX1_enlistDrawn 60 = .ok (.pop, 1) := by decide +kernel
theorem dX1_enlistDrawn_61 : decode cX1_enlistDrawn 61 = .ok (.return_, 1) := by decide +kernel
theorem dX1_draw_0 : decode cX1_draw 0 = .ok (.aload_n 0, 1) := by decide +kernel
theorem dX1_draw_1 : decode cX1_draw 1 = .ok (.aload_n 0, 1) := by decide +kernel
theorem dX1_draw_2 : decode cX1_draw 2 = .ok (.getfield 40, 3) := by decide +kernel
theorem dX1_draw_5 : decode cX1_draw 5 = .ok (.ldc 75, 2) := by decide +kernel
theorem dX1_draw_7 : decode cX1_draw 7 = .ok (.imul, 1) := by decide +kernel
theorem dX1_draw_8 : decode cX1_draw 8 = .ok (.sipush 12345, 3) := by decide +kernel
theorem dX1_draw_11 : decode cX1_draw 11 = .ok (.iadd, 1) := by decide +kernel
theorem dX1_draw_12 : decode cX1_draw 12 = .ok (.putfield 40, 3) := by decide +kernel
theorem dX1_draw_15 : decode cX1_draw 15 = .ok (.aload_n 0, 1) := by decide +kernel
theorem dX1_draw_16 : decode cX1_draw 16 = .ok (.getfield 40, 3) := by decide +kernel
theorem dX1_draw_19 : decode cX1_draw 19 = .ok (.bipush 8, 2) := by decide +kernel
theorem dX1_draw_21 : decode cX1_draw 21 = .ok (.iushr, 1) := by decide +kernel
theorem dX1_draw_22 : decode cX1_draw 22 = .ok (.ireturn, 1) := by decide +kernel
theorem dX1_ownerOf_0 : decode cX1_ownerOf 0 = .ok (.iconst 0, 1) := by decide +kernel
theorem dX1_ownerOf_1 : decode cX1_ownerOf 1 = .ok (.istore_n 2, 1) := by decide +kernel
theorem dX1_ownerOf_2 : decode cX1_ownerOf 2 = .ok (.iload_n 2, 1) := by decide +kernel
theorem dX1_ownerOf_3 : decode cX1_ownerOf 3 = .ok (.aload_n 0, 1) := by decide +kernel
theorem dX1_ownerOf_4 : decode cX1_ownerOf 4 = .ok (.getfield 9, 3) := by decide +kernel
theorem dX1_ownerOf_7 : decode cX1_ownerOf 7 = .ok (.if_icmp .ge 21, 3) := by decide +kernel
theorem dX1_ownerOf_10 : decode cX1_ownerOf 10 = .ok (.aload_n 0, 1) := by decide +kernel
theorem dX1_ownerOf_11 : decode cX1_ownerOf 11 = .ok (.getfield 19, 3) := by decide +kernel
theorem dX1_ownerOf_14 : decode cX1_ownerOf 14 = .ok (.iload_n 2, 1) := by decide +kernel
theorem dX1_ownerOf_15 : decode cX1_ownerOf 15 = .ok (.iaload, 1) := by decide +kernel
theorem dX1_ownerOf_16 : decode cX1_ownerOf 16 = .ok (.iload_n 1, 1) := by decide +kernel
theorem dX1_ownerOf_17 : decode cX1_ownerOf 17 = .ok (.if_icmp .ne 5, 3) := by decide +kernel
theorem dX1_ownerOf_20 : decode cX1_ownerOf 20 = .ok (.iload_n 2, 1) := by decide +kernel
theorem dX1_ownerOf_21 : decode cX1_ownerOf 21 = .ok (.ireturn, 1) := by decide +kernel
theorem dX1_ownerOf_22 : decode cX1_ownerOf 22 = .ok (.iinc 2 1, 3) := by decide +kernel
theorem dX1_ownerOf_25 : decode cX1_ownerOf 25 = .ok (.goto (-23), 3) := by decide +kernel
theorem dX1_ownerOf_28 : decode cX1_ownerOf 28 = .ok (.ldc 70, 2) := by decide +kernel
theorem dX1_ownerOf_30 : decode cX1_ownerOf 30 = .ok (.ireturn, 1) := by decide +kernel
theorem dX1_isInSight_0 : decode cX1_isInSight 0 = .ok (.aload_n 0, 1) := by decide +kernel
theorem dX1_isInSight_1 : decode cX1_isInSight 1 = .ok (.getfield 19, 3) := by decide +kernel
theorem dX1_isInSight_4 : decode cX1_isInSight 4 = .ok (.iload_n 1, 1) := by decide +kernel
theorem dX1_isInSight_5 : decode cX1_isInSight 5 = .ok (.iaload, 1) := by decide +kernel
theorem dX1_isInSight_6 : decode cX1_isInSight 6 = .ok (.iload_n 2, 1) := by decide +kernel
theorem dX1_isInSight_7 : decode cX1_isInSight 7 = .ok (.isub, 1) := by decide +kernel
theorem dX1_isInSight_8 : decode cX1_isInSight 8 = .ok (.invokestatic 76, 3) := by decide +kernel
theorem dX1_isInSight_11 : decode cX1_isInSight 11 = .ok (.aload_n 0, 1) := by decide +kernel
theorem dX1_isInSight_12 : decode cX1_isInSight 12 = .ok (.getfield 31, 3) := by decide +kernel
theorem dX1_isInSight_15 : decode cX1_isInSight 15 = .ok (.iconst 0, 1) := by decide +kernel
theorem dX1_isInSight_16 : decode cX1_isInSight 16 = .ok (.iaload, 1) := by decide +kernel
theorem dX1_isInSight_17 : decode cX1_isInSight 17 = .ok (.if_icmp .gt 7, 3) := by decide +kernel
theorem dX1_isInSight_20 : decode cX1_isInSight 20 = .ok (.iconst 1, 1) := by decide +kernel
theorem dX1_isInSight_21 : decode cX1_isInSight 21 = .ok (.goto 4, 3) := by decide +kernel
theorem dX1_isInSight_24 : decode cX1_isInSight 24 = .ok (.iconst 0, 1) := by decide +kernel
theorem dX1_isInSight_25 : decode cX1_isInSight 25 = .ok (.ireturn, 1) := by decide +kernel
theorem dX1_isNear_0 : decode cX1_isNear 0 = .ok (.aload_n 0, 1) := by decide +kernel
theorem dX1_isNear_1 : decode cX1_isNear 1 = .ok (.getfield 19, 3) := by decide +kernel
theorem dX1_isNear_4 : decode cX1_isNear 4 = .ok (.iload_n 1, 1) := by decide +kernel
theorem dX1_isNear_5 : decode cX1_isNear 5 = .ok (.iaload, 1) := by decide +kernel
theorem dX1_isNear_6 : decode cX1_isNear 6 = .ok (.iload_n 2, 1) := by decide +kernel
theorem dX1_isNear_7 : decode cX1_isNear 7 = .ok (.isub, 1) := by decide +kernel
theorem dX1_isNear_8 : decode cX1_isNear 8 = .ok (.invokestatic 76, 3) := by decide +kernel
theorem dX1_isNear_11 : decode cX1_isNear 11 = .ok (.iconst 2, 1) := by decide +kernel
theorem dX1_isNear_12 : decode cX1_isNear 12 = .ok (.if_icmp .gt 7, 3) := by decide +kernel
theorem dX1_isNear_15 : decode cX1_isNear 15 = .ok (.iconst 1, 1) := by decide +kernel
theorem dX1_isNear_16 : decode cX1_isNear 16 = .ok (.goto 4, 3) := by decide +kernel
theorem dX1_isNear_19 : decode cX1_isNear 19 = .ok (.iconst 0, 1) := by decide +kernel
theorem dX1_isNear_20 : decode cX1_isNear 20 = .ok (.ireturn, 1) := by decide +kernel
theorem dX1_looksOf_0 : decode cX1_looksOf 0 = .ok (.aload_n 0, 1) := by decide +kernel
theorem dX1_looksOf_1 : decode cX1_looksOf 1 = .ok (.getfield 46, 3) := by decide +kernel
theorem dX1_looksOf_4 : decode cX1_looksOf 4 = .ok (.iconst 0, 1) := by decide +kernel
theorem dX1_looksOf_5 : decode cX1_looksOf 5 = .ok (.invokevirtual 81, 3) := by decide +kernel
theorem dX1_looksOf_8 : decode cX1_looksOf 8 = .ok (.astore_n 2, 1) := by decide +kernel
theorem dX1_looksOf_9 : decode cX1_looksOf 9 = .ok (.aload_n 2, 1) := by decide +kernel
theorem dX1_looksOf_10 : decode cX1_looksOf 10 = .ok (.ifnonnull 17, 3) := by decide +kernel
theorem dX1_looksOf_13 : decode cX1_looksOf 13 = .ok (.bipush 60, 2) := by decide +kernel
theorem dX1_looksOf_15 : decode cX1_looksOf 15 = .ok (.aload_n 0, 1) := by decide +kernel
theorem dX1_looksOf_16 : decode cX1_looksOf 16 = .ok (.getfield 22, 3) := by decide +kernel
theorem dX1_looksOf_19 : decode cX1_looksOf 19 = .ok (.iload_n 1, 1) := by decide +kernel
theorem dX1_looksOf_20 : decode cX1_looksOf 20 = .ok (.iaload, 1) := by decide +kernel
theorem dX1_looksOf_21 : decode cX1_looksOf 21 = .ok (.iconst 2, 1) := by decide +kernel
theorem dX1_looksOf_22 : decode cX1_looksOf 22 = .ok (.idiv, 1) := by decide +kernel
theorem dX1_looksOf_23 : decode cX1_looksOf 23 = .ok (.isub, 1) := by decide +kernel
theorem dX1_looksOf_24 : decode cX1_looksOf 24 = .ok (.goto 28, 3) := by decide +kernel
theorem dX1_looksOf_27 : decode cX1_looksOf 27 = .ok (.aload_n 2, 1) := by decide +kernel
theorem dX1_looksOf_28 : decode cX1_looksOf 28 = .ok (.aload_n 0, 1) := by decide +kernel
theorem dX1_looksOf_29 : decode cX1_looksOf 29 = .ok (.getfield 22, 3) := by decide +kernel
theorem dX1_looksOf_32 : decode cX1_looksOf 32 = .ok (.iload_n 1, 1) := by decide +kernel
theorem dX1_looksOf_33 : decode cX1_looksOf 33 = .ok (.iaload, 1) := by decide +kernel
theorem dX1_looksOf_34 : decode cX1_looksOf 34 = .ok (.aload_n 0, 1) := by decide +kernel
theorem dX1_looksOf_35 : decode cX1_looksOf 35 = .ok (.getfield 25, 3) := by decide +kernel
theorem dX1_looksOf_38 : decode cX1_looksOf 38 = .ok (.iload_n 1, 1) := by decide +kernel
theorem dX1_looksOf_39 : decode cX1_looksOf 39 = .ok (.iaload, 1) := by decide +kernel
theorem dX1_looksOf_40 : decode cX1_looksOf 40 = .ok (.aload_n 0, 1) := by decide +kernel
theorem dX1_looksOf_41 : decode cX1_looksOf 41 = .ok (.getfield 19, 3) := by decide +kernel
theorem dX1_looksOf_44 : decode cX1_looksOf 44 = .ok (.iload_n 1, 1) := by decide +kernel
theorem dX1_looksOf_45 : decode cX1_looksOf 45 = .ok (.iaload, 1) := by decide +kernel
theorem dX1_looksOf_46 : decode cX1_looksOf 46 = .ok (.invokevirtual 85, 3) := by decide +kernel
theorem dX1_looksOf_49 : decode cX1_looksOf 49 = .ok (.invokestatic 90, 3) := by decide +kernel
theorem dX1_looksOf_52 : decode cX1_looksOf 52 = .ok (.istore_n 3, 1) := by decide +kernel
theorem dX1_looksOf_53 : decode cX1_looksOf 53 = .ok (.aload_n 0, 1) := by decide +kernel
theorem dX1_looksOf_54 : decode cX1_looksOf 54 = .ok (.getfield 15, 3) := by decide +kernel
theorem dX1_looksOf_57 : decode cX1_looksOf 57 = .ok (.iload_n 1, 1) := by decide +kernel
theorem dX1_looksOf_58 : decode cX1_looksOf 58 = .ok (.iaload, 1) := by decide +kernel
theorem dX1_looksOf_59 : decode cX1_looksOf 59 = .ok (.iload_n 3, 1) := by decide +kernel
theorem dX1_looksOf_60 : decode cX1_looksOf 60 = .ok (.aload_n 0, 1) := by decide +kernel
theorem dX1_looksOf_61 : decode cX1_looksOf 61 = .ok (.getfield 37, 3) := by decide +kernel
theorem dX1_looksOf_64 : decode cX1_looksOf 64 = .ok (.invokestatic 93, 3) := by decide +kernel
theorem dX1_looksOf_67 : decode cX1_looksOf 67 = .ok (.ireturn, 1) := by decide +kernel
theorem dX1_counted_0 : decode cX1_counted 0 = .ok (.iconst 0, 1) := by decide +kernel
theorem dX1_counted_1 : decode cX1_counted 1 = .ok (.istore_n 1, 1) := by decide +kernel
theorem dX1_counted_2 : decode cX1_counted 2 = .ok (.iconst 0, 1) := by decide +kernel
theorem dX1_counted_3 : decode cX1_counted 3 = .ok (.istore_n 2, 1) := by decide +kernel
theorem dX1_counted_4 : decode cX1_counted 4 = .ok (.iload_n 2, 1) := by decide +kernel
theorem dX1_counted_5 : decode cX1_counted 5 = .ok (.aload_n 0, 1) := by decide +kernel
theorem dX1_counted_6 : decode cX1_counted 6 = .ok (.getfield 9, 3) := by decide +kernel
theorem dX1_counted_9 : decode cX1_counted 9 = .ok (.if_icmp .ge 38, 3) := by decide +kernel
theorem dX1_counted_12 : decode cX1_counted 12 = .ok (.aload_n 0, 1) := by decide +kernel
theorem dX1_counted_13 : decode cX1_counted 13 = .ok (.getfield 28, 3) := by decide +kernel
theorem dX1_counted_16 : decode cX1_counted 16 = .ok (.iload_n 2, 1) := by decide +kernel
theorem dX1_counted_17 : decode cX1_counted 17 = .ok (.iaload, 1) := by decide +kernel
theorem dX1_counted_18 : decode cX1_counted 18 = .ok (.iconst 1, 1) := by decide +kernel
theorem dX1_counted_19 : decode cX1_counted 19 = .ok (.if_icmp .ne 22, 3) := by decide +kernel
theorem dX1_counted_22 : decode cX1_counted 22 = .ok (.aload_n 0, 1) := by decide +kernel
theorem dX1_counted_23 : decode cX1_counted 23 = .ok (.getfield 25, 3) := by decide +kernel
theorem dX1_counted_26 : decode cX1_counted 26 = .ok (.iload_n 2, 1) := by decide +kernel
theorem dX1_counted_27 : decode cX1_counted 27 = .ok (.iaload, 1) := by decide +kernel
theorem dX1_counted_28 : decode cX1_counted 28 = .ok (.bipush 50, 2) := by decide +kernel
theorem dX1_counted_30 : decode cX1_counted 30 = .ok (.if_icmp .ge 11, 3) := by decide +kernel
theorem dX1_counted_33 : decode cX1_counted 33 = .ok (.iload_n 1, 1) := by decide +kernel
theorem dX1_counted_34 : decode cX1_counted 34 = .ok (.aload_n 0, 1) := by decide +kernel
theorem dX1_counted_35 : decode cX1_counted 35 = .ok (.iload_n 2, 1) := by decide +kernel
theorem dX1_counted_36 : decode cX1_counted 36 = .ok (.invokevirtual 96, 3) := by decide +kernel
theorem dX1_counted_39 : decode cX1_counted 39 = .ok (.iadd, 1) := by decide +kernel
theorem dX1_counted_40 : decode cX1_counted 40 = .ok (.istore_n 1, 1) := by decide +kernel
theorem dX1_counted_41 : decode cX1_counted 41 = .ok (.iinc 2 1, 3) := by decide +kernel
theorem dX1_counted_44 : decode cX1_counted 44 = .ok (.goto (-40), 3) := by decide +kernel
theorem dX1_counted_47 : decode cX1_counted 47 = .ok (.iload_n 1, 1) := by decide +kernel
theorem dX1_counted_48 : decode cX1_counted 48 = .ok (.ireturn, 1) := by decide +kernel
theorem dX1_strength_0 : decode cX1_strength 0 = .ok (.iconst 0, 1) := by decide +kernel
theorem dX1_strength_1 : decode cX1_strength 1 = .ok (.istore_n 1, 1) := by decide +kernel
theorem dX1_strength_2 : decode cX1_strength 2 = .ok (.iconst 0, 1) := by decide +kernel
theorem dX1_strength_3 : decode cX1_strength 3 = .ok (.istore_n 2, 1) := by decide +kernel
theorem dX1_strength_4 : decode cX1_strength 4 = .ok (.iload_n 2, 1) := by decide +kernel
theorem dX1_strength_5 : decode cX1_strength 5 = .ok (.aload_n 0, 1) := by decide +kernel
theorem dX1_strength_6 : decode cX1_strength 6 = .ok (.getfield 9, 3) := by decide +kernel
theorem dX1_strength_9 : decode cX1_strength 9 = .ok (.if_icmp .ge 31, 3) := by decide +kernel
theorem dX1_strength_12 : decode cX1_strength 12 = .ok (.aload_n 0, 1) := by decide +kernel
theorem dX1_strength_13 : decode cX1_strength 13 = .ok (.getfield 28, 3) := by decide +kernel
theorem dX1_strength_16 : decode cX1_strength 16 = .ok (.iload_n 2, 1) := by decide +kernel
theorem dX1_strength_17 : decode cX1_strength 17 = .ok (.iaload, 1) := by decide +kernel
theorem dX1_strength_18 : decode cX1_strength 18 = .ok (.iconst 1, 1) := by decide +kernel
theorem dX1_strength_19 : decode cX1_strength 19 = .ok (.if_icmp .ne 15, 3) := by decide +kernel
theorem dX1_strength_22 : decode cX1_strength 22 = .ok (.iload_n 1, 1) := by decide +kernel
theorem dX1_strength_23 : decode cX1_strength 23 = .ok (.aload_n 0, 1) := by decide +kernel
theorem dX1_strength_24 : decode cX1_strength 24 = .ok (.getfield 15, 3) := by decide +kernel
theorem dX1_strength_27 : decode cX1_strength 27 = .ok (.iload_n 2, 1) := by decide +kernel
theorem dX1_strength_28 : decode cX1_strength 28 = .ok (.iaload, 1) := by decide +kernel
theorem dX1_strength_29 : decode cX1_strength 29 = .ok (.invokestatic 99, 3) := by decide +kernel
theorem dX1_strength_32 : decode cX1_strength 32 = .ok (.iadd, 1) := by decide +kernel
theorem dX1_strength_33 : decode cX1_strength 33 = .ok (.istore_n 1, 1) := by decide +kernel
theorem dX1_strength_34 : decode cX1_strength 34 = .ok (.iinc 2 1, 3) := by decide +kernel
theorem dX1_strength_37 : decode cX1_strength 37 = .ok (.goto (-33), 3) := by decide +kernel
theorem dX1_strength_40 : decode cX1_strength 40 = .ok (.iload_n 1, 1) := by decide +kernel
theorem dX1_strength_41 : decode cX1_strength 41 = .ok (.ireturn, 1) := by decide +kernel
theorem dX1_downBits_0 : decode cX1_downBits 0 = .ok (.iconst 0, 1) := by decide +kernel
theorem dX1_downBits_1 : decode cX1_downBits 1 = .ok (.istore_n 1, 1) := by decide +kernel
theorem dX1_downBits_2 : decode cX1_downBits 2 = .ok (.iconst 0, 1) := by decide +kernel
theorem dX1_downBits_3 : decode cX1_downBits 3 = .ok (.istore_n 2, 1) := by decide +kernel
theorem dX1_downBits_4 : decode cX1_downBits 4 = .ok (.iload_n 2, 1) := by decide +kernel
theorem dX1_downBits_5 : decode cX1_downBits 5 = .ok (.aload_n 0, 1) := by decide +kernel
theorem dX1_downBits_6 : decode cX1_downBits 6 = .ok (.getfield 9, 3) := by decide +kernel
theorem dX1_downBits_9 : decode cX1_downBits 9 = .ok (.if_icmp .ge 24, 3) := by decide +kernel
theorem dX1_downBits_12 : decode cX1_downBits 12 = .ok (.aload_n 0, 1) := by decide +kernel
theorem dX1_downBits_13 : decode cX1_downBits 13 = .ok (.getfield 28, 3) := by decide +kernel
theorem dX1_downBits_16 : decode cX1_downBits 16 = .ok (.iload_n 2, 1) := by decide +kernel
theorem dX1_downBits_17 : decode cX1_downBits 17 = .ok (.iaload, 1) := by decide +kernel
theorem dX1_downBits_18 : decode cX1_downBits 18 = .ok (.ifCond .ne 9, 3) := by decide +kernel
theorem dX1_downBits_21 : decode cX1_downBits 21 = .ok (.iload_n 1, 1) := by decide +kernel
theorem dX1_downBits_22 : decode cX1_downBits 22 = .ok (.iconst 1, 1) := by decide +kernel
theorem dX1_downBits_23 : decode cX1_downBits 23 = .ok (.iload_n 2, 1) := by decide +kernel
theorem dX1_downBits_24 : decode cX1_downBits 24 = .ok (.ishl, 1) := by decide +kernel
theorem dX1_downBits_25 : decode cX1_downBits 25 = .ok (.ior, 1) := by decide +kernel
theorem dX1_downBits_26 : decode cX1_downBits 26 = .ok (.istore_n 1, 1) := by decide +kernel
theorem dX1_downBits_27 : decode cX1_downBits 27 = .ok (.iinc 2 1, 3) := by decide +kernel
theorem dX1_downBits_30 : decode cX1_downBits 30 = .ok (.goto (-26), 3) := by decide +kernel
theorem dX1_downBits_33 : decode cX1_downBits 33 = .ok (.iload_n 1, 1) := by decide +kernel
theorem dX1_downBits_34 : decode cX1_downBits 34 = .ok (.ireturn, 1) := by decide +kernel
theorem dX1_doubts_0 : decode cX1_doubts 0 = .ok (.iconst 0, 1) := by decide +kernel
theorem dX1_doubts_1 : decode cX1_doubts 1 = .ok (.istore_n 1, 1) := by decide +kernel
theorem dX1_doubts_2 : decode cX1_doubts 2 = .ok (.iconst 0, 1) := by decide +kernel
theorem dX1_doubts_3 : decode cX1_doubts 3 = .ok (.istore_n 2, 1) := by decide +kernel
theorem dX1_doubts_4 : decode cX1_doubts 4 = .ok (.iload_n 2, 1) := by decide +kernel
theorem dX1_doubts_5 : decode cX1_doubts 5 = .ok (.aload_n 0, 1) := by decide +kernel
theorem dX1_doubts_6 : decode cX1_doubts 6 = .ok (.getfield 9, 3) := by decide +kernel
theorem dX1_doubts_9 : decode cX1_doubts 9 = .ok (.if_icmp .ge 18, 3) := by decide +kernel
theorem dX1_doubts_12 : decode cX1_doubts 12 = .ok (.iload_n 1, 1) := by decide +kernel
theorem dX1_doubts_13 : decode cX1_doubts 13 = .ok (.aload_n 0, 1) := by decide +kernel
theorem dX1_doubts_14 : decode cX1_doubts 14 = .ok (.getfield 25, 3) := by decide +kernel
theorem dX1_doubts_17 : decode cX1_doubts 17 = .ok (.iload_n 2, 1) := by decide +kernel
theorem dX1_doubts_18 : decode cX1_doubts 18 = .ok (.iaload, 1) := by decide +kernel
theorem dX1_doubts_19 : decode cX1_doubts 19 = .ok (.iadd, 1) := by decide +kernel
theorem dX1_doubts_20 : decode cX1_doubts 20 = .ok (.istore_n 1, 1) := by decide +kernel
theorem dX1_doubts_21 : decode cX1_doubts 21 = .ok (.iinc 2 1, 3) := by decide +kernel
theorem dX1_doubts_24 : decode cX1_doubts 24 = .ok (.goto (-20), 3) := by decide +kernel
theorem dX1_doubts_27 : decode cX1_doubts 27 = .ok (.iload_n 1, 1) := by decide +kernel
theorem dX1_doubts_28 : decode cX1_doubts 28 = .ok (.ireturn, 1) := by decide +kernel
theorem dX1_othersNear_0 : decode cX1_othersNear 0 = .ok (.iconst 0, 1) := by decide +kernel
theorem dX1_othersNear_1 : decode cX1_othersNear 1 = .ok (.istore_n 3, 1) := by decide +kernel
theorem dX1_othersNear_2 : decode cX1_othersNear 2 = .ok (.iconst 0, 1) := by decide +kernel
theorem dX1_othersNear_3 : decode cX1_othersNear 3 = .ok (.istore 4, 2) := by decide +kernel
theorem dX1_othersNear_5 : decode cX1_othersNear 5 = .ok (.iload 4, 2) := by decide +kernel
theorem dX1_othersNear_7 : decode cX1_othersNear 7 = .ok (.aload_n 0, 1) := by decide +kernel
theorem dX1_othersNear_8 : decode cX1_othersNear 8 = .ok (.getfield 9, 3) := by decide +kernel
theorem dX1_othersNear_11 : decode cX1_othersNear 11 = .ok (.if_icmp .ge 41, 3) := by decide +kernel
theorem dX1_othersNear_14 : decode cX1_othersNear 14 = .ok (.iload 4, 2) := by decide +kernel
theorem dX1_othersNear_16 : decode cX1_othersNear 16 = .ok (.iload_n 1, 1) := by decide +kernel
theorem dX1_othersNear_17 : decode cX1_othersNear 17 = .ok (.if_icmp .eq 29, 3) := by decide +kernel
theorem dX1_othersNear_20 : decode cX1_othersNear 20 = .ok (.aload_n 0, 1) := by decide +kernel
theorem dX1_othersNear_21 : decode cX1_othersNear 21 = .ok (.getfield 15, 3) := by decide +kernel
theorem dX1_othersNear_24 : decode cX1_othersNear 24 = .ok (.iload 4, 2) := by decide +kernel
theorem dX1_othersNear_26 : decode cX1_othersNear 26 = .ok (.iaload, 1) := by decide +kernel
theorem dX1_othersNear_27 : decode cX1_othersNear 27 = .ok (.invokestatic 102, 3) := by decide +kernel
theorem dX1_othersNear_30 : decode cX1_othersNear 30 = .ok (.ifCond .ne 16, 3) := by decide +kernel
theorem dX1_othersNear_33 : decode cX1_othersNear 33 = .ok (.aload_n 0, 1) := by decide +kernel
theorem dX1_othersNear_34 : decode cX1_othersNear 34 = .ok (.iload 4, 2) := by decide +kernel
theorem dX1_othersNear_36 : decode cX1_othersNear 36 = .ok (.iload_n 2, 1) := by decide +kernel
theorem dX1_othersNear_37 : decode cX1_othersNear 37 = .ok (.invokevirtual 106, 3) := by decide +kernel
theorem dX1_othersNear_40 : decode cX1_othersNear 40 = .ok (.ifCond .eq 6, 3) := by decide +kernel
theorem dX1_othersNear_43 : decode cX1_othersNear 43 = .ok (.iinc 3 1, 3) := by decide +kernel
theorem dX1_othersNear_46 : decode cX1_othersNear 46 = .ok (.iinc 4 1, 3) := by decide +kernel
theorem dX1_othersNear_49 : decode cX1_othersNear 49 = .ok (.goto (-44), 3) := by decide +kernel
theorem dX1_othersNear_52 : decode cX1_othersNear 52 = .ok (.iload_n 3, 1) := by decide +kernel
theorem dX1_othersNear_53 : decode cX1_othersNear 53 = .ok (.ireturn, 1) := by decide +kernel
theorem dX1_passNight_0 : decode cX1_passNight 0 = .ok (.aload_n 0, 1) := by decide +kernel
theorem dX1_passNight_1 : decode cX1_passNight 1 = .ok (.aload_n 0, 1) := by decide +kernel
theorem dX1_passNight_2 : decode cX1_passNight 2 = .ok (.invokevirtual 60, 3) := by decide +kernel
theorem dX1_passNight_5 : decode cX1_passNight 5 = .ok (.bipush 100, 2) := by decide +kernel
theorem dX1_passNight_7 : decode cX1_passNight 7 = .ok (.irem, 1) := by decide +kernel
theorem dX1_passNight_8 : decode cX1_passNight 8 = .ok (.invokevirtual 110, 3) := by decide +kernel
theorem dX1_passNight_11 : decode cX1_passNight 11 = .ok (.aload_n 0, 1) := by decide +kernel
theorem dX1_passNight_12 : decode cX1_passNight 12 = .ok (.invokevirtual 114, 3) := by decide +kernel
theorem dX1_passNight_15 : decode cX1_passNight 15 = .ok (.aload_n 0, 1) := by decide +kernel
theorem dX1_passNight_16 : decode cX1_passNight 16 = .ok (.aload_n 0, 1) := by decide +kernel
theorem dX1_passNight_17 : decode cX1_passNight 17 = .ok (.invokevirtual 60, 3) := by decide +kernel
theorem dX1_passNight_20 : decode cX1_passNight 20 = .ok (.bipush 20, 2) := by decide +kernel
theorem dX1_passNight_22 : decode cX1_passNight 22 = .ok (.irem, 1) := by decide +kernel
theorem dX1_passNight_23 : decode cX1_passNight 23 = .ok (.invokevirtual 117, 3) := by decide +kernel
theorem dX1_passNight_26 : decode cX1_passNight 26 = .ok (.aload_n 0, 1) := by decide +kernel
theorem dX1_passNight_27 : decode cX1_passNight 27 = .ok (.invokevirtual 60, 3) := by decide +kernel
theorem dX1_passNight_30 : decode cX1_passNight 30 = .ok (.bipush 100, 2) := by decide +kernel
theorem dX1_passNight_32 : decode cX1_passNight 32 = .ok (.irem, 1) := by decide +kernel
theorem dX1_passNight_33 : decode cX1_passNight 33 = .ok (.aload_n 0, 1) := by decide +kernel
theorem dX1_passNight_34 : decode cX1_passNight 34 = .ok (.getfield 31, 3) := by decide +kernel
theorem dX1_passNight_37 : decode cX1_passNight 37 = .ok (.iconst 1, 1) := by decide +kernel
theorem dX1_passNight_38 : decode cX1_passNight 38 = .ok (.iaload, 1) := by decide +kernel
theorem dX1_passNight_39 : decode cX1_passNight 39 = .ok (.if_icmp .ge 7, 3) := by decide +kernel
theorem dX1_passNight_42 : decode cX1_passNight 42 = .ok (.aload_n 0, 1) := by decide +kernel
theorem dX1_passNight_43 : decode cX1_passNight 43 = .ok (.invokevirtual 120, 3) := by decide +kernel
theorem dX1_passNight_46 : decode cX1_passNight 46 = .ok (.aload_n 0, 1) := by decide +kernel
theorem dX1_passNight_47 : decode cX1_passNight 47 = .ok (.invokevirtual 123, 3) := by decide +kernel
theorem dX1_passNight_50 : decode cX1_passNight 50 = .ok (.aload_n 0, 1) := by decide +kernel
theorem dX1_passNight_51 : decode cX1_passNight 51 = .ok (.getfield 31, 3) := by decide +kernel
theorem dX1_passNight_54 : decode cX1_passNight 54 = .ok (.iconst 2, 1) := by decide +kernel
theorem dX1_passNight_55 : decode cX1_passNight 55 = .ok (.iaload, 1) := by decide +kernel
theorem dX1_passNight_56 : decode cX1_passNight 56 = .ok (.if_icmp .ge 7, 3) := by decide +kernel
theorem dX1_passNight_59 : decode cX1_passNight 59 = .ok (.iconst 1, 1) := by decide +kernel
theorem dX1_passNight_60 : decode cX1_passNight 60 = .ok (.goto 4, 3) := by decide +kernel
theorem dX1_passNight_63 : decode cX1_passNight 63 = .ok (.iconst 0, 1) := by decide +kernel
theorem dX1_passNight_64 : decode cX1_passNight 64 = .ok (.istore_n 1, 1) := by decide +kernel
theorem dX1_passNight_65 : decode cX1_passNight 65 = .ok (.iload_n 1, 1) := by decide +kernel
theorem dX1_passNight_66 : decode cX1_passNight 66 = .ok (.ifCond .eq 30, 3) := by decide +kernel
theorem dX1_passNight_69 : decode cX1_passNight 69 = .ok (.aload_n 0, 1) := by decide +kernel
theorem dX1_passNight_70 : decode cX1_passNight 70 = .ok (.getfield 34, 3) := by decide +kernel
theorem dX1_passNight_73 : decode cX1_passNight 73 = .ok (.aload_n 0, 1) := by decide +kernel
theorem dX1_passNight_74 : decode cX1_passNight 74 = .ok (.invokevirtual 126, 3) := by decide +kernel
theorem dX1_passNight_77 : decode cX1_passNight 77 = .ok (.aload_n 0, 1) := by decide +kernel
theorem dX1_passNight_78 : decode cX1_passNight 78 = .ok (.getfield 31, 3) := by decide +kernel
theorem dX1_passNight_81 : decode cX1_passNight 81 = .ok (.iconst 3, 1) := by decide +kernel
theorem dX1_passNight_82 : decode cX1_passNight 82 = .ok (.iaload, 1) := by decide +kernel
theorem dX1_passNight_83 : decode cX1_passNight 83 = .ok (.if_icmp .lt 7, 3) := by decide +kernel
theorem dX1_passNight_86 : decode cX1_passNight 86 = .ok (.iconst 1, 1) := by decide +kernel
theorem dX1_passNight_87 : decode cX1_passNight 87 = .ok (.goto 4, 3) := by decide +kernel
theorem dX1_passNight_90 : decode cX1_passNight 90 = .ok (.iconst 2, 1) := by decide +kernel
theorem dX1_passNight_91 : decode cX1_passNight 91 = .ok (.dup2, 1) := by decide +kernel
theorem dX1_passNight_92 : decode cX1_passNight 92 = .ok (.iaload, 1) := by decide +kernel
theorem dX1_passNight_93 : decode cX1_passNight 93 = .ok (.iconst 1, 1) := by decide +kernel
theorem dX1_passNight_94 : decode cX1_passNight 94 = .ok (.iadd, 1) := by decide +kernel
theorem dX1_passNight_95 : decode cX1_passNight 95 = .ok (.iastore, 1) := by decide +kernel
theorem dX1_passNight_96 : decode cX1_passNight 96 = .ok (.aload_n 0, 1) := by decide +kernel
theorem dX1_passNight_97 : decode cX1_passNight 97 = .ok (.dup, 1) := by decide +kernel
theorem dX1_passNight_98 : decode cX1_passNight 98 = .ok (.getfield 37, 3) := by decide +kernel
theorem dX1_passNight_101 : decode cX1_passNight 101 = .ok (.iconst 1, 1) := by decide +kernel
theorem dX1_passNight_102 : decode cX1_passNight 102 = .ok (.iadd, 1) := by decide +kernel
theorem dX1_passNight_103 : decode cX1_passNight 103 = .ok (.putfield 37, 3) := by decide +kernel
theorem dX1_passNight_106 : decode cX1_passNight 106 = .ok (.iload_n 1, 1) := by decide +kernel
theorem dX1_passNight_107 : decode cX1_passNight 107 = .ok (.ireturn, 1) := by decide +kernel
theorem dX1_blow_0 : decode cX1_blow 0 = .ok (.iconst 0, 1) := by decide +kernel
theorem dX1_blow_1 : decode cX1_blow 1 = .ok (.istore_n 2, 1) := by decide +kernel
theorem dX1_blow_2 : decode cX1_blow 2 = .ok (.iload_n 2, 1) := by decide +kernel
theorem dX1_blow_3 : decode cX1_blow 3 = .ok (.aload_n 0, 1) := by decide +kernel
theorem dX1_blow_4 : decode cX1_blow 4 = .ok (.getfield 9, 3) := by decide +kernel
theorem dX1_blow_7 : decode cX1_blow 7 = .ok (.if_icmp .ge 55, 3) := by decide +kernel
theorem dX1_blow_10 : decode cX1_blow 10 = .ok (.aload_n 0, 1) := by decide +kernel
theorem dX1_blow_11 : decode cX1_blow 11 = .ok (.getfield 28, 3) := by decide +kernel
theorem dX1_blow_14 : decode cX1_blow 14 = .ok (.iload_n 2, 1) := by decide +kernel
theorem dX1_blow_15 : decode cX1_blow 15 = .ok (.iaload, 1) := by decide +kernel
theorem dX1_blow_16 : decode cX1_blow 16 = .ok (.iconst 1, 1) := by decide +kernel
theorem dX1_blow_17 : decode cX1_blow 17 = .ok (.if_icmp .ne 39, 3) := by decide +kernel
theorem dX1_blow_20 : decode cX1_blow 20 = .ok (.aload_n 0, 1) := by decide +kernel
theorem dX1_blow_21 : decode cX1_blow 21 = .ok (.getfield 15, 3) := by decide +kernel
theorem dX1_blow_24 : decode cX1_blow 24 = .ok (.iload_n 2, 1) := by decide +kernel
theorem dX1_blow_25 : decode cX1_blow 25 = .ok (.iaload, 1) := by decide +kernel
theorem dX1_blow_26 : decode cX1_blow 26 = .ok (.aload_n 0, 1) := by decide +kernel
theorem dX1_blow_27 : decode cX1_blow 27 = .ok (.getfield 22, 3) := by decide +kernel
theorem dX1_blow_30 : decode cX1_blow 30 = .ok (.iload_n 2, 1) := by decide +kernel
theorem dX1_blow_31 : decode cX1_blow 31 = .ok (.iaload, 1) := by decide +kernel
theorem dX1_blow_32 : decode cX1_blow 32 = .ok (.invokestatic 129, 3) := by decide +kernel
theorem dX1_blow_35 : decode cX1_blow 35 = .ok (.iload_n 1, 1) := by decide +kernel
theorem dX1_blow_36 : decode cX1_blow 36 = .ok (.if_icmp .le 20, 3) := by decide +kernel
theorem dX1_blow_39 : decode cX1_blow 39 = .ok (.aload_n 0, 1) := by decide +kernel
theorem dX1_blow_40 : decode cX1_blow 40 = .ok (.getfield 28, 3) := by decide +kernel
theorem dX1_blow_43 : decode cX1_blow 43 = .ok (.iload_n 2, 1) := by decide +kernel
theorem dX1_blow_44 : decode cX1_blow 44 = .ok (.iconst 0, 1) := by decide +kernel
theorem dX1_blow_45 : decode cX1_blow 45 = .ok (.iastore, 1) := by decide +kernel
theorem dX1_blow_46 : decode cX1_blow 46 = .ok (.aload_n 0, 1) := by decide +kernel
theorem dX1_blow_47 : decode cX1_blow 47 = .ok (.getfield 34, 3) := by decide +kernel
theorem dX1_blow_50 : decode cX1_blow 50 = .ok (.iconst 0, 1) := by decide +kernel
theorem dX1_blow_51 : decode cX1_blow 51 = .ok (.dup2, 1) := by decide +kernel
theorem dX1_blow_52 : decode cX1_blow 52 = .ok (.iaload, 1) := by decide +kernel
theorem dX1_blow_53 : decode cX1_blow 53 = .ok (.iconst 1, 1) := by decide +kernel
theorem dX1_blow_54 : decode cX1_blow 54 = .ok (.iadd, 1) := by decide +kernel
theorem dX1_blow_55 : decode cX1_blow 55 = .ok (.iastore, 1) := by decide +kernel
theorem dX1_blow_56 : decode cX1_blow 56 = .ok (.iinc 2 1, 3) := by decide +kernel
theorem dX1_blow_59 : decode cX1_blow 59 = .ok (.goto (-57), 3) := by decide +kernel
theorem dX1_blow_62 : decode cX1_blow 62 = .ok (.return_, 1) := by decide +kernel
theorem dX1_setUp_0 : decode cX1_setUp 0 = .ok (.iconst 0, 1) := by decide +kernel
theorem dX1_setUp_1 : decode cX1_setUp 1 = .ok (.istore_n 1, 1) := by decide +kernel
theorem dX1_setUp_2 : decode cX1_setUp 2 = .ok (.iload_n 1, 1) := by decide +kernel
theorem dX1_setUp_3 : decode cX1_setUp 3 = .ok (.aload_n 0, 1) := by decide +kernel
theorem dX1_setUp_4 : decode cX1_setUp 4 = .ok (.getfield 9, 3) := by decide +kernel
theorem dX1_setUp_7 : decode cX1_setUp 7 = .ok (.if_icmp .ge 41, 3) := by decide +kernel
theorem dX1_setUp_10 : decode cX1_setUp 10 = .ok (.aload_n 0, 1) := by decide +kernel
theorem dX1_setUp_11 : decode cX1_setUp 11 = .ok (.getfield 28, 3) := by decide +kernel
theorem dX1_setUp_14 : decode cX1_setUp 14 = .ok (.iload_n 1, 1) := by decide +kernel
theorem dX1_setUp_15 : decode cX1_setUp 15 = .ok (.iaload, 1) := by decide +kernel
theorem dX1_setUp_16 : decode cX1_setUp 16 = .ok (.iconst 1, 1) := by decide +kernel
theorem dX1_setUp_17 : decode cX1_setUp 17 = .ok (.if_icmp .ne 25, 3) := by decide +kernel
theorem dX1_setUp_20 : decode cX1_setUp 20 = .ok (.aload_n 0, 1) := by decide +kernel
theorem dX1_setUp_21 : decode cX1_setUp 21 = .ok (.getfield 15, 3) := by decide +kernel
theorem dX1_setUp_24 : decode cX1_setUp 24 = .ok (.iload_n 1, 1) := by decide +kernel
theorem dX1_setUp_25 : decode cX1_setUp 25 = .ok (.iaload, 1) := by decide +kernel
theorem dX1_setUp_26 : decode cX1_setUp 26 = .ok (.invokestatic 102, 3) := by decide +kernel
theorem dX1_setUp_29 : decode cX1_setUp 29 = .ok (.ifCond .eq 13, 3) := by decide +kernel
theorem dX1_setUp_32 : decode cX1_setUp 32 = .ok (.aload_n 0, 1) := by decide +kernel
theorem dX1_setUp_33 : decode cX1_setUp 33 = .ok (.aload_n 0, 1) := by decide +kernel
theorem dX1_setUp_34 : decode cX1_setUp 34 = .ok (.getfield 19, 3) := by decide +kernel
theorem dX1_setUp_37 : decode cX1_setUp 37 = .ok (.iload_n 1, 1) := by decide +kernel
theorem dX1_setUp_38 : decode cX1_setUp 38 = .ok (.iaload, 1) := by decide +kernel
theorem dX1_setUp_39 : decode cX1_setUp 39 = .ok (.invokevirtual 133, 3) := by decide +kernel
theorem dX1_setUp_42 : decode cX1_setUp 42 = .ok (.iinc 1 1, 3) := by decide +kernel
theorem dX1_setUp_45 : decode cX1_setUp 45 = .ok (.goto (-43), 3) := by decide +kernel
theorem dX1_setUp_48 : decode cX1_setUp 48 = .ok (.return_, 1) := by decide +kernel
theorem dX1_setUpFirstNear_0 : decode cX1_setUpFirstNear 0 = .ok (.iconst 0, 1) := by decide +kernel
theorem dX1_setUpFirstNear_1 : decode cX1_setUpFirstNear 1 = .ok (.istore_n 2, 1) := by decide +kernel
theorem dX1_setUpFirstNear_2 : decode cX1_setUpFirstNear 2 = .ok (.iload_n 2, 1) := by decide +kernel
theorem dX1_setUpFirstNear_3 : decode cX1_setUpFirstNear 3 = .ok (.aload_n 0, 1) := by decide +kernel
theorem dX1_setUpFirstNear_4 : decode cX1_setUpFirstNear 4 = .ok (.getfield 9, 3) := by decide +kernel
theorem dX1_setUpFirstNear_7 : decode cX1_setUpFirstNear 7 = .ok (.if_icmp .ge 35, 3) := by decide +kernel
theorem dX1_setUpFirstNear_10 : decode cX1_setUpFirstNear 10 = .ok (.aload_n 0, 1) := by decide +kernel
theorem dX1_setUpFirstNear_11 : decode cX1_setUpFirstNear 11 = .ok (.getfield 28, 3) := by decide +kernel
theorem dX1_setUpFirstNear_14 : decode cX1_setUpFirstNear 14 = .ok (.iload_n 2, 1) := by decide +kernel
theorem dX1_setUpFirstNear_15 : decode cX1_setUpFirstNear 15 = .ok (.iaload, 1) := by decide +kernel
theorem dX1_setUpFirstNear_16 : decode cX1_setUpFirstNear 16 = .ok (.ifCond .ne 20, 3) := by decide +kernel
theorem dX1_setUpFirstNear_19 : decode cX1_setUpFirstNear 19 = .ok (.aload_n 0, 1) := by decide +kernel
theorem dX1_setUpFirstNear_20 : decode cX1_setUpFirstNear 20 = .ok (.iload_n 2, 1) := by decide +kernel
theorem dX1_setUpFirstNear_21 : decode cX1_setUpFirstNear 21 = .ok (.iload_n 1, 1) := by decide +kernel
theorem dX1_setUpFirstNear_22 : decode cX1_setUpFirstNear 22 = .ok (.invokevirtual 106, 3) := by decide +kernel
theorem dX1_setUpFirstNear_25 : decode cX1_setUpFirstNear 25 = .ok (.ifCond .eq 11, 3) := by decide +kernel
theorem dX1_setUpFirstNear_28 : decode cX1_setUpFirstNear 28 = .ok (.aload_n 0, 1) := by decide +kernel
theorem dX1_setUpFirstNear_29 : decode cX1_setUpFirstNear 29 = .ok (.getfield 28, 3) := by decide +kernel
theorem dX1_setUpFirstNear_32 : decode cX1_setUpFirstNear 32 = .ok (.iload_n 2, 1) := by decide +kernel
theorem dX1_setUpFirstNear_33 : decode cX1_setUpFirstNear 33 = .ok (.iconst 1, 1) := by decide +kernel
theorem dX1_setUpFirstNear_34 : decode cX1_setUpFirstNear 34 = .ok (.iastore, 1) := by decide +kernel
theorem dX1_setUpFirstNear_35 : decode cX1_setUpFirstNear 35 = .ok (.return_, 1) := by decide +kernel
theorem dX1_setUpFirstNear_36 : decode cX1_setUpFirstNear 36 = .ok (.iinc 2 1, 3) := by decide +kernel
theorem dX1_setUpFirstNear_39 : decode cX1_setUpFirstNear 39 = .ok (.goto (-37), 3) := by decide +kernel
theorem dX1_setUpFirstNear_42 : decode cX1_setUpFirstNear 42 = .ok (.return_, 1) := by decide +kernel
theorem dX1_watch_0 : decode cX1_watch 0 = .ok (.iconst 0, 1) := by decide +kernel
theorem dX1_watch_1 : decode cX1_watch 1 = .ok (.istore_n 2, 1) := by decide +kernel
theorem dX1_watch_2 : decode cX1_watch 2 = .ok (.iload_n 2, 1) := by decide +kernel
theorem dX1_watch_3 : decode cX1_watch 3 = .ok (.aload_n 0, 1) := by decide +kernel
theorem dX1_watch_4 : decode cX1_watch 4 = .ok (.getfield 9, 3) := by decide +kernel
theorem dX1_watch_7 : decode cX1_watch 7 = .ok (.if_icmp .ge 67, 3) := by decide +kernel
theorem dX1_watch_10 : decode cX1_watch 10 = .ok (.aload_n 0, 1) := by decide +kernel
theorem dX1_watch_11 : decode cX1_watch 11 = .ok (.iload_n 2, 1) := by decide +kernel
theorem dX1_watch_12 : decode cX1_watch 12 = .ok (.iload_n 1, 1) := by decide +kernel
theorem dX1_watch_13 : decode cX1_watch 13 = .ok (.invokevirtual 136, 3) := by decide +kernel
theorem dX1_watch_16 : decode cX1_watch 16 = .ok (.ifCond .eq 52, 3) := by decide +kernel
theorem dX1_watch_19 : decode cX1_watch 19 = .ok (.aload_n 0, 1) := by decide +kernel
theorem dX1_watch_20 : decode cX1_watch 20 = .ok (.getfield 28, 3) := by decide +kernel
theorem dX1_watch_23 : decode cX1_watch 23 = .ok (.iload_n 2, 1) := by decide +kernel
theorem dX1_watch_24 : decode cX1_watch 24 = .ok (.iaload, 1) := by decide +kernel
theorem dX1_watch_25 : decode cX1_watch 25 = .ok (.ifCond .ne 8, 3) := by decide +kernel
theorem dX1_watch_28 : decode cX1_watch 28 = .ok (.bipush 20, 2) := by decide +kernel
theorem dX1_watch_30 : decode cX1_watch 30 = .ok (.goto 20, 3) := by decide +kernel
theorem dX1_watch_33 : decode cX1_watch 33 = .ok (.aload_n 0, 1) := by decide +kernel
theorem dX1_watch_34 : decode cX1_watch 34 = .ok (.iload_n 2, 1) := by decide +kernel
theorem dX1_watch_35 : decode cX1_watch 35 = .ok (.invokevirtual 96, 3) := by decide +kernel
theorem dX1_watch_38 : decode cX1_watch 38 = .ok (.bipush 40, 2) := by decide +kernel
theorem dX1_watch_40 : decode cX1_watch 40 = .ok (.if_icmp .ge 8, 3) := by decide +kernel
theorem dX1_watch_43 : decode cX1_watch 43 = .ok (.bipush 9, 2) := by decide +kernel
theorem dX1_watch_45 : decode cX1_watch 45 = .ok (.goto 5, 3) := by decide +kernel
theorem dX1_watch_48 : decode cX1_watch 48 = .ok (.bipush (-3), 2) := by decide +kernel
theorem dX1_watch_50 : decode cX1_watch 50 = .ok (.istore_n 3, 1) := by decide +kernel
theorem dX1_watch_51 : decode cX1_watch 51 = .ok (.aload_n 0, 1) := by decide +kernel
theorem dX1_watch_52 : decode cX1_watch 52 = .ok (.getfield 25, 3) := by decide +kernel
theorem dX1_watch_55 : decode cX1_watch 55 = .ok (.iload_n 2, 1) := by decide +kernel
theorem dX1_watch_56 : decode cX1_watch 56 = .ok (.aload_n 0, 1) := by decide +kernel
theorem dX1_watch_57 : decode cX1_watch 57 = .ok (.getfield 25, 3) := by decide +kernel
theorem dX1_watch_60 : decode cX1_watch 60 = .ok (.iload_n 2, 1) := by decide +kernel
theorem dX1_watch_61 : decode cX1_watch 61 = .ok (.iaload, 1) := by decide +kernel
theorem dX1_watch_62 : decode cX1_watch 62 = .ok (.iload_n 3, 1) := by decide +kernel
theorem dX1_watch_63 : decode cX1_watch 63 = .ok (.iadd, 1) := by decide +kernel
theorem dX1_watch_64 : decode cX1_watch 64 = .ok (.invokestatic 90, 3) := by decide +kernel
theorem dX1_watch_67 : decode cX1_watch 67 = .ok (.iastore, 1) := by decide +kernel
theorem dX1_watch_68 : decode cX1_watch 68 = .ok (.iinc 2 1, 3) := by decide +kernel
theorem dX1_watch_71 : decode cX1_watch 71 = .ok (.goto (-69), 3) := by decide +kernel
theorem dX1_watch_74 : decode cX1_watch 74 = .ok (.return_, 1) := by decide +kernel
theorem dX1_wet_0 : decode cX1_wet 0 = .ok (.iconst 0, 1) := by decide +kernel
theorem dX1_wet_1 : decode cX1_wet 1 = .ok (.istore_n 1, 1) := by decide +kernel
theorem dX1_wet_2 : decode cX1_wet 2 = .ok (.iload_n 1, 1) := by decide +kernel
theorem dX1_wet_3 : decode cX1_wet 3 = .ok (.aload_n 0, 1) := by decide +kernel
theorem dX1_wet_4 : decode cX1_wet 4 = .ok (.getfield 9, 3) := by decide +kernel
theorem dX1_wet_7 : decode cX1_wet 7 = .ok (.if_icmp .ge 38, 3) := by decide +kernel
theorem dX1_wet_10 : decode cX1_wet 10 = .ok (.aload_n 0, 1) := by decide +kernel
theorem dX1_wet_11 : decode cX1_wet 11 = .ok (.getfield 15, 3) := by decide +kernel
theorem dX1_wet_14 : decode cX1_wet 14 = .ok (.iload_n 1, 1) := by decide +kernel
theorem dX1_wet_15 : decode cX1_wet 15 = .ok (.iaload, 1) := by decide +kernel
theorem dX1_wet_16 : decode cX1_wet 16 = .ok (.invokestatic 102, 3) := by decide +kernel
theorem dX1_wet_19 : decode cX1_wet 19 = .ok (.ifCond .ne 20, 3) := by decide +kernel
theorem dX1_wet_22 : decode cX1_wet 22 = .ok (.aload_n 0, 1) := by decide +kernel
theorem dX1_wet_23 : decode cX1_wet 23 = .ok (.getfield 22, 3) := by decide +kernel
theorem dX1_wet_26 : decode cX1_wet 26 = .ok (.iload_n 1, 1) := by decide +kernel
theorem dX1_wet_27 : decode cX1_wet 27 = .ok (.aload_n 0, 1) := by decide +kernel
theorem dX1_wet_28 : decode cX1_wet 28 = .ok (.getfield 22, 3) := by decide +kernel
theorem dX1_wet_31 : decode cX1_wet 31 = .ok (.iload_n 1, 1) := by decide +kernel
theorem dX1_wet_32 : decode cX1_wet 32 = .ok (.iaload, 1) := by decide +kernel
theorem dX1_wet_33 : decode cX1_wet 33 = .ok (.iconst 3, 1) := by decide +kernel
theorem dX1_wet_34 : decode cX1_wet 34 = .ok (.iadd, 1) := by decide +kernel
theorem dX1_wet_35 : decode cX1_wet 35 = .ok (.invokestatic 90, 3) := by decide +kernel
theorem dX1_wet_38 : decode cX1_wet 38 = .ok (.iastore, 1) := by decide +kernel
theorem dX1_wet_39 : decode cX1_wet 39 = .ok (.iinc 1 1, 3) := by decide +kernel
theorem dX1_wet_42 : decode cX1_wet 42 = .ok (.goto (-40), 3) := by decide +kernel
theorem dX1_wet_45 : decode cX1_wet 45 = .ok (.return_, 1) := by decide +kernel
theorem dX2_isUnder_0 : decode cX2_isUnder 0 = .ok (.iload_n 0, 1) := by decide +kernel
theorem dX2_isUnder_1 : decode cX2_isUnder 1 = .ok (.istore_n 2, 1) := by decide +kernel
theorem dX2_isUnder_2 : decode cX2_isUnder 2 = .ok (.iconst 0, 1) := by decide +kernel
theorem dX2_isUnder_3 : decode cX2_isUnder 3 = .ok (.istore_n 3, 1) := by decide +kernel
theorem dX2_isUnder_4 : decode cX2_isUnder 4 = .ok (.iload_n 3, 1) := by decide +kernel
theorem dX2_isUnder_5 : decode cX2_isUnder 5 = .ok (.bipush 6, 2) := by decide +kernel
theorem dX2_isUnder_7 : decode cX2_isUnder 7 = .ok (.if_icmp .ge 32, 3) := by decide +kernel
theorem dX2_isUnder_10 : decode cX2_isUnder 10 = .ok (.iload_n 2, 1) := by decide +kernel
theorem dX2_isUnder_11 : decode cX2_isUnder 11 = .ok (.ifCond .lt 28, 3) := by decide +kernel
theorem dX2_isUnder_14 : decode cX2_isUnder 14 = .ok (.iload_n 2, 1) := by decide +kernel
theorem dX2_isUnder_15 : decode cX2_isUnder 15 = .ok (.bipush 6, 2) := by decide +kernel
theorem dX2_isUnder_17 : decode cX2_isUnder 17 = .ok (.if_icmp .ge 22, 3) := by decide +kernel
theorem dX2_isUnder_20 : decode cX2_isUnder 20 = .ok (.iload_n 2, 1) := by decide +kernel
theorem dX2_isUnder_21 : decode cX2_isUnder 21 = .ok (.iload_n 1, 1) := by decide +kernel
theorem dX2_isUnder_22 : decode cX2_isUnder 22 = .ok (.if_icmp .ne 5, 3) := by decide +kernel
theorem dX2_isUnder_25 : decode cX2_isUnder 25 = .ok (.iconst 1, 1) := by decide +kernel
theorem dX2_isUnder_26 : decode cX2_isUnder 26 = .ok (.ireturn, 1) := by decide +kernel
theorem dX2_isUnder_27 : decode cX2_isUnder 27 = .ok (.getstatic 11, 3) := by decide +kernel
theorem dX2_isUnder_30 : decode cX2_isUnder 30 = .ok (.iload_n 2, 1) := by decide +kernel
theorem dX2_isUnder_31 : decode cX2_isUnder 31 = .ok (.iaload, 1) := by decide +kernel
theorem dX2_isUnder_32 : decode cX2_isUnder 32 = .ok (.istore_n 2, 1) := by decide +kernel
theorem dX2_isUnder_33 : decode cX2_isUnder 33 = .ok (.iinc 3 1, 3) := by decide +kernel
theorem dX2_isUnder_36 : decode cX2_isUnder 36 = .ok (.goto (-32), 3) := by decide +kernel
theorem dX2_isUnder_39 : decode cX2_isUnder 39 = .ok (.iconst 0, 1) := by decide +kernel
theorem dX2_isUnder_40 : decode cX2_isUnder 40 = .ok (.ireturn, 1) := by decide +kernel
theorem dX2_lives_0 : decode cX2_lives 0 = .ok (.iload_n 0, 1) := by decide +kernel
theorem dX2_lives_1 : decode cX2_lives 1 = .ok (.iconst 2, 1) := by decide +kernel
theorem dX2_lives_2 : decode cX2_lives 2 = .ok (.if_icmp .eq 8, 3) := by decide +kernel
theorem dX2_lives_5 : decode cX2_lives 5 = .ok (.iload_n 0, 1) := by decide +kernel
theorem dX2_lives_6 : decode cX2_lives 6 = .ok (.iconst 4, 1) := by decide +kernel
theorem dX2_lives_7 : decode cX2_lives 7 = .ok (.if_icmp .ne 7, 3) := by decide +kernel
theorem dX2_lives_10 : decode cX2_lives 10 = .ok (.iconst 1, 1) := by decide +kernel
theorem dX2_lives_11 : decode cX2_lives 11 = .ok (.goto 4, 3) := by decide +kernel
theorem dX2_lives_14 : decode cX2_lives 14 = .ok (.iconst 0, 1) := by decide +kernel
theorem dX2_lives_15 : decode cX2_lives 15 = .ok (.ireturn, 1) := by decide +kernel
theorem dX2_looks_0 : decode cX2_looks 0 = .ok (.iload_n 0, 1) := by decide +kernel
theorem dX2_looks_1 : decode cX2_looks 1 = .ok (.tableswitch 66 1 5 #[35, 47, 40, 47, 50], 35) := by decide +kernel
theorem dX2_looks_36 : decode cX2_looks 36 = .ok (.iload_n 1, 1) := by decide +kernel
theorem dX2_looks_37 : decode cX2_looks 37 = .ok (.bipush 12, 2) := by decide +kernel
theorem dX2_looks_39 : decode cX2_looks 39 = .ok (.iadd, 1) := by decide +kernel
theorem dX2_looks_40 : decode cX2_looks 40 = .ok (.ireturn, 1) := by decide +kernel
theorem dX2_looks_41 : decode cX2_looks 41 = .ok (.iconst 2, 1) := by decide +kernel
theorem dX2_looks_42 : decode cX2_looks 42 = .ok (.iload_n 1, 1) := by decide +kernel
theorem dX2_looks_43 : decode cX2_looks 43 = .ok (.bipush 12, 2) := by decide +kernel
theorem dX2_looks_45 : decode cX2_looks 45 = .ok (.iadd, 1) := by decide +kernel
theorem dX2_looks_46 : decode cX2_looks 46 = .ok (.imul, 1) := by decide +kernel
theorem dX2_looks_47 : decode cX2_looks 47 = .ok (.ireturn, 1) := by decide +kernel
theorem dX2_looks_48 : decode cX2_looks 48 = .ok (.bipush 99, 2) := by decide +kernel
theorem dX2_looks_50 : decode cX2_looks 50 = .ok (.ireturn, 1) := by decide +kernel
theorem dX2_looks_51 : decode cX2_looks 51 = .ok (.iload_n 2, 1) := by decide +kernel
theorem dX2_looks_52 : decode cX2_looks 52 = .ok (.iconst 2, 1) := by decide +kernel
theorem dX2_looks_53 : decode cX2_looks 53 = .ok (.irem, 1) := by decide +kernel
theorem dX2_looks_54 : decode cX2_looks 54 = .ok (.iconst 1, 1) := by decide +kernel
theorem dX2_looks_55 : decode cX2_looks 55 = .ok (.if_icmp .ne 10, 3) := by decide +kernel
theorem dX2_looks_58 : decode cX2_looks 58 = .ok (.iload_n 1, 1) := by decide +kernel
theorem dX2_looks_59 : decode cX2_looks 59 = .ok (.bipush 20, 2) := by decide +kernel
theorem dX2_looks_61 : decode cX2_looks 61 = .ok (.iadd, 1) := by decide +kernel
theorem dX2_looks_62 : decode cX2_looks 62 = .ok (.goto 4, 3) := by decide +kernel
theorem dX2_looks_65 : decode cX2_looks 65 = .ok (.iload_n 1, 1) := by decide +kernel
theorem dX2_looks_66 : decode cX2_looks 66 = .ok (.ireturn, 1) := by decide +kernel
theorem dX2_looks_67 : decode cX2_looks 67 = .ok (.iload_n 1, 1) := by decide +kernel
theorem dX2_looks_68 : decode cX2_looks 68 = .ok (.ireturn, 1) := by decide +kernel
theorem dX2_falls_0 : decode cX2_falls 0 = .ok (.iload_n 0, 1) := by decide +kernel
theorem dX2_falls_1 : decode cX2_falls 1 = .ok (.tableswitch 49 1 5 #[35, 41, 35, 41, 43], 35) := by decide +kernel
theorem dX2_falls_36 : decode cX2_falls 36 = .ok (.iload_n 1, 1) := by decide +kernel
theorem dX2_falls_37 : decode cX2_falls 37 = .ok (.iconst 2, 1) := by decide +kernel
theorem dX2_falls_38 : decode cX2_falls 38 = .ok (.idiv, 1) := by decide +kernel
theorem dX2_falls_39 : decode cX2_falls 39 = .ok (.iconst 4, 1) := by decide +kernel
theorem dX2_falls_40 : decode cX2_falls 40 = .ok (.iadd, 1) := by decide +kernel
theorem dX2_falls_41 : decode cX2_falls 41 = .ok (.ireturn, 1) := by decide +kernel
theorem dX2_falls_42 : decode cX2_falls 42 = .ok (.iconst 0, 1) := by decide +kernel
theorem dX2_falls_43 : decode cX2_falls 43 = .ok (.ireturn, 1) := by decide +kernel
theorem dX2_falls_44 : decode cX2_falls 44 = .ok (.iconst 2, 1) := by decide +kernel
theorem dX2_falls_45 : decode cX2_falls 45 = .ok (.iload_n 1, 1) := by decide +kernel
theorem dX2_falls_46 : decode cX2_falls 46 = .ok (.iconst 2, 1) := by decide +kernel
theorem dX2_falls_47 : decode cX2_falls 47 = .ok (.idiv, 1) := by decide +kernel
theorem dX2_falls_48 : decode cX2_falls 48 = .ok (.imul, 1) := by decide +kernel
theorem dX2_falls_49 : decode cX2_falls 49 = .ok (.ireturn, 1) := by decide +kernel
theorem dX2_falls_50 : decode cX2_falls 50 = .ok (.iload_n 1, 1) := by decide +kernel
theorem dX2_falls_51 : decode cX2_falls 51 = .ok (.iconst 2, 1) := by decide +kernel
theorem dX2_falls_52 : decode cX2_falls 52 = .ok (.idiv, 1) := by decide +kernel
theorem dX2_falls_53 : decode cX2_falls 53 = .ok (.ireturn, 1) := by decide +kernel
theorem dX2_fights_0 : decode cX2_fights 0 = .ok (.iload_n 0, 1) := by decide +kernel
theorem dX2_fights_1 : decode cX2_fights 1 = .ok (.iconst 2, 1) := by decide +kernel
theorem dX2_fights_2 : decode cX2_fights 2 = .ok (.if_icmp .ne 8, 3) := by decide +kernel
theorem dX2_fights_5 : decode cX2_fights 5 = .ok (.bipush 10, 2) := by decide +kernel
theorem dX2_fights_7 : decode cX2_fights 7 = .ok (.goto 14, 3) := by decide +kernel
theorem dX2_fights_10 : decode cX2_fights 10 = .ok (.iload_n 0, 1) := by decide +kernel
theorem dX2_fights_11 : decode cX2_fights 11 = .ok (.iconst 4, 1) := by decide +kernel
theorem dX2_fights_12 : decode cX2_fights 12 = .ok (.if_icmp .ne 8, 3) := by decide +kernel
theorem dX2_fights_15 : decode cX2_fights 15 = .ok (.bipush 15, 2) := by decide +kernel
theorem dX2_fights_17 : decode cX2_fights 17 = .ok (.goto 4, 3) := by decide +kernel
theorem dX2_fights_20 : decode cX2_fights 20 = .ok (.iconst 0, 1) := by decide +kernel
theorem dX2_fights_21 : decode cX2_fights 21 = .ok (.ireturn, 1) := by decide +kernel
theorem dX2_worth_0 : decode cX2_worth 0 = .ok (.iload_n 0, 1) := by decide +kernel
theorem dX2_worth_1 : decode cX2_worth 1 = .ok (.tableswitch 61 1 5 #[35, 45, 39, 50, 58], 35) := by decide +kernel
theorem dX2_worth_36 : decode cX2_worth 36 = .ok (.iload_n 1, 1) := by decide +kernel
theorem dX2_worth_37 : decode cX2_worth 37 = .ok (.iconst 5, 1) := by decide +kernel
theorem dX2_worth_38 : decode cX2_worth 38 = .ok (.iadd, 1) := by decide +kernel
theorem dX2_worth_39 : decode cX2_worth 39 = .ok (.ireturn, 1) := by decide +kernel
theorem dX2_worth_40 : decode cX2_worth 40 = .ok (.iconst 2, 1) := by decide +kernel
theorem dX2_worth_41 : decode cX2_worth 41 = .ok (.iload_n 1, 1) := by decide +kernel
theorem dX2_worth_42 : decode cX2_worth 42 = .ok (.iconst 5, 1) := by decide +kernel
theorem dX2_worth_43 : decode cX2_worth 43 = .ok (.iadd, 1) := by decide +kernel
theorem dX2_worth_44 : decode cX2_worth 44 = .ok (.imul, 1) := by decide +kernel
theorem dX2_worth_45 : decode cX2_worth 45 = .ok (.ireturn, 1) := by decide +kernel
theorem dX2_worth_46 : decode cX2_worth 46 = .ok (.bipush 99, 2) := by decide +kernel
theorem dX2_worth_48 : decode cX2_worth 48 = .ok (.iload_n 1, 1) := by decide +kernel
theorem dX2_worth_49 : decode cX2_worth 49 = .ok (.isub, 1) := by decide +kernel
theorem dX2_worth_50 : decode cX2_worth 50 = .ok (.ireturn, 1) := by decide +kernel
theorem dX2_worth_51 : decode cX2_worth 51 = .ok (.bipush 99, 2) := by decide +kernel
theorem dX2_worth_53 : decode cX2_worth 53 = .ok (.iload_n 1, 1) := by decide +kernel
theorem dX2_worth_54 : decode cX2_worth 54 = .ok (.isub, 1) := by decide +kernel
theorem dX2_worth_55 : decode cX2_worth 55 = .ok (.bipush 7, 2) := by decide +kernel
theorem dX2_worth_57 : decode cX2_worth 57 = .ok (.isub, 1) := by decide +kernel
theorem dX2_worth_58 : decode cX2_worth 58 = .ok (.ireturn, 1) := by decide +kernel
theorem dX2_worth_59 : decode cX2_worth 59 = .ok (.bipush 8, 2) := by decide +kernel
theorem dX2_worth_61 : decode cX2_worth 61 = .ok (.ireturn, 1) := by decide +kernel
theorem dX2_worth_62 : decode cX2_worth 62 = .ok (.iload_n 1, 1) := by decide +kernel
theorem dX2_worth_63 : decode cX2_worth 63 = .ok (.ireturn, 1) := by decide +kernel
theorem dX3_init_0 : decode cX3_init 0 = .ok (.aload_n 0, 1) := by decide +kernel
theorem dX3_init_1 : decode cX3_init 1 = .ok (.invokespecial 3, 3) := by decide +kernel
theorem dX3_init_4 : decode cX3_init 4 = .ok (.aload_n 0, 1) := by decide +kernel
theorem dX3_init_5 : decode cX3_init 5 = .ok (.bipush 96, 2) := by decide +kernel
theorem dX3_init_7 : decode cX3_init 7 = .ok (.newarray .int, 2) := by decide +kernel
theorem dX3_init_9 : decode cX3_init 9 = .ok (.putfield 9, 3) := by decide +kernel
theorem dX3_init_12 : decode cX3_init 12 = .ok (.aload_n 0, 1) := by decide +kernel
theorem dX3_init_13 : decode cX3_init 13 = .ok (.bipush 96, 2) := by decide +kernel
theorem dX3_init_15 : decode cX3_init 15 = .ok (.newarray .int, 2) := by decide +kernel
theorem dX3_init_17 : decode cX3_init 17 = .ok (.putfield 15, 3) := by decide +kernel
theorem dX3_init_20 : decode cX3_init 20 = .ok (.aload_n 0, 1) := by decide +kernel
theorem dX3_init_21 : decode cX3_init 21 = .ok (.bipush 9, 2) := by decide +kernel
theorem dX3_init_23 : decode cX3_init 23 = .ok (.newarray .boolean, 2) := by decide +kernel
theorem dX3_init_25 : decode cX3_init 25 = .ok (.putfield 18, 3) := by decide +kernel
theorem dX3_init_28 : decode cX3_init 28 = .ok (.return_, 1) := by decide +kernel
theorem dX3_read_0 : decode cX3_read 0 = .ok (.aload_n 0, 1) := by decide +kernel
theorem dX3_read_1 : decode cX3_read 1 = .ok (.invokevirtual 22, 3) := by decide +kernel
theorem dX3_read_4 : decode cX3_read 4 = .ok (.aload_n 1, 1) := by decide +kernel
theorem dX3_read_5 : decode cX3_read 5 = .ok (.iconst 0, 1) := by decide +kernel
theorem dX3_read_6 : decode cX3_read 6 = .ok (.iload_n 2, 1) := by decide +kernel
theorem dX3_read_7 : decode cX3_read 7 = .ok (.invokestatic 25, 3) := by decide +kernel
theorem dX3_read_10 : decode cX3_read 10 = .ok (.istore_n 3, 1) := by decide +kernel
theorem dX3_read_11 : decode cX3_read 11 = .ok (.aload_n 1, 1) := by decide +kernel
theorem dX3_read_12 : decode cX3_read 12 = .ok (.iload_n 3, 1) := by decide +kernel
theorem dX3_read_13 : decode cX3_read 13 = .ok (.iload_n 2, 1) := by decide +kernel
theorem dX3_read_14 : decode cX3_read 14 = .ok (.invokestatic 29, 3) := by decide +kernel
theorem dX3_read_17 : decode cX3_read 17 = .ok (.istore 4, 2) := by decide +kernel
theorem dX3_read_19 : decode cX3_read 19 = .ok (.aload_n 0, 1) := by decide +kernel
theorem dX3_read_20 : decode cX3_read 20 = .ok (.aload_n 1, 1) := by decide +kernel
theorem dX3_read_21 : decode cX3_read 21 = .ok (.iload_n 3, 1) := by decide +kernel
theorem dX3_read_22 : decode cX3_read 22 = .ok (.iload 4, 2) := by decide +kernel
theorem dX3_read_24 : decode cX3_read 24 = .ok (.invokestatic 32, 3) := by decide +kernel
theorem dX3_read_27 : decode cX3_read 27 = .ok (.putfield 35, 3) := by decide +kernel
theorem dX3_read_30 : decode cX3_read 30 = .ok (.aload_n 0, 1) := by decide +kernel
theorem dX3_read_31 : decode cX3_read 31 = .ok (.getfield 35, 3) := by decide +kernel
theorem dX3_read_34 : decode cX3_read 34 = .ok (.ldc 39, 2) := by decide +kernel
theorem dX3_read_36 : decode cX3_read 36 = .ok (.if_icmp .ne 5, 3) := by decide +kernel
theorem dX3_read_39 : decode cX3_read 39 = .ok (.iload_n 3, 1) := by decide +kernel
theorem dX3_read_40 : decode cX3_read 40 = .ok (.ireturn, 1) := by decide +kernel
theorem dX3_read_41 : decode cX3_read 41 = .ok (.iconst 0, 1) := by decide +kernel
theorem dX3_read_42 : decode cX3_read 42 = .ok (.istore 5, 2) := by decide +kernel
theorem dX3_read_44 : decode cX3_read 44 = .ok (.iload 5, 2) := by decide +kernel
theorem dX3_read_46 : decode cX3_read 46 = .ok (.iload_n 2, 1) := by decide +kernel
theorem dX3_read_47 : decode cX3_read 47 = .ok (.if_icmp .ge 106, 3) := by decide +kernel
theorem dX3_read_50 : decode cX3_read 50 = .ok (.iload 4, 2) := by decide +kernel
theorem dX3_read_52 : decode cX3_read 52 = .ok (.ifCond .le 20, 3) := by decide +kernel
theorem dX3_read_55 : decode cX3_read 55 = .ok (.aload_n 1, 1) := by decide +kernel
theorem dX3_read_56 : decode cX3_read 56 = .ok (.iload 4, 2) := by decide +kernel
theorem dX3_read_58 : decode cX3_read 58 = .ok (.iconst 1, 1) := by decide +kernel
theorem dX3_read_59 : decode cX3_read 59 = .ok (.isub, 1) := by decide +kernel
theorem dX3_read_60 : decode cX3_read 60 = .ok (.baload, 1) := by decide +kernel
theorem dX3_read_61 : decode cX3_read 61 = .ok (.invokestatic 40, 3) := by decide +kernel
theorem dX3_read_64 : decode cX3_read 64 = .ok (.iconst 3, 1) := by decide +kernel
theorem dX3_read_65 : decode cX3_read 65 = .ok (.if_icmp .eq 7, 3) := by decide +kernel
theorem dX3_read_68 : decode cX3_read 68 = .ok (.iconst 1, 1) := by decide +kernel
theorem dX3_read_69 : decode cX3_read 69 = .ok (.goto 4, 3) := by decide +kernel
theorem dX3_read_72 : decode cX3_read 72 = .ok (.iconst 0, 1) := by decide +kernel
theorem dX3_read_73 : decode cX3_read 73 = .ok (.istore 6, 2) := by decide +kernel
theorem dX3_read_75 : decode cX3_read 75 = .ok (.aload_n 1, 1) := by decide +kernel
theorem dX3_read_76 : decode cX3_read 76 = .ok (.iload 4, 2) := by decide +kernel
theorem dX3_read_78 : decode cX3_read 78 = .ok (.iload_n 2, 1) := by decide +kernel
theorem dX3_read_79 : decode cX3_read 79 = .ok (.invokestatic 25, 3) := by decide +kernel
theorem dX3_read_82 : decode cX3_read 82 = .ok (.istore_n 3, 1) := by decide +kernel
theorem dX3_read_83 : decode cX3_read 83 = .ok (.iload_n 3, 1) := by decide +kernel
theorem dX3_read_84 : decode cX3_read 84 = .ok (.iload_n 2, 1) := by decide +kernel
theorem dX3_read_85 : decode cX3_read 85 = .ok (.if_icmp .lt 6, 3) := by decide +kernel
theorem dX3_read_88 : decode cX3_read 88 = .ok (.goto 65, 3) := by decide +kernel
theorem dX3_read_91 : decode cX3_read 91 = .ok (.aload_n 1, 1) := by decide +kernel
theorem dX3_read_92 : decode cX3_read 92 = .ok (.iload_n 3, 1) := by decide +kernel
theorem dX3_read_93 : decode cX3_read 93 = .ok (.baload, 1) := by decide +kernel
theorem dX3_read_94 : decode cX3_read 94 = .ok (.invokestatic 40, 3) := by decide +kernel
theorem dX3_read_97 : decode cX3_read 97 = .ok (.iconst 3, 1) := by decide +kernel
theorem dX3_read_98 : decode cX3_read 98 = .ok (.if_icmp .eq 7, 3) := by decide +kernel
theorem dX3_read_101 : decode cX3_read 101 = .ok (.iconst 1, 1) := by decide +kernel
theorem dX3_read_102 : decode cX3_read 102 = .ok (.goto 4, 3) := by decide +kernel
theorem dX3_read_105 : decode cX3_read 105 = .ok (.iconst 0, 1) := by decide +kernel
theorem dX3_read_106 : decode cX3_read 106 = .ok (.istore 7, 2) := by decide +kernel
theorem dX3_read_108 : decode cX3_read 108 = .ok (.iload 7, 2) := by decide +kernel
theorem dX3_read_110 : decode cX3_read 110 = .ok (.ifCond .eq 16, 3) := by decide +kernel
theorem dX3_read_113 : decode cX3_read 113 = .ok (.iload 6, 2) := by decide +kernel
theorem dX3_read_115 : decode cX3_read 115 = .ok (.ifCond .eq 11, 3) := by decide +kernel
theorem dX3_read_118 : decode cX3_read 118 = .ok (.iload_n 3, 1) := by decide +kernel
theorem dX3_read_119 : decode cX3_read 119 = .ok (.iload 4, 2) := by decide +kernel
theorem dX3_read_121 : decode cX3_read 121 = .ok (.if_icmp .ne 5, 3) := by decide +kernel
theorem dX3_read_124 : decode cX3_read 124 = .ok (.iload_n 3, 1) := by decide +kernel
theorem dX3_read_125 : decode cX3_read 125 = .ok (.ireturn, 1) := by decide +kernel
theorem dX3_read_126 : decode cX3_read 126 = .ok (.aload_n 1, 1) := by decide +kernel
theorem dX3_read_127 : decode cX3_read 127 = .ok (.iload_n 3, 1) := by decide +kernel
theorem dX3_read_128 : decode cX3_read 128 = .ok (.iload_n 2, 1) := by decide +kernel
theorem dX3_read_129 : decode cX3_read 129 = .ok (.invokestatic 29, 3) := by decide +kernel
theorem dX3_read_132 : decode cX3_read 132 = .ok (.istore 4, 2) := by decide +kernel
theorem dX3_read_134 : decode cX3_read 134 = .ok (.aload_n 0, 1) := by decide +kernel
theorem dX3_read_135 : decode cX3_read 135 = .ok (.aload_n 1, 1) := by decide +kernel
theorem dX3_read_136 : decode cX3_read 136 = .ok (.iload_n 3, 1) := by decide +kernel
theorem dX3_read_137 : decode cX3_read 137 = .ok (.iload 4, 2) := by decide +kernel
theorem dX3_read_139 : decode cX3_read 139 = .ok (.invokevirtual 44, 3) := by decide +kernel
theorem dX3_read_142 : decode cX3_read 142 = .ok (.ifCond .ne 5, 3) := by decide +kernel
theorem dX3_read_145 : decode cX3_read 145 = .ok (.iload_n 3, 1) := by decide +kernel
theorem dX3_read_146 : decode cX3_read 146 = .ok (.ireturn, 1) := by decide +kernel
theorem dX3_read_147 : decode cX3_read 147 = .ok (.iinc 5 1, 3) := by decide +kernel
theorem dX3_read_150 : decode cX3_read 150 = .ok (.goto (-106), 3) := by decide +kernel
theorem dX3_read_153 : decode cX3_read 153 = .ok (.aload_n 0, 1) := by decide +kernel
theorem dX3_read_154 : decode cX3_read 154 = .ok (.getfield 48, 3) := by decide +kernel
theorem dX3_read_157 : decode cX3_read 157 = .ok (.ifCond .ne 10, 3) := by decide +kernel
theorem dX3_read_160 : decode cX3_read 160 = .ok (.aload_n 0, 1) := by decide +kernel
theorem dX3_read_161 : decode cX3_read 161 = .ok (.getfield 52, 3) := by decide +kernel
theorem dX3_read_164 : decode cX3_read 164 = .ok (.ifCond .le 5, 3) := by decide +kernel
theorem dX3_read_167 : decode cX3_read 167 = .ok (.iload_n 2, 1) := by decide +kernel
theorem dX3_read_168 : decode cX3_read 168 = .ok (.ireturn, 1) := by decide +kernel
theorem dX3_read_169 : decode cX3_read 169 = .ok (.aload_n 0, 1) := by decide +kernel
theorem dX3_read_170 : decode cX3_read 170 = .ok (.iconst 0, 1) := by decide +kernel
theorem dX3_read_171 : decode cX3_read 171 = .ok (.invokevirtual 55, 3) := by decide +kernel
theorem dX3_read_174 : decode cX3_read 174 = .ok (.ldc 39, 2) := by decide +kernel
theorem dX3_read_176 : decode cX3_read 176 = .ok (.ireturn, 1) := by decide +kernel
theorem dX3_start_0 : decode cX3_start 0 = .ok (.aload_n 0, 1) := by decide +kernel
theorem dX3_start_1 : decode cX3_start 1 = .ok (.iconst 0, 1) := by decide +kernel
theorem dX3_start_2 : decode cX3_start 2 = .ok (.putfield 59, 3) := by decide +kernel
theorem dX3_start_5 : decode cX3_start 5 = .ok (.aload_n 0, 1) := by decide +kernel
theorem dX3_start_6 : decode cX3_start 6 = .ok (.iconst 0, 1) := by decide +kernel
theorem dX3_start_7 : decode cX3_start 7 = .ok (.putfield 62, 3) := by decide +kernel
theorem dX3_start_10 : decode cX3_start 10 = .ok (.aload_n 0, 1) := by decide +kernel
theorem dX3_start_11 : decode cX3_start 11 = .ok (.iconst 0, 1) := by decide +kernel
theorem dX3_start_12 : decode cX3_start 12 = .ok (.putfield 65, 3) := by decide +kernel
theorem dX3_start_15 : decode cX3_start 15 = .ok (.aload_n 0, 1) := by decide +kernel
theorem dX3_start_16 : decode cX3_start 16 = .ok (.iconst 0, 1) := by decide +kernel
theorem dX3_start_17 : decode cX3_start 17 = .ok (.putfield 52, 3) := by decide +kernel
theorem dX3_start_20 : decode cX3_start 20 = .ok (.aload_n 0, 1) := by decide +kernel
theorem dX3_start_21 : decode cX3_start 21 = .ok (.iconst 0, 1) := by decide +kernel
theorem dX3_start_22 : decode cX3_start 22 = .ok (.putfield 68, 3) := by decide +kernel
theorem dX3_start_25 : decode cX3_start 25 = .ok (.aload_n 0, 1) := by decide +kernel
theorem dX3_start_26 : decode cX3_start 26 = .ok (.iconst 1, 1) := by decide +kernel
theorem dX3_start_27 : decode cX3_start 27 = .ok (.putfield 48, 3) := by decide +kernel
theorem dX3_start_30 : decode cX3_start 30 = .ok (.aload_n 0, 1) := by decide +kernel
theorem dX3_start_31 : decode cX3_start 31 = .ok (.getfield 18, 3) := by decide +kernel
theorem dX3_start_34 : decode cX3_start 34 = .ok (.iconst 0, 1) := by decide +kernel
theorem dX3_start_35 : decode cX3_start 35 = .ok (.iconst 0, 1) := by decide +kernel
theorem dX3_start_36 : decode cX3_start 36 = .ok (.bastore, 1) := by decide +kernel
theorem dX3_start_37 : decode cX3_start 37 = .ok (.return_, 1) := by decide +kernel
theorem dX3_sortOf_0 : decode cX3_sortOf 0 = .ok (.iload_n 0, 1) := by decide +kernel
theorem dX3_sortOf_1 : decode cX3_sortOf 1 = .ok (.bipush 32, 2) := by decide +kernel
theorem dX3_sortOf_3 : decode cX3_sortOf 3 = .ok (.if_icmp .ne 7, 3) := by decide +kernel
theorem dX3_sortOf_6 : decode cX3_sortOf 6 = .ok (.iconst 0, 1) := by decide +kernel
theorem dX3_sortOf_7 : decode cX3_sortOf 7 = .ok (.goto 36, 3) := by decide +kernel
theorem dX3_sortOf_10 : decode cX3_sortOf 10 = .ok (.iload_n 0, 1) := by decide +kernel
theorem dX3_sortOf_11 : decode cX3_sortOf 11 = .ok (.bipush 97, 2) := by decide +kernel
theorem dX3_sortOf_13 : decode cX3_sortOf 13 = .ok (.if_icmp .lt 13, 3) := by decide +kernel
theorem dX3_sortOf_16 : decode cX3_sortOf 16 = .ok (.iload_n 0, 1) := by decide +kernel
theorem dX3_sortOf_17 : decode cX3_sortOf 17 = .ok (.bipush 122, 2) := by decide +kernel
theorem dX3_sortOf_19 : decode cX3_sortOf 19 = .ok (.if_icmp .gt 7, 3) := by decide +kernel
theorem dX3_sortOf_22 : decode cX3_sortOf 22 = .ok (.iconst 1, 1) := by decide +kernel
theorem dX3_sortOf_23 : decode cX3_sortOf 23 = .ok (.goto 20, 3) := by decide +kernel
theorem dX3_sortOf_26 : decode cX3_sortOf 26 = .ok (.iload_n 0, 1) := by decide +kernel
theorem dX3_sortOf_27 : decode cX3_sortOf 27 = .ok (.bipush 48, 2) := by decide +kernel
theorem dX3_sortOf_29 : decode cX3_sortOf 29 = .ok (.if_icmp .lt 13, 3) := by decide +kernel
theorem dX3_sortOf_32 : decode cX3_sortOf 32 = .ok (.iload_n 0, 1) := by decide +kernel
theorem dX3_sortOf_33 : decode cX3_sortOf 33 = .ok (.bipush 57, 2) := by decide +kernel
theorem dX3_sortOf_35 : decode cX3_sortOf 35 = .ok (.if_icmp .gt 7, 3) := by decide +kernel
theorem dX3_sortOf_38 : decode cX3_sortOf 38 = .ok (.iconst 2, 1) := by decide +kernel
theorem dX3_sortOf_39 : decode cX3_sortOf 39 = .ok (.goto 4, 3) := by decide +kernel
theorem dX3_sortOf_42 : decode cX3_sortOf 42 = .ok (.iconst 3, 1) := by decide +kernel
theorem dX3_sortOf_43 : decode cX3_sortOf 43 = .ok (.ireturn, 1) := by decide +kernel
theorem dX3_placeBehindBlanks_0 : decode cX3_placeBehindBlanks 0 = .ok (.iload_n 1, 1) := by decide +kernel
theorem dX3_placeBehindBlanks_1 : decode cX3_placeBehindBlanks 1 = .ok (.istore_n 3, 1) := by decide +kernel
theorem dX3_placeBehindBlanks_2 : decode cX3_placeBehindBlanks 2 = .ok (.iload_n 3, 1) := by decide +kernel
theorem dX3_placeBehindBlanks_3 : decode cX3_placeBehindBlanks 3 = .ok (.iload_n 2, 1) := by decide +kernel
theorem dX3_placeBehindBlanks_4 : decode cX3_placeBehindBlanks 4 = .ok (.if_icmp .ge 18, 3) := by decide +kernel
theorem dX3_placeBehindBlanks_7 : decode cX3_placeBehindBlanks 7 = .ok (.aload_n 0, 1) := by decide +kernel
theorem dX3_placeBehindBlanks_8 : decode cX3_placeBehindBlanks 8 = .ok (.iload_n 3, 1) := by decide +kernel
theorem dX3_placeBehindBlanks_9 : decode cX3_placeBehindBlanks 9 = .ok (.baload, 1) := by decide +kernel
theorem dX3_placeBehindBlanks_10 : decode cX3_placeBehindBlanks 10 = .ok (.invokestatic 40, 3) := by decide +kernel
theorem dX3_placeBehindBlanks_13 : decode cX3_placeBehindBlanks 13 = .ok (.ifCond .ne 9, 3) := by decide +kernel
theorem dX3_placeBehindBlanks_16 : decode cX3_placeBehindBlanks 16 = .ok (.iinc 3 1, 3) := by decide +kernel
theorem dX3_placeBehindBlanks_19 : decode cX3_placeBehindBlanks 19 = .ok (.goto (-17), 3) := by decide +kernel
theorem dX3_placeBehindBlanks_22 : decode cX3_placeBehindBlanks 22 = .ok (.iload_n 3, 1) := by decide +kernel
theorem dX3_placeBehindBlanks_23 : decode cX3_placeBehindBlanks 23 = .ok (.ireturn, 1) := by decide +kernel
theorem dX3_endOf_0 : decode cX3_endOf 0 = .ok (.iload_n 1, 1) := by decide +kernel
theorem dX3_endOf_1 : decode cX3_endOf 1 = .ok (.iload_n 2, 1) := by decide +kernel
theorem dX3_endOf_2 : decode cX3_endOf 2 = .ok (.if_icmp .lt 5, 3) := by decide +kernel
theorem dX3_endOf_5 : decode cX3_endOf 5 = .ok (.iload_n 2, 1) := by decide +kernel
theorem dX3_endOf_6 : decode cX3_endOf 6 = .ok (.ireturn, 1) := by decide +kernel
theorem dX3_endOf_7 : decode cX3_endOf 7 = .ok (.aload_n 0, 1) := by decide +kernel
theorem dX3_endOf_8 : decode cX3_endOf 8 = .ok (.iload_n 1, 1) := by decide +kernel
theorem dX3_endOf_9 : decode cX3_endOf 9 = .ok (.baload, 1) := by decide +kernel
theorem dX3_endOf_10 : decode cX3_endOf 10 = .ok (.invokestatic 40, 3) := by decide +kernel
theorem dX3_endOf_13 : decode cX3_endOf 13 = .ok (.istore_n 3, 1) := by decide +kernel
theorem dX3_endOf_14 : decode cX3_endOf 14 = .ok (.iload_n 1, 1) := by decide +kernel
theorem dX3_endOf_15 : decode cX3_endOf 15 = .ok (.iconst 1, 1) := by decide +kernel
theorem dX3_endOf_16 : decode cX3_endOf 16 = .ok (.iadd, 1) := by decide +kernel
theorem dX3_endOf_17 : decode cX3_endOf 17 = .ok (.istore 4, 2) := by decide +kernel
theorem dX3_endOf_19 : decode cX3_endOf 19 = .ok (.iload_n 3, 1) := by decide +kernel
theorem dX3_endOf_20 : decode cX3_endOf 20 = .ok (.iconst 3, 1) := by decide +kernel
theorem dX3_endOf_21 : decode cX3_endOf 21 = .ok (.if_icmp .eq 26, 3) := by decide +kernel
theorem dX3_endOf_24 : decode cX3_endOf 24 = .ok (.iload 4, 2) := by decide +kernel
theorem dX3_endOf_26 : decode cX3_endOf 26 = .ok (.iload_n 2, 1) := by decide +kernel
theorem dX3_endOf_27 : decode cX3_endOf 27 = .ok (.if_icmp .ge 20, 3) := by decide +kernel
theorem dX3_endOf_30 : decode cX3_endOf 30 = .ok (.aload_n 0, 1) := by decide +kernel
theorem dX3_endOf_31 : decode cX3_endOf 31 = .ok (.iload 4, 2) := by decide +kernel
theorem dX3_endOf_33 : decode cX3_endOf 33 = .ok (.baload, 1) := by decide +kernel
theorem dX3_endOf_34 : decode cX3_endOf 34 = .ok (.invokestatic 40, 3) := by decide +kernel
theorem dX3_endOf_37 : decode cX3_endOf 37 = .ok (.iload_n 3, 1) := by decide +kernel
theorem dX3_endOf_38 : decode cX3_endOf 38 = .ok (.if_icmp .ne 9, 3) := by decide +kernel
theorem dX3_endOf_41 : decode cX3_endOf 41 = .ok (.iinc 4 1, 3) := by decide +kernel
theorem dX3_endOf_44 : decode cX3_endOf 44 = .ok (.goto (-25), 3) := by decide +kernel
theorem dX3_endOf_47 : decode cX3_endOf 47 = .ok (.iload 4, 2) := by decide +kernel
theorem dX3_endOf_49 : decode cX3_endOf 49 = .ok (.ireturn, 1) := by decide +kernel
theorem dX3_keyOf_0 : decode cX3_keyOf 0 = .ok (.aload_n 0, 1) := by decide +kernel
theorem dX3_keyOf_1 : decode cX3_keyOf 1 = .ok (.iload_n 1, 1) := by decide +kernel
theorem dX3_keyOf_2 : decode cX3_keyOf 2 = .ok (.iload_n 2, 1) := by decide +kernel
theorem dX3_keyOf_3 : decode cX3_keyOf 3 = .ok (.ldc 71, 2) := by decide +kernel
theorem dX3_keyOf_5 : decode cX3_keyOf 5 = .ok (.invokestatic 73, 3) := by decide +kernel
theorem dX3_keyOf_8 : decode cX3_keyOf 8 = .ok (.ifCond .eq 5, 3) := by decide +kernel
theorem dX3_keyOf_11 : decode cX3_keyOf 11 = .ok (.iconst 0, 1) := by decide +kernel
theorem dX3_keyOf_12 : decode cX3_keyOf 12 = .ok (.ireturn, 1) := by decide +kernel
theorem dX3_keyOf_13 : decode cX3_keyOf 13 = .ok (.aload_n 0, 1) := by decide +kernel
theorem dX3_keyOf_14 : decode cX3_keyOf 14 = .ok (.iload_n 1, 1) := by decide +kernel
theorem dX3_keyOf_15 : decode cX3_keyOf 15 = .ok (.iload_n 2, 1) := by decide +kernel
theorem dX3_keyOf_16 : decode cX3_keyOf 16 = .ok (.ldc 77, 2) := by decide +kernel
theorem dX3_keyOf_18 : decode cX3_keyOf 18 = .ok (.invokestatic 73, 3) := by decide +kernel
theorem dX3_keyOf_21 : decode cX3_keyOf 21 = .ok (.ifCond .eq 5, 3) := by decide +kernel
theorem dX3_keyOf_24 : decode cX3_keyOf 24 = .ok (.iconst 1, 1) := by decide +kernel
theorem dX3_keyOf_25 : decode cX3_keyOf 25 = .ok (.ireturn, 1) := by decide +kernel
theorem dX3_keyOf_26 : decode cX3_keyOf 26 = .ok (.aload_n 0, 1) := by decide +kernel
theorem dX3_keyOf_27 : decode cX3_keyOf 27 = .ok (.iload_n 1, 1) := by decide +kernel
theorem dX3_keyOf_28 : decode cX3_keyOf 28 = .ok (.iload_n 2, 1) := by decide +kernel
theorem dX3_keyOf_29 : decode cX3_keyOf 29 = .ok (.ldc 79, 2) := by decide +kernel
theorem dX3_keyOf_31 : decode cX3_keyOf 31 = .ok (.invokestatic 73, 3) := by decide +kernel
theorem dX3_keyOf_34 : decode cX3_keyOf 34 = .ok (.ifCond .eq 7, 3) := by decide +kernel
theorem dX3_keyOf_37 : decode cX3_keyOf 37 = .ok (.iconst 2, 1) := by decide +kernel
theorem dX3_keyOf_38 : decode cX3_keyOf 38 = .ok (.goto 5, 3) := by decide +kernel
theorem dX3_keyOf_41 : decode cX3_keyOf 41 = .ok (.ldc 39, 2) := by decide +kernel
theorem dX3_keyOf_43 : decode cX3_keyOf 43 = .ok (.ireturn, 1) := by decide +kernel
theorem dX3_isWord_0 : decode cX3_isWord 0 = .ok (.iload_n 2, 1) := by decide +kernel
theorem dX3_isWord_1 : decode cX3_isWord 1 = .ok (.iload_n 1, 1) := by decide +kernel
theorem dX3_isWord_2 : decode cX3_isWord 2 = .ok (.isub, 1) := by decide +kernel
theorem dX3_isWord_3 : decode cX3_isWord 3 = .ok (.aload_n 3, 1) := by decide +kernel
theorem dX3_isWord_4 : decode cX3_isWord 4 = .ok (.invokevirtual 81, 3) := by decide +kernel
theorem dX3_isWord_7 : decode cX3_isWord 7 = .ok (.if_icmp .eq 5, 3) := by decide +kernel
theorem dX3_isWord_10 : decode cX3_isWord 10 = .ok (.iconst 0, 1) := by decide +kernel
theorem dX3_isWord_11 : decode cX3_isWord 11 = .ok (.ireturn, 1) := by decide +kernel
theorem dX3_isWord_12 : decode cX3_isWord 12 = .ok (.iconst 0, 1) := by decide +kernel
theorem dX3_isWord_13 : decode cX3_isWord 13 = .ok (.istore 4, 2) := by decide +kernel
theorem dX3_isWord_15 : decode cX3_isWord 15 = .ok (.iload 4, 2) := by decide +kernel
theorem dX3_isWord_17 : decode cX3_isWord 17 = .ok (.aload_n 3, 1) := by decide +kernel
theorem dX3_isWord_18 : decode cX3_isWord 18 = .ok (.invokevirtual 81, 3) := by decide +kernel
theorem dX3_isWord_21 : decode cX3_isWord 21 = .ok (.if_icmp .ge 26, 3) := by decide +kernel
theorem dX3_isWord_24 : decode cX3_isWord 24 = .ok (.aload_n 0, 1) := by decide +kernel
theorem dX3_isWord_25 : decode cX3_isWord 25 = .ok (.iload_n 1, 1) := by decide +kernel
theorem dX3_isWord_26 : decode cX3_isWord 26 = .ok (.iload 4, 2) := by decide +kernel
theorem dX3_isWord_28 : decode cX3_isWord 28 = .ok (.iadd, 1) := by decide +kernel
theorem dX3_isWord_29 : decode cX3_isWord 29 = .ok (.baload, 1) := by decide +kernel
theorem dX3_isWord_30 : decode cX3_isWord 30 = .ok (.aload_n 3, 1) := by decide +kernel
theorem dX3_isWord_31 : decode cX3_isWord 31 = .ok (.iload 4, 2) := by decide +kernel
theorem dX3_isWord_33 : decode cX3_isWord 33 = .ok (.invokevirtual 86, 3) := by decide +kernel
theorem dX3_isWord_36 : decode cX3_isWord 36 = .ok (.if_icmp .eq 5, 3) := by decide +kernel
theorem dX3_isWord_39 : decode cX3_isWord 39 = .ok (.iconst 0, 1) := by decide +kernel
theorem dX3_isWord_40 : decode cX3_isWord 40 = .ok (.ireturn, 1) := by decide +kernel
theorem dX3_isWord_41 : decode cX3_isWord 41 = .ok (.iinc 4 1, 3) := by decide +kernel
theorem dX3_isWord_44 : decode cX3_isWord 44 = .ok (.goto (-29), 3) := by decide +kernel
theorem dX3_isWord_47 : decode cX3_isWord 47 = .ok (.iconst 1, 1) := by decide +kernel
theorem dX3_isWord_48 : decode cX3_isWord 48 = .ok (.ireturn, 1) := by decide +kernel
theorem dX3_goesOnWith_0 : decode cX3_goesOnWith 0 = .ok (.aload_n 1, 1) := by decide +kernel
theorem dX3_goesOnWith_1 : decode cX3_goesOnWith 1 = .ok (.iload_n 2, 1) := by decide +kernel
theorem dX3_goesOnWith_2 : decode cX3_goesOnWith 2 = .ok (.baload, 1) := by decide +kernel
theorem dX3_goesOnWith_3 : decode cX3_goesOnWith 3 = .ok (.invokestatic 40, 3) := by decide +kernel
theorem dX3_goesOnWith_6 : decode cX3_goesOnWith 6 = .ok (.lookupswitch 79 #[(1, 49), (2, 26)], 26) := by decide +kernel
theorem dX3_goesOnWith_32 : decode cX3_goesOnWith 32 = .ok (.aload_n 0, 1) := by decide +kernel
theorem dX3_goesOnWith_33 : decode cX3_goesOnWith 33 = .ok (.getfield 48, 3) := by decide +kernel
theorem dX3_goesOnWith_36 : decode cX3_goesOnWith 36 = .ok (.ifCond .eq 17, 3) := by decide +kernel
theorem dX3_goesOnWith_39 : decode cX3_goesOnWith 39 = .ok (.aload_n 0, 1) := by decide +kernel
theorem dX3_goesOnWith_40 : decode cX3_goesOnWith 40 = .ok (.aload_n 1, 1) := by decide +kernel
theorem dX3_goesOnWith_41 : decode cX3_goesOnWith 41 = .ok (.iload_n 2, 1) := by decide +kernel
theorem dX3_goesOnWith_42 : decode cX3_goesOnWith 42 = .ok (.iload_n 3, 1) := by decide +kernel
theorem dX3_goesOnWith_43 : decode cX3_goesOnWith 43 = .ok (.invokevirtual 90, 3) := by decide +kernel
theorem dX3_goesOnWith_46 : decode cX3_goesOnWith 46 = .ok (.ifCond .eq 7, 3) := by decide +kernel
theorem dX3_goesOnWith_49 : decode cX3_goesOnWith 49 = .ok (.iconst 1, 1) := by decide +kernel
theorem dX3_goesOnWith_50 : decode cX3_goesOnWith 50 = .ok (.goto 4, 3) := by decide +kernel
theorem dX3_goesOnWith_53 : decode cX3_goesOnWith 53 = .ok (.iconst 0, 1) := by decide +kernel
theorem dX3_goesOnWith_54 : decode cX3_goesOnWith 54 = .ok (.ireturn, 1) := by decide +kernel
theorem dX3_goesOnWith_55 : decode cX3_goesOnWith 55 = .ok (.aload_n 0, 1) := by decide +kernel
theorem dX3_goesOnWith_56 : decode cX3_goesOnWith 56 = .ok (.getfield 48, 3) := by decide +kernel
theorem dX3_goesOnWith_59 : decode cX3_goesOnWith 59 = .ok (.ifCond .eq 24, 3) := by decide +kernel
theorem dX3_goesOnWith_62 : decode cX3_goesOnWith 62 = .ok (.iload_n 3, 1) := by decide +kernel
theorem dX3_goesOnWith_63 : decode cX3_goesOnWith 63 = .ok (.iload_n 2, 1) := by decide +kernel
theorem dX3_goesOnWith_64 : decode cX3_goesOnWith 64 = .ok (.isub, 1) := by decide +kernel
theorem dX3_goesOnWith_65 : decode cX3_goesOnWith 65 = .ok (.iconst 1, 1) := by decide +kernel
theorem dX3_goesOnWith_66 : decode cX3_goesOnWith 66 = .ok (.if_icmp .ne 17, 3) := by decide +kernel
theorem dX3_goesOnWith_69 : decode cX3_goesOnWith 69 = .ok (.aload_n 0, 1) := by decide +kernel
theorem dX3_goesOnWith_70 : decode cX3_goesOnWith 70 = .ok (.aload_n 1, 1) := by decide +kernel
theorem dX3_goesOnWith_71 : decode cX3_goesOnWith 71 = .ok (.iload_n 2, 1) := by decide +kernel
theorem dX3_goesOnWith_72 : decode cX3_goesOnWith 72 = .ok (.baload, 1) := by decide +kernel
theorem dX3_goesOnWith_73 : decode cX3_goesOnWith 73 = .ok (.invokevirtual 93, 3) := by decide +kernel
theorem dX3_goesOnWith_76 : decode cX3_goesOnWith 76 = .ok (.ifCond .eq 7, 3) := by decide +kernel
theorem dX3_goesOnWith_79 : decode cX3_goesOnWith 79 = .ok (.iconst 1, 1) := by decide +kernel
theorem dX3_goesOnWith_80 : decode cX3_goesOnWith 80 = .ok (.goto 4, 3) := by decide +kernel
theorem dX3_goesOnWith_83 : decode cX3_goesOnWith 83 = .ok (.iconst 0, 1) := by decide +kernel
theorem dX3_goesOnWith_84 : decode cX3_goesOnWith 84 = .ok (.ireturn, 1) := by decide +kernel
theorem dX3_goesOnWith_85 : decode cX3_goesOnWith 85 = .ok (.aload_n 0, 1) := by decide +kernel
theorem dX3_goesOnWith_86 : decode cX3_goesOnWith 86 = .ok (.getfield 48, 3) := by decide +kernel
theorem dX3_goesOnWith_89 : decode cX3_goesOnWith 89 = .ok (.ifCond .eq 13, 3) := by decide +kernel
theorem dX3_goesOnWith_92 : decode cX3_goesOnWith 92 = .ok (.aload_n 0, 1) := by decide +kernel
theorem dX3_goesOnWith_93 : decode cX3_goesOnWith 93 = .ok (.aload_n 1, 1) := by decide +kernel
theorem dX3_goesOnWith_94 : decode cX3_goesOnWith 94 = .ok (.iload_n 2, 1) := by decide +kernel
theorem dX3_goesOnWith_95 : decode cX3_goesOnWith 95 = .ok (.baload, 1) := by decide +kernel
theorem dX3_goesOnWith_96 : decode cX3_goesOnWith 96 = .ok (.invokevirtual 97, 3) := by decide +kernel
theorem dX3_goesOnWith_99 : decode cX3_goesOnWith 99 = .ok (.goto 25, 3) := by decide +kernel
theorem dX3_goesOnWith_102 : decode cX3_goesOnWith 102 = .ok (.aload_n 1, 1) := by decide +kernel
theorem dX3_goesOnWith_103 : decode cX3_goesOnWith 103 = .ok (.iload_n 2, 1) := by decide +kernel
theorem dX3_goesOnWith_104 : decode cX3_goesOnWith 104 = .ok (.baload, 1) := by decide +kernel
theorem dX3_goesOnWith_105 : decode cX3_goesOnWith 105 = .ok (.bipush 41, 2) := by decide +kernel
theorem dX3_goesOnWith_107 : decode cX3_goesOnWith 107 = .ok (.if_icmp .ne 10, 3) := by decide +kernel
theorem dX3_goesOnWith_110 : decode cX3_goesOnWith 110 = .ok (.aload_n 0, 1) := by decide +kernel
theorem dX3_goesOnWith_111 : decode cX3_goesOnWith 111 = .ok (.invokevirtual 100, 3) := by decide +kernel
theorem dX3_goesOnWith_114 : decode cX3_goesOnWith 114 = .ok (.goto 10, 3) := by decide +kernel
theorem dX3_goesOnWith_117 : decode cX3_goesOnWith 117 = .ok (.aload_n 0, 1) := by decide +kernel
theorem dX3_goesOnWith_118 : decode cX3_goesOnWith 118 = .ok (.aload_n 1, 1) := by decide +kernel
theorem dX3_goesOnWith_119 : decode cX3_goesOnWith 119 = .ok (.iload_n 2, 1) := by decide +kernel
theorem dX3_goesOnWith_120 : decode cX3_goesOnWith 120 = .ok (.baload, 1) := by decide +kernel
theorem dX3_goesOnWith_121 : decode cX3_goesOnWith 121 = .ok (.invokevirtual 104, 3) := by decide +kernel
theorem dX3_goesOnWith_124 : decode cX3_goesOnWith 124 = .ok (.ireturn, 1) := by decide +kernel
theorem dX3_takesNumber_0 : decode cX3_takesNumber 0 = .ok (.iload_n 3, 1) := by decide +kernel
theorem dX3_takesNumber_1 : decode cX3_takesNumber 1 = .ok (.iload_n 2, 1) := by decide +kernel
theorem dX3_takesNumber_2 : decode cX3_takesNumber 2 = .ok (.isub, 1) := by decide +kernel
theorem dX3_takesNumber_3 : decode cX3_takesNumber 3 = .ok (.iconst 4, 1) := by decide +kernel
theorem dX3_takesNumber_4 : decode cX3_takesNumber 4 = .ok (.if_icmp .le 5, 3) := by decide +kernel
theorem dX3_takesNumber_7 : decode cX3_takesNumber 7 = .ok (.iconst 0, 1) := by decide +kernel
theorem dX3_takesNumber_8 : decode cX3_takesNumber 8 = .ok (.ireturn, 1) := by decide +kernel
theorem dX3_takesNumber_9 : decode cX3_takesNumber 9 = .ok (.iconst 0, 1) := by decide +kernel
theorem dX3_takesNumber_10 : decode cX3_takesNumber 10 = .ok (.istore 4, 2) := by decide +kernel
theorem dX3_takesNumber_12 : decode cX3_takesNumber 12 = .ok (.iload_n 2, 1) := by decide +kernel
theorem dX3_takesNumber_13 : decode cX3_takesNumber 13 = .ok (.istore 5, 2) := by decide +kernel
theorem dX3_takesNumber_15 : decode cX3_takesNumber 15 = .ok (.iload 5, 2) := by decide +kernel
theorem dX3_takesNumber_17 : decode cX3_takesNumber 17 = .ok (.iload_n 3, 1) := by decide +kernel
theorem dX3_takesNumber_18 : decode cX3_takesNumber 18 = .ok (.if_icmp .ge 24, 3) := by decide +kernel
theorem dX3_takesNumber_21 : decode cX3_takesNumber 21 = .ok (.bipush 10, 2) := by decide +kernel
theorem dX3_takesNumber_23 : decode cX3_takesNumber 23 = .ok (.iload 4, 2) := by decide +kernel
theorem dX3_takesNumber_25 : decode cX3_takesNumber 25 = .ok (.imul, 1) := by decide +kernel
theorem dX3_takesNumber_26 : decode cX3_takesNumber 26 = .ok (.aload_n 1, 1) := by decide +kernel
theorem dX3_takesNumber_27 : decode cX3_takesNumber 27 = .ok (.iload 5, 2) := by decide +kernel
theorem dX3_takesNumber_29 : decode cX3_takesNumber 29 = .ok (.baload, 1) := by decide +kernel
theorem dX3_takesNumber_30 : decode cX3_takesNumber 30 = .ok (.bipush 48, 2) := by decide +kernel
theorem dX3_takesNumber_32 : decode cX3_takesNumber 32 = .ok (.isub, 1) := by decide +kernel
theorem dX3_takesNumber_33 : decode cX3_takesNumber 33 = .ok (.iadd, 1) := by decide +kernel
theorem dX3_takesNumber_34 : decode cX3_takesNumber 34 = .ok (.istore 4, 2) := by decide +kernel
theorem dX3_takesNumber_36 : decode cX3_takesNumber 36 = .ok (.iinc 5 1, 3) := by decide +kernel
theorem dX3_takesNumber_39 : decode cX3_takesNumber 39 = .ok (.goto (-24), 3) := by decide +kernel
theorem dX3_takesNumber_42 : decode cX3_takesNumber 42 = .ok (.aload_n 0, 1) := by decide +kernel
theorem dX3_takesNumber_43 : decode cX3_takesNumber 43 = .ok (.iload 4, 2) := by decide +kernel
theorem dX3_takesNumber_45 : decode cX3_takesNumber 45 = .ok (.invokevirtual 107, 3) := by decide +kernel
theorem dX3_takesNumber_48 : decode cX3_takesNumber 48 = .ok (.iconst 1, 1) := by decide +kernel
theorem dX3_takesNumber_49 : decode cX3_takesNumber 49 = .ok (.ireturn, 1) := by decide +kernel
theorem dX3_takesName_0 : decode cX3_takesName 0 = .ok (.aload_n 0, 1) := by decide +kernel
theorem dX3_takesName_1 : decode cX3_takesName 1 = .ok (.getfield 35, 3) := by decide +kernel
theorem dX3_takesName_4 : decode cX3_takesName 4 = .ok (.ifCond .ne 8, 3) := by decide +kernel
theorem dX3_takesName_7 : decode cX3_takesName 7 = .ok (.ldc 110, 2) := by decide +kernel
theorem dX3_takesName_9 : decode cX3_takesName 9 = .ok (.goto 18, 3) := by decide +kernel
theorem dX3_takesName_12 : decode cX3_takesName 12 = .ok (.aload_n 0, 1) := by decide +kernel
theorem dX3_takesName_13 : decode cX3_takesName 13 = .ok (.getfield 35, 3) := by decide +kernel
theorem dX3_takesName_16 : decode cX3_takesName 16 = .ok (.iconst 1, 1) := by decide +kernel
theorem dX3_takesName_17 : decode cX3_takesName 17 = .ok (.if_icmp .ne 8, 3) := by decide +kernel
theorem dX3_takesName_20 : decode cX3_takesName 20 = .ok (.ldc 112, 2) := by decide +kernel
theorem dX3_takesName_22 : decode cX3_takesName 22 = .ok (.goto 5, 3) := by decide +kernel
theorem dX3_takesName_25 : decode cX3_takesName 25 = .ok (.ldc 114, 2) := by decide +kernel
theorem dX3_takesName_27 : decode cX3_takesName 27 = .ok (.astore_n 2, 1) := by decide +kernel
theorem dX3_takesName_28 : decode cX3_takesName 28 = .ok (.aload_n 2, 1) := by decide +kernel
theorem dX3_takesName_29 : decode cX3_takesName 29 = .ok (.iload_n 1, 1) := by decide +kernel
theorem dX3_takesName_30 : decode cX3_takesName 30 = .ok (.i2c, 1) := by decide +kernel
theorem dX3_takesName_31 : decode cX3_takesName 31 = .ok (.invokevirtual 116, 3) := by decide +kernel
theorem dX3_takesName_34 : decode cX3_takesName 34 = .ok (.istore_n 3, 1) := by decide +kernel
theorem dX3_takesName_35 : decode cX3_takesName 35 = .ok (.iload_n 3, 1) := by decide +kernel
theorem dX3_takesName_36 : decode cX3_takesName 36 = .ok (.ifCond .ge 5, 3) := by decide +kernel
theorem dX3_takesName_39 : decode cX3_takesName 39 = .ok (.iconst 0, 1) := by decide +kernel
theorem dX3_takesName_40 : decode cX3_takesName 40 = .ok (.ireturn, 1) := by decide +kernel
theorem dX3_takesName_41 : decode cX3_takesName 41 = .ok (.aload_n 0, 1) := by decide +kernel
theorem dX3_takesName_42 : decode cX3_takesName 42 = .ok (.iconst (-1), 1) := by decide +kernel
theorem dX3_takesName_43 : decode cX3_takesName 43 = .ok (.iload_n 3, 1) := by decide +kernel
theorem dX3_takesName_44 : decode cX3_takesName 44 = .ok (.isub, 1) := by decide +kernel
theorem dX3_takesName_45 : decode cX3_takesName 45 = .ok (.invokevirtual 107, 3) := by decide +kernel
theorem dX3_takesName_48 : decode cX3_takesName 48 = .ok (.iconst 1, 1) := by decide +kernel
theorem dX3_takesName_49 : decode cX3_takesName 49 = .ok (.ireturn, 1) := by decide +kernel
theorem dX3_takePiece_0 : decode cX3_takePiece 0 = .ok (.aload_n 0, 1) := by decide +kernel
theorem dX3_takePiece_1 : decode cX3_takePiece 1 = .ok (.dup, 1) := by decide +kernel
theorem dX3_takePiece_2 : decode cX3_takePiece 2 = .ok (.getfield 59, 3) := by decide +kernel
theorem dX3_takePiece_5 : decode cX3_takePiece 5 = .ok (.iconst 1, 1) := by decide +kernel
theorem dX3_takePiece_6 : decode cX3_takePiece 6 = .ok (.iadd, 1) := by decide +kernel
theorem dX3_takePiece_7 : decode cX3_takePiece 7 = .ok (.putfield 59, 3) := by decide +kernel
theorem dX3_takePiece_10 : decode cX3_takePiece 10 = .ok (.aload_n 0, 1) := by decide +kernel
theorem dX3_takePiece_11 : decode cX3_takePiece 11 = .ok (.iload_n 1, 1) := by decide +kernel
theorem dX3_takePiece_12 : decode cX3_takePiece 12 = .ok (.invokevirtual 120, 3) := by decide +kernel
theorem dX3_takePiece_15 : decode cX3_takePiece 15 = .ok (.aload_n 0, 1) := by decide +kernel
theorem dX3_takePiece_16 : decode cX3_takePiece 16 = .ok (.invokevirtual 123, 3) := by decide +kernel
theorem dX3_takePiece_19 : decode cX3_takePiece 19 = .ok (.return_, 1) := by decide +kernel
theorem dX3_opens_0 : decode cX3_opens 0 = .ok (.iload_n 1, 1) := by decide +kernel
theorem dX3_opens_1 : decode cX3_opens 1 = .ok (.bipush 33, 2) := by decide +kernel
theorem dX3_opens_3 : decode cX3_opens 3 = .ok (.if_icmp .ne 29, 3) := by decide +kernel
theorem dX3_opens_6 : decode cX3_opens 6 = .ok (.aload_n 0, 1) := by decide +kernel
theorem dX3_opens_7 : decode cX3_opens 7 = .ok (.getfield 68, 3) := by decide +kernel
theorem dX3_opens_10 : decode cX3_opens 10 = .ok (.bipush 8, 2) := by decide +kernel
theorem dX3_opens_12 : decode cX3_opens 12 = .ok (.if_icmp .ge 20, 3) := by decide +kernel
theorem dX3_opens_15 : decode cX3_opens 15 = .ok (.aload_n 0, 1) := by decide +kernel
theorem dX3_opens_16 : decode cX3_opens 16 = .ok (.dup, 1) := by decide +kernel
theorem dX3_opens_17 : decode cX3_opens 17 = .ok (.getfield 68, 3) := by decide +kernel
theorem dX3_opens_20 : decode cX3_opens 20 = .ok (.iconst 1, 1) := by decide +kernel
theorem dX3_opens_21 : decode cX3_opens 21 = .ok (.iadd, 1) := by decide +kernel
theorem dX3_opens_22 : decode cX3_opens 22 = .ok (.putfield 68, 3) := by decide +kernel
theorem dX3_opens_25 : decode cX3_opens 25 = .ok (.aload_n 0, 1) := by decide +kernel
theorem dX3_opens_26 : decode cX3_opens 26 = .ok (.iload_n 1, 1) := by decide +kernel
theorem dX3_opens_27 : decode cX3_opens 27 = .ok (.invokevirtual 126, 3) := by decide +kernel
theorem dX3_opens_30 : decode cX3_opens 30 = .ok (.iconst 1, 1) := by decide +kernel
theorem dX3_opens_31 : decode cX3_opens 31 = .ok (.ireturn, 1) := by decide +kernel
theorem dX3_opens_32 : decode cX3_opens 32 = .ok (.iload_n 1, 1) := by decide +kernel
theorem dX3_opens_33 : decode cX3_opens 33 = .ok (.bipush 40, 2) := by decide +kernel
theorem dX3_opens_35 : decode cX3_opens 35 = .ok (.if_icmp .ne 39, 3) := by decide +kernel
theorem dX3_opens_38 : decode cX3_opens 38 = .ok (.aload_n 0, 1) := by decide +kernel
theorem dX3_opens_39 : decode cX3_opens 39 = .ok (.getfield 52, 3) := by decide +kernel
theorem dX3_opens_42 : decode cX3_opens 42 = .ok (.bipush 8, 2) := by decide +kernel
theorem dX3_opens_44 : decode cX3_opens 44 = .ok (.if_icmp .ge 30, 3) := by decide +kernel
theorem dX3_opens_47 : decode cX3_opens 47 = .ok (.aload_n 0, 1) := by decide +kernel
theorem dX3_opens_48 : decode cX3_opens 48 = .ok (.dup, 1) := by decide +kernel
theorem dX3_opens_49 : decode cX3_opens 49 = .ok (.getfield 52, 3) := by decide +kernel
theorem dX3_opens_52 : decode cX3_opens 52 = .ok (.iconst 1, 1) := by decide +kernel
theorem dX3_opens_53 : decode cX3_opens 53 = .ok (.iadd, 1) := by decide +kernel
theorem dX3_opens_54 : decode cX3_opens 54 = .ok (.putfield 52, 3) := by decide +kernel
theorem dX3_opens_57 : decode cX3_opens 57 = .ok (.aload_n 0, 1) := by decide +kernel
theorem dX3_opens_58 : decode cX3_opens 58 = .ok (.getfield 18, 3) := by decide +kernel
theorem dX3_opens_61 : decode cX3_opens 61 = .ok (.aload_n 0, 1) := by decide +kernel
theorem dX3_opens_62 : decode cX3_opens 62 = .ok (.getfield 52, 3) := by decide +kernel
theorem dX3_opens_65 : decode cX3_opens 65 = .ok (.iconst 0, 1) := by decide +kernel
theorem dX3_opens_66 : decode cX3_opens 66 = .ok (.bastore, 1) := by decide +kernel
theorem dX3_opens_67 : decode cX3_opens 67 = .ok (.aload_n 0, 1) := by decide +kernel
theorem dX3_opens_68 : decode cX3_opens 68 = .ok (.iload_n 1, 1) := by decide +kernel
theorem dX3_opens_69 : decode cX3_opens 69 = .ok (.invokevirtual 126, 3) := by decide +kernel
theorem dX3_opens_72 : decode cX3_opens 72 = .ok (.iconst 1, 1) := by decide +kernel
theorem dX3_opens_73 : decode cX3_opens 73 = .ok (.ireturn, 1) := by decide +kernel
theorem dX3_opens_74 : decode cX3_opens 74 = .ok (.iconst 0, 1) := by decide +kernel
theorem dX3_opens_75 : decode cX3_opens 75 = .ok (.ireturn, 1) := by decide +kernel
theorem dX3_closes_0 : decode cX3_closes 0 = .ok (.aload_n 0, 1) := by decide +kernel
theorem dX3_closes_1 : decode cX3_closes 1 = .ok (.getfield 52, 3) := by decide +kernel
theorem dX3_closes_4 : decode cX3_closes 4 = .ok (.ifCond .ne 5, 3) := by decide +kernel
theorem dX3_closes_7 : decode cX3_closes 7 = .ok (.iconst 0, 1) := by decide +kernel
theorem dX3_closes_8 : decode cX3_closes 8 = .ok (.ireturn, 1) := by decide +kernel
theorem dX3_closes_9 : decode cX3_closes 9 = .ok (.aload_n 0, 1) := by decide +kernel
theorem dX3_closes_10 : decode cX3_closes 10 = .ok (.iconst 0, 1) := by decide +kernel
theorem dX3_closes_11 : decode cX3_closes 11 = .ok (.invokevirtual 55, 3) := by decide +kernel
theorem dX3_closes_14 : decode cX3_closes 14 = .ok (.aload_n 0, 1) := by decide +kernel
theorem dX3_closes_15 : decode cX3_closes 15 = .ok (.getfield 65, 3) := by decide +kernel
theorem dX3_closes_18 : decode cX3_closes 18 = .ok (.ifCond .le 13, 3) := by decide +kernel
theorem dX3_closes_21 : decode cX3_closes 21 = .ok (.aload_n 0, 1) := by decide +kernel
theorem dX3_closes_22 : decode cX3_closes 22 = .ok (.dup, 1) := by decide +kernel
theorem dX3_closes_23 : decode cX3_closes 23 = .ok (.getfield 65, 3) := by decide +kernel
theorem dX3_closes_26 : decode cX3_closes 26 = .ok (.iconst 1, 1) := by decide +kernel
theorem dX3_closes_27 : decode cX3_closes 27 = .ok (.isub, 1) := by decide +kernel
theorem dX3_closes_28 : decode cX3_closes 28 = .ok (.putfield 65, 3) := by decide +kernel
theorem dX3_closes_31 : decode cX3_closes 31 = .ok (.aload_n 0, 1) := by decide +kernel
theorem dX3_closes_32 : decode cX3_closes 32 = .ok (.dup, 1) := by decide +kernel
theorem dX3_closes_33 : decode cX3_closes 33 = .ok (.getfield 52, 3) := by decide +kernel
theorem dX3_closes_36 : decode cX3_closes 36 = .ok (.iconst 1, 1) := by decide +kernel
theorem dX3_closes_37 : decode cX3_closes 37 = .ok (.isub, 1) := by decide +kernel
theorem dX3_closes_38 : decode cX3_closes 38 = .ok (.putfield 52, 3) := by decide +kernel
theorem dX3_closes_41 : decode cX3_closes 41 = .ok (.aload_n 0, 1) := by decide +kernel
theorem dX3_closes_42 : decode cX3_closes 42 = .ok (.invokevirtual 123, 3) := by decide +kernel
theorem dX3_closes_45 : decode cX3_closes 45 = .ok (.iconst 1, 1) := by decide +kernel
theorem dX3_closes_46 : decode cX3_closes 46 = .ok (.ireturn, 1) := by decide +kernel
theorem dX3_endPiece_0 : decode cX3_endPiece 0 = .ok (.aload_n 0, 1) := by decide +kernel
theorem dX3_endPiece_1 : decode cX3_endPiece 1 = .ok (.getfield 65, 3) := by decide +kernel
theorem dX3_endPiece_4 : decode cX3_endPiece 4 = .ok (.ifCond .le 48, 3) := by decide +kernel
theorem dX3_endPiece_7 : decode cX3_endPiece 7 = .ok (.aload_n 0, 1) := by decide +kernel
theorem dX3_endPiece_8 : decode cX3_endPiece 8 = .ok (.getfield 15, 3) := by decide +kernel
theorem dX3_endPiece_11 : decode cX3_endPiece 11 = .ok (.aload_n 0, 1) := by decide +kernel
theorem dX3_endPiece_12 : decode cX3_endPiece 12 = .ok (.getfield 65, 3) := by decide +kernel
theorem dX3_endPiece_15 : decode cX3_endPiece 15 = .ok (.iconst 1, 1) := by decide +kernel
theorem dX3_endPiece_16 : decode cX3_endPiece 16 = .ok (.isub, 1) := by decide +kernel
theorem dX3_endPiece_17 : decode cX3_endPiece 17 = .ok (.iaload, 1) := by decide +kernel
theorem dX3_endPiece_18 : decode cX3_endPiece 18 = .ok (.bipush 33, 2) := by decide +kernel
theorem dX3_endPiece_20 : decode cX3_endPiece 20 = .ok (.if_icmp .ne 32, 3) := by decide +kernel
theorem dX3_endPiece_23 : decode cX3_endPiece 23 = .ok (.aload_n 0, 1) := by decide +kernel
theorem dX3_endPiece_24 : decode cX3_endPiece 24 = .ok (.dup, 1) := by decide +kernel
theorem dX3_endPiece_25 : decode cX3_endPiece 25 = .ok (.getfield 65, 3) := by decide +kernel
theorem dX3_endPiece_28 : decode cX3_endPiece 28 = .ok (.iconst 1, 1) := by decide +kernel
theorem dX3_endPiece_29 : decode cX3_endPiece 29 = .ok (.isub, 1) := by decide +kernel
theorem dX3_endPiece_30 : decode cX3_endPiece 30 = .ok (.putfield 65, 3) := by decide +kernel
theorem dX3_endPiece_33 : decode cX3_endPiece 33 = .ok (.aload_n 0, 1) := by decide +kernel
theorem dX3_endPiece_34 : decode cX3_endPiece 34 = .ok (.dup, 1) := by decide +kernel
theorem dX3_endPiece_35 : decode cX3_endPiece 35 = .ok (.getfield 68, 3) := by decide +kernel
theorem dX3_endPiece_38 : decode cX3_endPiece 38 = .ok (.iconst 1, 1) := by decide +kernel
theorem dX3_endPiece_39 : decode cX3_endPiece 39 = .ok (.isub, 1) := by decide +kernel
theorem dX3_endPiece_40 : decode cX3_endPiece 40 = .ok (.putfield 68, 3) := by decide +kernel
theorem dX3_endPiece_43 : decode cX3_endPiece 43 = .ok (.aload_n 0, 1) := by decide +kernel
theorem dX3_endPiece_44 : decode cX3_endPiece 44 = .ok (.bipush (-33), 2) := by decide +kernel
theorem dX3_endPiece_46 : decode cX3_endPiece 46 = .ok (.invokevirtual 120, 3) := by decide +kernel
theorem dX3_endPiece_49 : decode cX3_endPiece 49 = .ok (.goto (-49), 3) := by decide +kernel
theorem dX3_endPiece_52 : decode cX3_endPiece 52 = .ok (.aload_n 0, 1) := by decide +kernel
theorem dX3_endPiece_53 : decode cX3_endPiece 53 = .ok (.iconst 0, 1) := by decide +kernel
theorem dX3_endPiece_54 : decode cX3_endPiece 54 = .ok (.putfield 48, 3) := by decide +kernel
theorem dX3_endPiece_57 : decode cX3_endPiece 57 = .ok (.return_, 1) := by decide +kernel
theorem dX3_joins_0 : decode cX3_joins 0 = .ok (.iload_n 1, 1) := by decide +kernel
theorem dX3_joins_1 : decode cX3_joins 1 = .ok (.invokestatic 129, 3) := by decide +kernel
theorem dX3_joins_4 : decode cX3_joins 4 = .ok (.istore_n 2, 1) := by decide +kernel
theorem dX3_joins_5 : decode cX3_joins 5 = .ok (.iload_n 2, 1) := by decide +kernel
theorem dX3_joins_6 : decode cX3_joins 6 = .ok (.iconst 3, 1) := by decide +kernel
theorem dX3_joins_7 : decode cX3_joins 7 = .ok (.if_icmp .ne 7, 3) := by decide +kernel
theorem dX3_joins_10 : decode cX3_joins 10 = .ok (.iconst 1, 1) := by decide +kernel
theorem dX3_joins_11 : decode cX3_joins 11 = .ok (.goto 4, 3) := by decide +kernel
theorem dX3_joins_14 : decode cX3_joins 14 = .ok (.iconst 0, 1) := by decide +kernel
theorem dX3_joins_15 : decode cX3_joins 15 = .ok (.istore_n 3, 1) := by decide +kernel
theorem dX3_joins_16 : decode cX3_joins 16 = .ok (.iload_n 2, 1) := by decide +kernel
theorem dX3_joins_17 : decode cX3_joins 17 = .ok (.ifCond .eq 19, 3) := by decide +kernel
theorem dX3_joins_20 : decode cX3_joins 20 = .ok (.iload_n 3, 1) := by decide +kernel
theorem dX3_joins_21 : decode cX3_joins 21 = .ok (.ifCond .eq 17, 3) := by decide +kernel
theorem dX3_joins_24 : decode cX3_joins 24 = .ok (.aload_n 0, 1) := by decide +kernel
theorem dX3_joins_25 : decode cX3_joins 25 = .ok (.getfield 18, 3) := by decide +kernel
theorem dX3_joins_28 : decode cX3_joins 28 = .ok (.aload_n 0, 1) := by decide +kernel
theorem dX3_joins_29 : decode cX3_joins 29 = .ok (.getfield 52, 3) := by decide +kernel
theorem dX3_joins_32 : decode cX3_joins 32 = .ok (.baload, 1) := by decide +kernel
theorem dX3_joins_33 : decode cX3_joins 33 = .ok (.ifCond .eq 5, 3) := by decide +kernel
theorem dX3_joins_36 : decode cX3_joins 36 = .ok (.iconst 0, 1) := by decide +kernel
theorem dX3_joins_37 : decode cX3_joins 37 = .ok (.ireturn, 1) := by decide +kernel
theorem dX3_joins_38 : decode cX3_joins 38 = .ok (.aload_n 0, 1) := by decide +kernel
theorem dX3_joins_39 : decode cX3_joins 39 = .ok (.iload_n 2, 1) := by decide +kernel
theorem dX3_joins_40 : decode cX3_joins 40 = .ok (.invokevirtual 55, 3) := by decide +kernel
theorem dX3_joins_43 : decode cX3_joins 43 = .ok (.aload_n 0, 1) := by decide +kernel
theorem dX3_joins_44 : decode cX3_joins 44 = .ok (.iload_n 1, 1) := by decide +kernel
theorem dX3_joins_45 : decode cX3_joins 45 = .ok (.invokevirtual 126, 3) := by decide +kernel
theorem dX3_joins_48 : decode cX3_joins 48 = .ok (.iload_n 2, 1) := by decide +kernel
theorem dX3_joins_49 : decode cX3_joins 49 = .ok (.iconst 3, 1) := by decide +kernel
theorem dX3_joins_50 : decode cX3_joins 50 = .ok (.if_icmp .gt 13, 3) := by decide +kernel
theorem dX3_joins_53 : decode cX3_joins 53 = .ok (.aload_n 0, 1) := by decide +kernel
theorem dX3_joins_54 : decode cX3_joins 54 = .ok (.getfield 18, 3) := by decide +kernel
theorem dX3_joins_57 : decode cX3_joins 57 = .ok (.aload_n 0, 1) := by decide +kernel
theorem dX3_joins_58 : decode cX3_joins 58 = .ok (.getfield 52, 3) := by decide +kernel
theorem dX3_joins_61 : decode cX3_joins 61 = .ok (.iload_n 3, 1) := by decide +kernel
theorem dX3_joins_62 : decode cX3_joins 62 = .ok (.bastore, 1) := by decide +kernel
theorem dX3_joins_63 : decode cX3_joins 63 = .ok (.aload_n 0, 1) := by decide +kernel
theorem dX3_joins_64 : decode cX3_joins 64 = .ok (.iconst 1, 1) := by decide +kernel
theorem dX3_joins_65 : decode cX3_joins 65 = .ok (.putfield 48, 3) := by decide +kernel
theorem dX3_joins_68 : decode cX3_joins 68 = .ok (.iconst 1, 1) := by decide +kernel
theorem dX3_joins_69 : decode cX3_joins 69 = .ok (.ireturn, 1) := by decide +kernel
theorem dX3_tightnessOf_0 : decode cX3_tightnessOf 0 = .ok (.iload_n 0, 1) := by decide +kernel
theorem dX3_tightnessOf_1 : decode cX3_tightnessOf 1 = .ok (.lookupswitch 93 #[(38, 85), (42, 91), (43, 89), (45, 89), (47, 91), (60, 87), (61, 87), (62, 87), (124, 83)], 83) := by decide +kernel
theorem dX3_tightnessOf_84 : decode cX3_tightnessOf 84 = .ok (.iconst 1, 1) := by decide +kernel
theorem dX3_tightnessOf_85 : decode cX3_tightnessOf 85 = .ok (.ireturn, 1) := by decide +kernel
theorem dX3_tightnessOf_86 : decode cX3_tightnessOf 86 = .ok (.iconst 2, 1) := by decide +kernel
theorem dX3_tightnessOf_87 : decode cX3_tightnessOf 87 = .ok (.ireturn, 1) := by decide +kernel
theorem dX3_tightnessOf_88 : decode cX3_tightnessOf 88 = .ok (.iconst 3, 1) := by decide +kernel
theorem dX3_tightnessOf_89 : decode cX3_tightnessOf 89 = .ok (.ireturn, 1) := by decide +kernel
theorem dX3_tightnessOf_90 : decode cX3_tightnessOf 90 = .ok (.iconst 4, 1) := by decide +kernel
theorem dX3_tightnessOf_91 : decode cX3_tightnessOf 91 = .ok (.ireturn, 1) := by decide +kernel
theorem dX3_tightnessOf_92 : decode cX3_tightnessOf 92 = .ok (.iconst 5, 1) := by decide +kernel
theorem dX3_tightnessOf_93 : decode cX3_tightnessOf 93 = .ok (.ireturn, 1) := by decide +kernel
theorem dX3_tightnessOf_94 : decode cX3_tightnessOf 94 = .ok (.iconst 0, 1) := by decide +kernel
theorem dX3_tightnessOf_95 : decode cX3_tightnessOf 95 = .ok (.ireturn, 1) := by decide +kernel
theorem dX3_putDownFrom_0 : decode cX3_putDownFrom 0 = .ok (.aload_n 0, 1) := by decide +kernel
theorem dX3_putDownFrom_1 : decode cX3_putDownFrom 1 = .ok (.getfield 65, 3) := by decide +kernel
theorem dX3_putDownFrom_4 : decode cX3_putDownFrom 4 = .ok (.ifCond .le 64, 3) := by decide +kernel
theorem dX3_putDownFrom_7 : decode cX3_putDownFrom 7 = .ok (.aload_n 0, 1) := by decide +kernel
theorem dX3_putDownFrom_8 : decode cX3_putDownFrom 8 = .ok (.getfield 15, 3) := by decide +kernel
theorem dX3_putDownFrom_11 : decode cX3_putDownFrom 11 = .ok (.aload_n 0, 1) := by decide +kernel
theorem dX3_putDownFrom_12 : decode cX3_putDownFrom 12 = .ok (.getfield 65, 3) := by decide +kernel
theorem dX3_putDownFrom_15 : decode cX3_putDownFrom 15 = .ok (.iconst 1, 1) := by decide +kernel
theorem dX3_putDownFrom_16 : decode cX3_putDownFrom 16 = .ok (.isub, 1) := by decide +kernel
theorem dX3_putDownFrom_17 : decode cX3_putDownFrom 17 = .ok (.iaload, 1) := by decide +kernel
theorem dX3_putDownFrom_18 : decode cX3_putDownFrom 18 = .ok (.bipush 40, 2) := by decide +kernel
theorem dX3_putDownFrom_20 : decode cX3_putDownFrom 20 = .ok (.if_icmp .eq 48, 3) := by decide +kernel
theorem dX3_putDownFrom_23 : decode cX3_putDownFrom 23 = .ok (.aload_n 0, 1) := by decide +kernel
theorem dX3_putDownFrom_24 : decode cX3_putDownFrom 24 = .ok (.getfield 15, 3) := by decide +kernel
theorem dX3_putDownFrom_27 : decode cX3_putDownFrom 27 = .ok (.aload_n 0, 1) := by decide +kernel
theorem dX3_putDownFrom_28 : decode cX3_putDownFrom 28 = .ok (.getfield 65, 3) := by decide +kernel
theorem dX3_putDownFrom_31 : decode cX3_putDownFrom 31 = .ok (.iconst 1, 1) := by decide +kernel
theorem dX3_putDownFrom_32 : decode cX3_putDownFrom 32 = .ok (.isub, 1) := by decide +kernel
theorem dX3_putDownFrom_33 : decode cX3_putDownFrom 33 = .ok (.iaload, 1) := by decide +kernel
theorem dX3_putDownFrom_34 : decode cX3_putDownFrom 34 = .ok (.invokestatic 129, 3) := by decide +kernel
theorem dX3_putDownFrom_37 : decode cX3_putDownFrom 37 = .ok (.iload_n 1, 1) := by decide +kernel
theorem dX3_putDownFrom_38 : decode cX3_putDownFrom 38 = .ok (.if_icmp .lt 30, 3) := by decide +kernel
theorem dX3_putDownFrom_41 : decode cX3_putDownFrom 41 = .ok (.aload_n 0, 1) := by decide +kernel
theorem dX3_putDownFrom_42 : decode cX3_putDownFrom 42 = .ok (.dup, 1) := by decide +kernel
theorem dX3_putDownFrom_43 : decode cX3_putDownFrom 43 = .ok (.getfield 65, 3) := by decide +kernel
theorem dX3_putDownFrom_46 : decode cX3_putDownFrom 46 = .ok (.iconst 1, 1) := by decide +kernel
theorem dX3_putDownFrom_47 : decode cX3_putDownFrom 47 = .ok (.isub, 1) := by decide +kernel
theorem dX3_putDownFrom_48 : decode cX3_putDownFrom 48 = .ok (.putfield 65, 3) := by decide +kernel
theorem dX3_putDownFrom_51 : decode cX3_putDownFrom 51 = .ok (.aload_n 0, 1) := by decide +kernel
theorem dX3_putDownFrom_52 : decode cX3_putDownFrom 52 = .ok (.aload_n 0, 1) := by decide +kernel
theorem dX3_putDownFrom_53 : decode cX3_putDownFrom 53 = .ok (.getfield 15, 3) := by decide +kernel
theorem dX3_putDownFrom_56 : decode cX3_putDownFrom 56 = .ok (.aload_n 0, 1) := by decide +kernel
theorem dX3_putDownFrom_57 : decode cX3_putDownFrom 57 = .ok (.getfield 65, 3) := by decide +kernel
theorem dX3_putDownFrom_60 : decode cX3_putDownFrom 60 = .ok (.iaload, 1) := by decide +kernel
theorem dX3_putDownFrom_61 : decode cX3_putDownFrom 61 = .ok (.ineg, 1) := by decide +kernel
theorem dX3_putDownFrom_62 : decode cX3_putDownFrom 62 = .ok (.invokevirtual 120, 3) := by decide +kernel
theorem dX3_putDownFrom_65 : decode cX3_putDownFrom 65 = .ok (.goto (-65), 3) := by decide +kernel
theorem dX3_putDownFrom_68 : decode cX3_putDownFrom 68 = .ok (.return_, 1) := by decide +kernel
theorem dX3_putDown_0 : decode cX3_putDown 0 = .ok (.aload_n 0, 1) := by decide +kernel
theorem dX3_putDown_1 : decode cX3_putDown 1 = .ok (.getfield 62, 3) := by decide +kernel
theorem dX3_putDown_4 : decode cX3_putDown 4 = .ok (.aload_n 0, 1) := by decide +kernel
theorem dX3_putDown_5 : decode cX3_putDown 5 = .ok (.getfield 9, 3) := by decide +kernel
theorem dX3_putDown_8 : decode cX3_putDown 8 = .ok (.arraylength, 1) := by decide +kernel
theorem dX3_putDown_9 : decode cX3_putDown 9 = .ok (.if_icmp .ge 23, 3) := by decide +kernel
theorem dX3_putDown_12 : decode cX3_putDown 12 = .ok (.aload_n 0, 1) := by decide +kernel
theorem dX3_putDown_13 : decode cX3_putDown 13 = .ok (.getfield 9, 3) := by decide +kernel
theorem dX3_putDown_16 : decode cX3_putDown 16 = .ok (.aload_n 0, 1) := by decide +kernel
theorem dX3_putDown_17 : decode cX3_putDown 17 = .ok (.getfield 62, 3) := by decide +kernel
theorem dX3_putDown_20 : decode cX3_putDown 20 = .ok (.iload_n 1, 1) := by decide +kernel
theorem dX3_putDown_21 : decode cX3_putDown 21 = .ok (.iastore, 1) := by decide +kernel
theorem dX3_putDown_22 : decode cX3_putDown 22 = .ok (.aload_n 0, 1) := by decide +kernel
theorem dX3_putDown_23 : decode cX3_putDown 23 = .ok (.dup, 1) := by decide +kernel
theorem dX3_putDown_24 : decode cX3_putDown 24 = .ok (.getfield 62, 3) := by decide +kernel
theorem dX3_putDown_27 : decode cX3_putDown 27 = .ok (.iconst 1, 1) := by decide +kernel
theorem dX3_putDown_28 : decode cX3_putDown 28 = .ok (.iadd, 1) := by decide +kernel
theorem dX3_putDown_29 : decode cX3_putDown 29 = .ok (.putfield 62, 3) := by decide +kernel
theorem dX3_putDown_32 : decode cX3_putDown 32 = .ok (.return_, 1) := by decide +kernel
theorem dX3_push_0 : decode cX3_push 0 = .ok (.aload_n 0, 1) := by decide +kernel
theorem dX3_push_1 : decode cX3_push 1 = .ok (.getfield 65, 3) := by decide +kernel
theorem dX3_push_4 : decode cX3_push 4 = .ok (.aload_n 0, 1) := by decide +kernel
theorem dX3_push_5 : decode cX3_push 5 = .ok (.getfield 15, 3) := by decide +kernel
theorem dX3_push_8 : decode cX3_push 8 = .ok (.arraylength, 1) := by decide +kernel
theorem dX3_push_9 : decode cX3_push 9 = .ok (.if_icmp .ge 23, 3) := by decide +kernel
theorem dX3_push_12 : decode cX3_push 12 = .ok (.aload_n 0, 1) := by decide +kernel
theorem dX3_push_13 : decode cX3_push 13 = .ok (.getfield 15, 3) := by decide +kernel
theorem dX3_push_16 : decode cX3_push 16 = .ok (.aload_n 0, 1) := by decide +kernel
theorem dX3_push_17 : decode cX3_push 17 = .ok (.getfield 65, 3) := by decide +kernel
theorem dX3_push_20 : decode cX3_push 20 = .ok (.iload_n 1, 1) := by decide +kernel
theorem dX3_push_21 : decode cX3_push 21 = .ok (.iastore, 1) := by decide +kernel
theorem dX3_push_22 : decode cX3_push 22 = .ok (.aload_n 0, 1) := by decide +kernel
theorem dX3_push_23 : decode cX3_push 23 = .ok (.dup, 1) := by decide +kernel
theorem dX3_push_24 : decode cX3_push 24 = .ok (.getfield 65, 3) := by decide +kernel
theorem dX3_push_27 : decode cX3_push 27 = .ok (.iconst 1, 1) := by decide +kernel
theorem dX3_push_28 : decode cX3_push 28 = .ok (.iadd, 1) := by decide +kernel
theorem dX3_push_29 : decode cX3_push 29 = .ok (.putfield 65, 3) := by decide +kernel
theorem dX3_push_32 : decode cX3_push 32 = .ok (.return_, 1) := by decide +kernel
theorem dX4_init_0 : decode cX4_init 0 = .ok (.aload_n 0, 1) := by decide +kernel
theorem dX4_init_1 : decode cX4_init 1 = .ok (.invokespecial 3, 3) := by decide +kernel
theorem dX4_init_4 : decode cX4_init 4 = .ok (.aload_n 0, 1) := by decide +kernel
theorem dX4_init_5 : decode cX4_init 5 = .ok (.iconst (-1), 1) := by decide +kernel
theorem dX4_init_6 : decode cX4_init 6 = .ok (.putfield 9, 3) := by decide +kernel
theorem dX4_init_9 : decode cX4_init 9 = .ok (.aload_n 0, 1) := by decide +kernel
theorem dX4_init_10 : decode cX4_init 10 = .ok (.iconst 0, 1) := by decide +kernel
theorem dX4_init_11 : decode cX4_init 11 = .ok (.putfield 15, 3) := by decide +kernel
theorem dX4_init_14 : decode cX4_init 14 = .ok (.aload_n 0, 1) := by decide +kernel
theorem dX4_init_15 : decode cX4_init 15 = .ok (.bipush 24, 2) := by decide +kernel
theorem dX4_init_17 : decode cX4_init 17 = .ok (.newarray .int, 2) := by decide +kernel
theorem dX4_init_19 : decode cX4_init 19 = .ok (.putfield 18, 3) := by decide +kernel
theorem dX4_init_22 : decode cX4_init 22 = .ok (.return_, 1) := by decide +kernel
theorem dX4_start_0 : decode cX4_start 0 = .ok (.aload_n 0, 1) := by decide +kernel
theorem dX4_start_1 : decode cX4_start 1 = .ok (.iload_n 1, 1) := by decide +kernel
theorem dX4_start_2 : decode cX4_start 2 = .ok (.putfield 9, 3) := by decide +kernel
theorem dX4_start_5 : decode cX4_start 5 = .ok (.aload_n 0, 1) := by decide +kernel
theorem dX4_start_6 : decode cX4_start 6 = .ok (.iload_n 2, 1) := by decide +kernel
theorem dX4_start_7 : decode cX4_start 7 = .ok (.putfield 15, 3) := by decide +kernel
theorem dX4_start_10 : decode cX4_start 10 = .ok (.aload_n 0, 1) := by decide +kernel
theorem dX4_start_11 : decode cX4_start 11 = .ok (.getfield 18, 3) := by decide +kernel
theorem dX4_start_14 : decode cX4_start 14 = .ok (.iconst 0, 1) := by decide +kernel
theorem dX4_start_15 : decode cX4_start 15 = .ok (.invokestatic 22, 3) := by decide +kernel
theorem dX4_start_18 : decode cX4_start 18 = .ok (.return_, 1) := by decide +kernel
theorem dX4_become_0 : decode cX4_become 0 = .ok (.aload_n 0, 1) := by decide +kernel
theorem dX4_become_1 : decode cX4_become 1 = .ok (.aload_n 1, 1) := by decide +kernel
theorem dX4_become_2 : decode cX4_become 2 = .ok (.getfield 9, 3) := by decide +kernel
theorem dX4_become_5 : decode cX4_become 5 = .ok (.putfield 9, 3) := by decide +kernel
theorem dX4_become_8 : decode cX4_become 8 = .ok (.aload_n 0, 1) := by decide +kernel
theorem dX4_become_9 : decode cX4_become 9 = .ok (.aload_n 1, 1) := by decide +kernel
theorem dX4_become_10 : decode cX4_become 10 = .ok (.getfield 15, 3) := by decide +kernel
theorem dX4_become_13 : decode cX4_become 13 = .ok (.putfield 15, 3) := by decide +kernel
theorem dX4_become_16 : decode cX4_become 16 = .ok (.aload_n 1, 1) := by decide +kernel
theorem dX4_become_17 : decode cX4_become 17 = .ok (.getfield 18, 3) := by decide +kernel
theorem dX4_become_20 : decode cX4_become 20 = .ok (.iconst 0, 1) := by decide +kernel
theorem dX4_become_21 : decode cX4_become 21 = .ok (.aload_n 0, 1) := by decide +kernel
theorem dX4_become_22 : decode cX4_become 22 = .ok (.getfield 18, 3) := by decide +kernel
theorem dX4_become_25 : decode cX4_become 25 = .ok (.iconst 0, 1) := by decide +kernel
theorem dX4_become_26 : decode cX4_become 26 = .ok (.bipush 24, 2) := by decide +kernel
theorem dX4_become_28 : decode cX4_become 28 = .ok (.invokestatic 28, 3) := by decide +kernel
theorem dX4_become_31 : decode cX4_become 31 = .ok (.return_, 1) := by decide +kernel
theorem dX4_isNumber_0 : decode cX4_isNumber 0 = .ok (.aload_n 0, 1) := by decide +kernel
theorem dX4_isNumber_1 : decode cX4_isNumber 1 = .ok (.getfield 18, 3) := by decide +kernel
theorem dX4_isNumber_4 : decode cX4_isNumber 4 = .ok (.iload_n 1, 1) := by decide +kernel
theorem dX4_isNumber_5 : decode cX4_isNumber 5 = .ok (.iaload, 1) := by decide +kernel
theorem dX4_isNumber_6 : decode cX4_isNumber 6 = .ok (.ldc 34, 2) := by decide +kernel
theorem dX4_isNumber_8 : decode cX4_isNumber 8 = .ok (.if_icmp .eq 7, 3) := by decide +kernel
theorem dX4_isNumber_11 : decode cX4_isNumber 11 = .ok (.iconst 1, 1) := by decide +kernel
theorem dX4_isNumber_12 : decode cX4_isNumber 12 = .ok (.goto 4, 3) := by decide +kernel
theorem dX4_isNumber_15 : decode cX4_isNumber 15 = .ok (.iconst 0, 1) := by decide +kernel
theorem dX4_isNumber_16 : decode cX4_isNumber 16 = .ok (.ireturn, 1) := by decide +kernel
theorem dX4_hasPlaces_0 : decode cX4_hasPlaces 0 = .ok (.iload_n 1, 1) := by decide +kernel
theorem dX4_hasPlaces_1 : decode cX4_hasPlaces 1 = .ok (.ifCond .lt 29, 3) := by decide +kernel
theorem dX4_hasPlaces_4 : decode cX4_hasPlaces 4 = .ok (.iload_n 2, 1) := by decide +kernel
theorem dX4_hasPlaces_5 : decode cX4_hasPlaces 5 = .ok (.ifCond .lt 25, 3) := by decide +kernel
theorem dX4_hasPlaces_8 : decode cX4_hasPlaces 8 = .ok (.iload_n 1, 1) := by decide +kernel
theorem dX4_hasPlaces_9 : decode cX4_hasPlaces 9 = .ok (.aload_n 0, 1) := by decide +kernel
theorem dX4_hasPlaces_10 : decode cX4_hasPlaces 10 = .ok (.getfield 15, 3) := by decide +kernel
theorem dX4_hasPlaces_13 : decode cX4_hasPlaces 13 = .ok (.if_icmp .gt 17, 3) := by decide +kernel
theorem dX4_hasPlaces_16 : decode cX4_hasPlaces 16 = .ok (.iload_n 2, 1) := by decide +kernel
theorem dX4_hasPlaces_17 : decode cX4_hasPlaces 17 = .ok (.aload_n 0, 1) := by decide +kernel
theorem dX4_hasPlaces_18 : decode cX4_hasPlaces 18 = .ok (.getfield 15, 3) := by decide +kernel
theorem dX4_hasPlaces_21 : decode cX4_hasPlaces 21 = .ok (.iload_n 1, 1) := by decide +kernel
theorem dX4_hasPlaces_22 : decode cX4_hasPlaces 22 = .ok (.isub, 1) := by decide +kernel
theorem dX4_hasPlaces_23 : decode cX4_hasPlaces 23 = .ok (.if_icmp .gt 7, 3) := by decide +kernel
theorem dX4_hasPlaces_26 : decode cX4_hasPlaces 26 = .ok (.iconst 1, 1) := by decide +kernel
theorem dX4_hasPlaces_27 : decode cX4_hasPlaces 27 = .ok (.goto 4, 3) := by decide +kernel
theorem dX4_hasPlaces_30 : decode cX4_hasPlaces 30 = .ok (.iconst 0, 1) := by decide +kernel
theorem dX4_hasPlaces_31 : decode cX4_hasPlaces 31 = .ok (.ireturn, 1) := by decide +kernel
theorem dX5_init_0 : decode cX5_init 0 = .ok (.aload_n 0, 1) := by decide +kernel
theorem dX5_init_1 : decode cX5_init 1 = .ok (.invokespecial 3, 3) := by decide +kernel
theorem dX5_init_4 : decode cX5_init 4 = .ok (.aload_n 0, 1) := by decide +kernel
theorem dX5_init_5 : decode cX5_init 5 = .ok (.iconst 0, 1) := by decide +kernel
theorem dX5_init_6 : decode cX5_init 6 = .ok (.putfield 9, 3) := by decide +kernel
theorem dX5_init_9 : decode cX5_init 9 = .ok (.aload_n 0, 1) := by decide +kernel
theorem dX5_init_10 : decode cX5_init 10 = .ok (.iconst 0, 1) := by decide +kernel
theorem dX5_init_11 : decode cX5_init 11 = .ok (.putfield 15, 3) := by decide +kernel
theorem dX5_init_14 : decode cX5_init 14 = .ok (.aload_n 0, 1) := by decide +kernel
theorem dX5_init_15 : decode cX5_init 15 = .ok (.iconst 0, 1) := by decide +kernel
theorem dX5_init_16 : decode cX5_init 16 = .ok (.putfield 18, 3) := by decide +kernel
theorem dX5_init_19 : decode cX5_init 19 = .ok (.aload_n 0, 1) := by decide +kernel
theorem dX5_init_20 : decode cX5_init 20 = .ok (.iconst 0, 1) := by decide +kernel
theorem dX5_init_21 : decode cX5_init 21 = .ok (.putfield 21, 3) := by decide +kernel
theorem dX5_init_24 : decode cX5_init 24 = .ok (.aload_n 0, 1) := by decide +kernel
theorem dX5_init_25 : decode cX5_init 25 = .ok (.new 24, 3) := by decide +kernel
theorem dX5_init_28 : decode cX5_init 28 = .ok (.dup, 1) := by decide +kernel
theorem dX5_init_29 : decode cX5_init 29 = .ok (.invokespecial 26, 3) := by decide +kernel
theorem dX5_init_32 : decode cX5_init 32 = .ok (.putfield 27, 3) := by decide +kernel
theorem dX5_init_35 : decode cX5_init 35 = .ok (.return_, 1) := by decide +kernel
theorem dX6_init_0 : decode cX6_init 0 = .ok (.aload_n 0, 1) := by decide +kernel
theorem dX6_init_1 : decode cX6_init 1 = .ok (.invokespecial 1, 3) := by decide +kernel
theorem dX6_init_4 : decode cX6_init 4 = .ok (.aload_n 0, 1) := by decide +kernel
theorem dX6_init_5 : decode cX6_init 5 = .ok (.aload_n 1, 1) := by decide +kernel
theorem dX6_init_6 : decode cX6_init 6 = .ok (.getfield 7, 3) := by decide +kernel
theorem dX6_init_9 : decode cX6_init 9 = .ok (.putfield 13, 3) := by decide +kernel
theorem dX6_init_12 : decode cX6_init 12 = .ok (.aload_n 0, 1) := by decide +kernel
theorem dX6_init_13 : decode cX6_init 13 = .ok (.aload_n 1, 1) := by decide +kernel
theorem dX6_init_14 : decode cX6_init 14 = .ok (.getfield 16, 3) := by decide +kernel
theorem dX6_init_17 : decode cX6_init 17 = .ok (.putfield 19, 3) := by decide +kernel
theorem dX6_init_20 : decode cX6_init 20 = .ok (.aload_n 0, 1) := by decide +kernel
theorem dX6_init_21 : decode cX6_init 21 = .ok (.aload_n 1, 1) := by decide +kernel
theorem dX6_init_22 : decode cX6_init 22 = .ok (.getfield 20, 3) := by decide +kernel
theorem dX6_init_25 : decode cX6_init 25 = .ok (.aload_n 1, 1) := by decide +kernel
theorem dX6_init_26 : decode cX6_init 26 = .ok (.getfield 24, 3) := by decide +kernel
theorem dX6_init_29 : decode cX6_init 29 = .ok (.invokestatic 27, 3) := by decide +kernel
theorem dX6_init_32 : decode cX6_init 32 = .ok (.putfield 33, 3) := by decide +kernel
theorem dX6_init_35 : decode cX6_init 35 = .ok (.aload_n 0, 1) := by decide +kernel
theorem dX6_init_36 : decode cX6_init 36 = .ok (.aload_n 0, 1) := by decide +kernel
theorem dX6_init_37 : decode cX6_init 37 = .ok (.getfield 33, 3) := by decide +kernel
theorem dX6_init_40 : decode cX6_init 40 = .ok (.arraylength, 1) := by decide +kernel
theorem dX6_init_41 : decode cX6_init 41 = .ok (.newarray .int, 2) := by decide +kernel
theorem dX6_init_43 : decode cX6_init 43 = .ok (.putfield 34, 3) := by decide +kernel
theorem dX6_init_46 : decode cX6_init 46 = .ok (.return_, 1) := by decide +kernel
theorem dX6_valueOf_0 : decode cX6_valueOf 0 = .ok (.iconst 0, 1) := by decide +kernel
theorem dX6_valueOf_1 : decode cX6_valueOf 1 = .ok (.istore 4, 2) := by decide +kernel
theorem dX6_valueOf_3 : decode cX6_valueOf 3 = .ok (.iconst 0, 1) := by decide +kernel
theorem dX6_valueOf_4 : decode cX6_valueOf 4 = .ok (.istore 5, 2) := by decide +kernel
theorem dX6_valueOf_6 : decode cX6_valueOf 6 = .ok (.iload 5, 2) := by decide +kernel
theorem dX6_valueOf_8 : decode cX6_valueOf 8 = .ok (.aload_n 0, 1) := by decide +kernel
theorem dX6_valueOf_9 : decode cX6_valueOf 9 = .ok (.getfield 33, 3) := by decide +kernel
theorem dX6_valueOf_12 : decode cX6_valueOf 12 = .ok (.arraylength, 1) := by decide +kernel
theorem dX6_valueOf_13 : decode cX6_valueOf 13 = .ok (.if_icmp .ge 161, 3) := by decide +kernel
theorem dX6_valueOf_16 : decode cX6_valueOf 16 = .ok (.aload_n 0, 1) := by decide +kernel
theorem dX6_valueOf_17 : decode cX6_valueOf 17 = .ok (.getfield 33, 3) := by decide +kernel
theorem dX6_valueOf_20 : decode cX6_valueOf 20 = .ok (.iload 5, 2) := by decide +kernel
theorem dX6_valueOf_22 : decode cX6_valueOf 22 = .ok (.iaload, 1) := by decide +kernel
theorem dX6_valueOf_23 : decode cX6_valueOf 23 = .ok (.istore 6, 2) := by decide +kernel
theorem dX6_valueOf_25 : decode cX6_valueOf 25 = .ok (.iload 6, 2) := by decide +kernel
theorem dX6_valueOf_27 : decode cX6_valueOf 27 = .ok (.bipush (-3), 2) := by decide +kernel
theorem dX6_valueOf_29 : decode cX6_valueOf 29 = .ok (.if_icmp .lt 58, 3) := by decide +kernel
theorem dX6_valueOf_32 : decode cX6_valueOf 32 = .ok (.iload 4, 2) := by decide +kernel
theorem dX6_valueOf_34 : decode cX6_valueOf 34 = .ok (.aload_n 0, 1) := by decide +kernel
theorem dX6_valueOf_35 : decode cX6_valueOf 35 = .ok (.getfield 34, 3) := by decide +kernel
theorem dX6_valueOf_38 : decode cX6_valueOf 38 = .ok (.arraylength, 1) := by decide +kernel
theorem dX6_valueOf_39 : decode cX6_valueOf 39 = .ok (.if_icmp .ge 129, 3) := by decide +kernel
theorem dX6_valueOf_42 : decode cX6_valueOf 42 = .ok (.aload_n 0, 1) := by decide +kernel
theorem dX6_valueOf_43 : decode cX6_valueOf 43 = .ok (.getfield 34, 3) := by decide +kernel
theorem dX6_valueOf_46 : decode cX6_valueOf 46 = .ok (.iload 4, 2) := by decide +kernel
theorem dX6_valueOf_48 : decode cX6_valueOf 48 = .ok (.iload 6, 2) := by decide +kernel
theorem dX6_valueOf_50 : decode cX6_valueOf 50 = .ok (.ifCond .lt 8, 3) := by decide +kernel
theorem dX6_valueOf_53 : decode cX6_valueOf 53 = .ok (.iload 6, 2) := by decide +kernel
theorem dX6_valueOf_55 : decode cX6_valueOf 55 = .ok (.goto 25, 3) := by decide +kernel
theorem dX6_valueOf_58 : decode cX6_valueOf 58 = .ok (.iload 6, 2) := by decide +kernel
theorem dX6_valueOf_60 : decode cX6_valueOf 60 = .ok (.iconst (-1), 1) := by decide +kernel
theorem dX6_valueOf_61 : decode cX6_valueOf 61 = .ok (.if_icmp .ne 7, 3) := by decide +kernel
theorem dX6_valueOf_64 : decode cX6_valueOf 64 = .ok (.iload_n 1, 1) := by decide +kernel
theorem dX6_valueOf_65 : decode cX6_valueOf 65 = .ok (.goto 15, 3) := by decide +kernel
theorem dX6_valueOf_68 : decode cX6_valueOf 68 = .ok (.iload 6, 2) := by decide +kernel
theorem dX6_valueOf_70 : decode cX6_valueOf 70 = .ok (.bipush (-3), 2) := by decide +kernel
theorem dX6_valueOf_72 : decode cX6_valueOf 72 = .ok (.if_icmp .ne 7, 3) := by decide +kernel
theorem dX6_valueOf_75 : decode cX6_valueOf 75 = .ok (.iload_n 3, 1) := by decide +kernel
theorem dX6_valueOf_76 : decode cX6_valueOf 76 = .ok (.goto 4, 3) := by decide +kernel
theorem dX6_valueOf_79 : decode cX6_valueOf 79 = .ok (.iload_n 2, 1) := by decide +kernel
theorem dX6_valueOf_80 : decode cX6_valueOf 80 = .ok (.iastore, 1) := by decide +kernel
theorem dX6_valueOf_81 : decode cX6_valueOf 81 = .ok (.iinc 4 1, 3) := by decide +kernel
theorem dX6_valueOf_84 : decode cX6_valueOf 84 = .ok (.goto 84, 3) := by decide +kernel
theorem dX6_valueOf_87 : decode cX6_valueOf 87 = .ok (.iload 6, 2) := by decide +kernel
theorem dX6_valueOf_89 : decode cX6_valueOf 89 = .ok (.bipush (-33), 2) := by decide +kernel
theorem dX6_valueOf_91 : decode cX6_valueOf 91 = .ok (.if_icmp .ne 37, 3) := by decide +kernel
theorem dX6_valueOf_94 : decode cX6_valueOf 94 = .ok (.iload 4, 2) := by decide +kernel
theorem dX6_valueOf_96 : decode cX6_valueOf 96 = .ok (.ifCond .le 72, 3) := by decide +kernel
theorem dX6_valueOf_99 : decode cX6_valueOf 99 = .ok (.aload_n 0, 1) := by decide +kernel
theorem dX6_valueOf_100 : decode cX6_valueOf 100 = .ok (.getfield 34, 3) := by decide +kernel
theorem dX6_valueOf_103 : decode cX6_valueOf 103 = .ok (.iload 4, 2) := by decide +kernel
theorem dX6_valueOf_105 : decode cX6_valueOf 105 = .ok (.iconst 1, 1) := by decide +kernel
theorem dX6_valueOf_106 : decode cX6_valueOf 106 = .ok (.isub, 1) := by decide +kernel
theorem dX6_valueOf_107 : decode cX6_valueOf 107 = .ok (.aload_n 0, 1) := by decide +kernel
theorem dX6_valueOf_108 : decode cX6_valueOf 108 = .ok (.getfield 34, 3) := by decide +kernel
theorem dX6_valueOf_111 : decode cX6_valueOf 111 = .ok (.iload 4, 2) := by decide +kernel
theorem dX6_valueOf_113 : decode cX6_valueOf 113 = .ok (.iconst 1, 1) := by decide +kernel
theorem dX6_valueOf_114 : decode cX6_valueOf 114 = .ok (.isub, 1) := by decide +kernel
theorem dX6_valueOf_115 : decode cX6_valueOf 115 = .ok (.iaload, 1) := by decide +kernel
theorem dX6_valueOf_116 : decode cX6_valueOf 116 = .ok (.ifCond .ne 7, 3) := by decide +kernel
theorem dX6_valueOf_119 : decode cX6_valueOf 119 = .ok (.iconst 1, 1) := by decide +kernel
theorem dX6_valueOf_120 : decode cX6_valueOf 120 = .ok (.goto 4, 3) := by decide +kernel
theorem dX6_valueOf_123 : decode cX6_valueOf 123 = .ok (.iconst 0, 1) := by decide +kernel
theorem dX6_valueOf_124 : decode cX6_valueOf 124 = .ok (.iastore, 1) := by decide +kernel
theorem dX6_valueOf_125 : decode cX6_valueOf 125 = .ok (.goto 43, 3) := by decide +kernel
theorem dX6_valueOf_128 : decode cX6_valueOf 128 = .ok (.iload 4, 2) := by decide +kernel
theorem dX6_valueOf_130 : decode cX6_valueOf 130 = .ok (.iconst 1, 1) := by decide +kernel
theorem dX6_valueOf_131 : decode cX6_valueOf 131 = .ok (.if_icmp .le 37, 3) := by decide +kernel
theorem dX6_valueOf_134 : decode cX6_valueOf 134 = .ok (.iinc 4 (-1), 3) := by decide +kernel
theorem dX6_valueOf_137 : decode cX6_valueOf 137 = .ok (.aload_n 0, 1) := by decide +kernel
theorem dX6_valueOf_138 : decode cX6_valueOf 138 = .ok (.getfield 34, 3) := by decide +kernel
theorem dX6_valueOf_141 : decode cX6_valueOf 141 = .ok (.iload 4, 2) := by decide +kernel
theorem dX6_valueOf_143 : decode cX6_valueOf 143 = .ok (.iconst 1, 1) := by decide +kernel
theorem dX6_valueOf_144 : decode cX6_valueOf 144 = .ok (.isub, 1) := by decide +kernel
theorem dX6_valueOf_145 : decode cX6_valueOf 145 = .ok (.iload 6, 2) := by decide +kernel
theorem dX6_valueOf_147 : decode cX6_valueOf 147 = .ok (.ineg, 1) := by decide +kernel
theorem dX6_valueOf_148 : decode cX6_valueOf 148 = .ok (.aload_n 0, 1) := by decide +kernel
theorem dX6_valueOf_149 : decode cX6_valueOf 149 = .ok (.getfield 34, 3) := by decide +kernel
theorem dX6_valueOf_152 : decode cX6_valueOf 152 = .ok (.iload 4, 2) := by decide +kernel
theorem dX6_valueOf_154 : decode cX6_valueOf 154 = .ok (.iconst 1, 1) := by decide +kernel
theorem dX6_valueOf_155 : decode cX6_valueOf 155 = .ok (.isub, 1) := by decide +kernel
theorem dX6_valueOf_156 : decode cX6_valueOf 156 = .ok (.iaload, 1) := by decide +kernel
theorem dX6_valueOf_157 : decode cX6_valueOf 157 = .ok (.aload_n 0, 1) := by decide +kernel
theorem dX6_valueOf_158 : decode cX6_valueOf 158 = .ok (.getfield 34, 3) := by decide +kernel
theorem dX6_valueOf_161 : decode cX6_valueOf 161 = .ok (.iload 4, 2) := by decide +kernel
theorem dX6_valueOf_163 : decode cX6_valueOf 163 = .ok (.iaload, 1) := by decide +kernel
theorem dX6_valueOf_164 : decode cX6_valueOf 164 = .ok (.invokestatic 37, 3) := by decide +kernel
theorem dX6_valueOf_167 : decode cX6_valueOf 167 = .ok (.iastore, 1) := by decide +kernel
theorem dX6_valueOf_168 : decode cX6_valueOf 168 = .ok (.iinc 5 1, 3) := by decide +kernel
theorem dX6_valueOf_171 : decode cX6_valueOf 171 = .ok (.goto (-165), 3) := by decide +kernel
theorem dX6_valueOf_174 : decode cX6_valueOf 174 = .ok (.iload 4, 2) := by decide +kernel
theorem dX6_valueOf_176 : decode cX6_valueOf 176 = .ok (.ifCond .le 12, 3) := by decide +kernel
theorem dX6_valueOf_179 : decode cX6_valueOf 179 = .ok (.aload_n 0, 1) := by decide +kernel
theorem dX6_valueOf_180 : decode cX6_valueOf 180 = .ok (.getfield 34, 3) := by decide +kernel
theorem dX6_valueOf_183 : decode cX6_valueOf 183 = .ok (.iconst 0, 1) := by decide +kernel
theorem dX6_valueOf_184 : decode cX6_valueOf 184 = .ok (.iaload, 1) := by decide +kernel
theorem dX6_valueOf_185 : decode cX6_valueOf 185 = .ok (.goto 4, 3) := by decide +kernel
theorem dX6_valueOf_188 : decode cX6_valueOf 188 = .ok (.iconst 0, 1) := by decide +kernel
theorem dX6_valueOf_189 : decode cX6_valueOf 189 = .ok (.ireturn, 1) := by decide +kernel
theorem dX6_workedOut_0 : decode cX6_workedOut 0 = .ok (.iload_n 0, 1) := by decide +kernel
theorem dX6_workedOut_1 : decode cX6_workedOut 1 = .ok (.lookupswitch 168 #[(38, 140), (42, 91), (43, 83), (45, 87), (47, 95), (60, 107), (61, 118), (62, 129), (124, 154)], 83) := by decide +kernel
theorem dX6_workedOut_84 : decode cX6_workedOut 84 = .ok (.iload_n 1, 1) := by decide +kernel
theorem dX6_workedOut_85 : decode cX6_workedOut 85 = .ok (.iload_n 2, 1) := by decide +kernel
theorem dX6_workedOut_86 : decode cX6_workedOut 86 = .ok (.iadd, 1) := by decide +kernel
theorem dX6_workedOut_87 : decode cX6_workedOut 87 = .ok (.ireturn, 1) := by decide +kernel
theorem dX6_workedOut_88 : decode cX6_workedOut 88 = .ok (.iload_n 1, 1) := by decide +kernel
theorem dX6_workedOut_89 : decode cX6_workedOut 89 = .ok (.iload_n 2, 1) := by decide +kernel
theorem dX6_workedOut_90 : decode cX6_workedOut 90 = .ok (.isub, 1) := by decide +kernel
theorem dX6_workedOut_91 : decode cX6_workedOut 91 = .ok (.ireturn, 1) := by decide +kernel
theorem dX6_workedOut_92 : decode cX6_workedOut 92 = .ok (.iload_n 1, 1) := by decide +kernel
theorem dX6_workedOut_93 : decode cX6_workedOut 93 = .ok (.iload_n 2, 1) := by decide +kernel
theorem dX6_workedOut_94 : decode cX6_workedOut 94 = .ok (.imul, 1) := by decide +kernel
theorem dX6_workedOut_95 : decode cX6_workedOut 95 = .ok (.ireturn, 1) := by decide +kernel
theorem dX6_workedOut_96 : decode cX6_workedOut 96 = .ok (.iload_n 2, 1) := by decide +kernel
theorem dX6_workedOut_97 : decode cX6_workedOut 97 = .ok (.ifCond .ne 7, 3) := by decide +kernel
theorem dX6_workedOut_100 : decode cX6_workedOut 100 = .ok (.iconst 0, 1) := by decide +kernel
theorem dX6_workedOut_101 : decode cX6_workedOut 101 = .ok (.goto 6, 3) := by decide +kernel
theorem dX6_workedOut_104 : decode cX6_workedOut 104 = .ok (.iload_n 1, 1) := by decide +kernel
theorem dX6_workedOut_105 : decode cX6_workedOut 105 = .ok (.iload_n 2, 1) := by decide +kernel
theorem dX6_workedOut_106 : decode cX6_workedOut 106 = .ok (.idiv, 1) := by decide +kernel
theorem dX6_workedOut_107 : decode cX6_workedOut 107 = .ok (.ireturn, 1) := by decide +kernel
theorem dX6_workedOut_108 : decode cX6_workedOut 108 = .ok (.iload_n 1, 1) := by decide +kernel
theorem dX6_workedOut_109 : decode cX6_workedOut 109 = .ok (.iload_n 2, 1) := by decide +kernel
theorem dX6_workedOut_110 : decode cX6_workedOut 110 = .ok (.if_icmp .ge 7, 3) := by decide +kernel
theorem dX6_workedOut_113 : decode cX6_workedOut 113 = .ok (.iconst 1, 1) := by decide +kernel
theorem dX6_workedOut_114 : decode cX6_workedOut 114 = .ok (.goto 4, 3) := by decide +kernel
theorem dX6_workedOut_117 : decode cX6_workedOut 117 = .ok (.iconst 0, 1) := by decide +kernel
theorem dX6_workedOut_118 : decode cX6_workedOut 118 = .ok (.ireturn, 1) := by decide +kernel
theorem dX6_workedOut_119 : decode cX6_workedOut 119 = .ok (.iload_n 1, 1) := by decide +kernel
theorem dX6_workedOut_120 : decode cX6_workedOut 120 = .ok (.iload_n 2, 1) := by decide +kernel
theorem dX6_workedOut_121 : decode cX6_workedOut 121 = .ok (.if_icmp .ne 7, 3) := by decide +kernel
theorem dX6_workedOut_124 : decode cX6_workedOut 124 = .ok (.iconst 1, 1) := by decide +kernel
theorem dX6_workedOut_125 : decode cX6_workedOut 125 = .ok (.goto 4, 3) := by decide +kernel
theorem dX6_workedOut_128 : decode cX6_workedOut 128 = .ok (.iconst 0, 1) := by decide +kernel
theorem dX6_workedOut_129 : decode cX6_workedOut 129 = .ok (.ireturn, 1) := by decide +kernel
theorem dX6_workedOut_130 : decode cX6_workedOut 130 = .ok (.iload_n 1, 1) := by decide +kernel
theorem dX6_workedOut_131 : decode cX6_workedOut 131 = .ok (.iload_n 2, 1) := by decide +kernel
theorem dX6_workedOut_132 : decode cX6_workedOut 132 = .ok (.if_icmp .le 7, 3) := by decide +kernel
theorem dX6_workedOut_135 : decode cX6_workedOut 135 = .ok (.iconst 1, 1) := by decide +kernel
theorem dX6_workedOut_136 : decode cX6_workedOut 136 = .ok (.goto 4, 3) := by decide +kernel
theorem dX6_workedOut_139 : decode cX6_workedOut 139 = .ok (.iconst 0, 1) := by decide +kernel
theorem dX6_workedOut_140 : decode cX6_workedOut 140 = .ok (.ireturn, 1) := by decide +kernel
theorem dX6_workedOut_141 : decode cX6_workedOut 141 = .ok (.iload_n 1, 1) := by decide +kernel
theorem dX6_workedOut_142 : decode cX6_workedOut 142 = .ok (.ifCond .eq 11, 3) := by decide +kernel
theorem dX6_workedOut_145 : decode cX6_workedOut 145 = .ok (.iload_n 2, 1) := by decide +kernel
theorem dX6_workedOut_146 : decode cX6_workedOut 146 = .ok (.ifCond .eq 7, 3) := by decide +kernel
theorem dX6_workedOut_149 : decode cX6_workedOut 149 = .ok (.iconst 1, 1) := by decide +kernel
theorem dX6_workedOut_150 : decode cX6_workedOut 150 = .ok (.goto 4, 3) := by decide +kernel
theorem dX6_workedOut_153 : decode cX6_workedOut 153 = .ok (.iconst 0, 1) := by decide +kernel
theorem dX6_workedOut_154 : decode cX6_workedOut 154 = .ok (.ireturn, 1) := by decide +kernel
theorem dX6_workedOut_155 : decode cX6_workedOut 155 = .ok (.iload_n 1, 1) := by decide +kernel
theorem dX6_workedOut_156 : decode cX6_workedOut 156 = .ok (.ifCond .ne 7, 3) := by decide +kernel
theorem dX6_workedOut_159 : decode cX6_workedOut 159 = .ok (.iload_n 2, 1) := by decide +kernel
theorem dX6_workedOut_160 : decode cX6_workedOut 160 = .ok (.ifCond .eq 7, 3) := by decide +kernel
theorem dX6_workedOut_163 : decode cX6_workedOut 163 = .ok (.iconst 1, 1) := by decide +kernel
theorem dX6_workedOut_164 : decode cX6_workedOut 164 = .ok (.goto 4, 3) := by decide +kernel
theorem dX6_workedOut_167 : decode cX6_workedOut 167 = .ok (.iconst 0, 1) := by decide +kernel
theorem dX6_workedOut_168 : decode cX6_workedOut 168 = .ok (.ireturn, 1) := by decide +kernel
theorem dX6_workedOut_169 : decode cX6_workedOut 169 = .ok (.iconst 0, 1) := by decide +kernel
theorem dX6_workedOut_170 : decode cX6_workedOut 170 = .ok (.ireturn, 1) := by decide +kernel
theorem dX7_init_0 : decode cX7_init 0 = .ok (.aload_n 0, 1) := by decide +kernel
theorem dX7_init_1 : decode cX7_init 1 = .ok (.invokespecial 1, 3) := by decide +kernel
theorem dX7_init_4 : decode cX7_init 4 = .ok (.aload_n 0, 1) := by decide +kernel
theorem dX7_init_5 : decode cX7_init 5 = .ok (.new 7, 3) := by decide +kernel
theorem dX7_init_8 : decode cX7_init 8 = .ok (.dup, 1) := by decide +kernel
theorem dX7_init_9 : decode cX7_init 9 = .ok (.invokespecial 9, 3) := by decide +kernel
theorem dX7_init_12 : decode cX7_init 12 = .ok (.putfield 10, 3) := by decide +kernel
theorem dX7_init_15 : decode cX7_init 15 = .ok (.aload_n 0, 1) := by decide +kernel
theorem dX7_init_16 : decode cX7_init 16 = .ok (.new 7, 3) := by decide +kernel
theorem dX7_init_19 : decode cX7_init 19 = .ok (.dup, 1) := by decide +kernel
theorem dX7_init_20 : decode cX7_init 20 = .ok (.invokespecial 9, 3) := by decide +kernel
theorem dX7_init_23 : decode cX7_init 23 = .ok (.putfield 16, 3) := by decide +kernel
theorem dX7_init_26 : decode cX7_init 26 = .ok (.aload_n 0, 1) := by decide +kernel
theorem dX7_init_27 : decode cX7_init 27 = .ok (.new 7, 3) := by decide +kernel
theorem dX7_init_30 : decode cX7_init 30 = .ok (.dup, 1) := by decide +kernel
theorem dX7_init_31 : decode cX7_init 31 = .ok (.invokespecial 9, 3) := by decide +kernel
theorem dX7_init_34 : decode cX7_init 34 = .ok (.putfield 19, 3) := by decide +kernel
theorem dX7_init_37 : decode cX7_init 37 = .ok (.aload_n 0, 1) := by decide +kernel
theorem dX7_init_38 : decode cX7_init 38 = .ok (.iconst 0, 1) := by decide +kernel
theorem dX7_init_39 : decode cX7_init 39 = .ok (.putfield 22, 3) := by decide +kernel
theorem dX7_init_42 : decode cX7_init 42 = .ok (.aload_n 0, 1) := by decide +kernel
theorem dX7_init_43 : decode cX7_init 43 = .ok (.new 26, 3) := by decide +kernel
theorem dX7_init_46 : decode cX7_init 46 = .ok (.dup, 1) := by decide +kernel
theorem dX7_init_47 : decode cX7_init 47 = .ok (.invokespecial 28, 3) := by decide +kernel
theorem dX7_init_50 : decode cX7_init 50 = .ok (.putfield 29, 3) := by decide +kernel
theorem dX7_init_53 : decode cX7_init 53 = .ok (.aload_n 0, 1) := by decide +kernel
theorem dX7_init_54 : decode cX7_init 54 = .ok (.bipush 96, 2) := by decide +kernel
theorem dX7_init_56 : decode cX7_init 56 = .ok (.newarray .byte, 2) := by decide +kernel
theorem dX7_init_58 : decode cX7_init 58 = .ok (.putfield 33, 3) := by decide +kernel
theorem dX7_init_61 : decode cX7_init 61 = .ok (.aload_n 0, 1) := by decide +kernel
theorem dX7_init_62 : decode cX7_init 62 = .ok (.iconst 0, 1) := by decide +kernel
theorem dX7_init_63 : decode cX7_init 63 = .ok (.putfield 37, 3) := by decide +kernel
theorem dX7_init_66 : decode cX7_init 66 = .ok (.aload_n 0, 1) := by decide +kernel
theorem dX7_init_67 : decode cX7_init 67 = .ok (.iconst 4, 1) := by decide +kernel
theorem dX7_init_68 : decode cX7_init 68 = .ok (.anewarray 41, 3) := by decide +kernel
theorem dX7_init_71 : decode cX7_init 71 = .ok (.putfield 43, 3) := by decide +kernel
theorem dX7_init_74 : decode cX7_init 74 = .ok (.aload_n 0, 1) := by decide +kernel
theorem dX7_init_75 : decode cX7_init 75 = .ok (.iconst 5, 1) := by decide +kernel
theorem dX7_init_76 : decode cX7_init 76 = .ok (.anewarray 47, 3) := by decide +kernel
theorem dX7_init_79 : decode cX7_init 79 = .ok (.putfield 49, 3) := by decide +kernel
theorem dX7_init_82 : decode cX7_init 82 = .ok (.aload_n 0, 1) := by decide +kernel
theorem dX7_init_83 : decode cX7_init 83 = .ok (.bipush 60, 2) := by decide +kernel
theorem dX7_init_85 : decode cX7_init 85 = .ok (.newarray .int, 2) := by decide +kernel
theorem dX7_init_87 : decode cX7_init 87 = .ok (.putfield 53, 3) := by decide +kernel
theorem dX7_init_90 : decode cX7_init 90 = .ok (.aload_n 0, 1) := by decide +kernel
theorem dX7_init_91 : decode cX7_init 91 = .ok (.iconst 0, 1) := by decide +kernel
theorem dX7_init_92 : decode cX7_init 92 = .ok (.putfield 57, 3) := by decide +kernel
theorem dX7_init_95 : decode cX7_init 95 = .ok (.aload_n 0, 1) := by decide +kernel
theorem dX7_init_96 : decode cX7_init 96 = .ok (.bipush 10, 2) := by decide +kernel
theorem dX7_init_98 : decode cX7_init 98 = .ok (.newarray .int, 2) := by decide +kernel
theorem dX7_init_100 : decode cX7_init 100 = .ok (.putfield 60, 3) := by decide +kernel
theorem dX7_init_103 : decode cX7_init 103 = .ok (.iconst 0, 1) := by decide +kernel
theorem dX7_init_104 : decode cX7_init 104 = .ok (.istore_n 1, 1) := by decide +kernel
theorem dX7_init_105 : decode cX7_init 105 = .ok (.iload_n 1, 1) := by decide +kernel
theorem dX7_init_106 : decode cX7_init 106 = .ok (.iconst 4, 1) := by decide +kernel
theorem dX7_init_107 : decode cX7_init 107 = .ok (.if_icmp .ge 22, 3) := by decide +kernel
theorem dX7_init_110 : decode cX7_init 110 = .ok (.aload_n 0, 1) := by decide +kernel
theorem dX7_init_111 : decode cX7_init 111 = .ok (.getfield 43, 3) := by decide +kernel
theorem dX7_init_114 : decode cX7_init 114 = .ok (.iload_n 1, 1) := by decide +kernel
theorem dX7_init_115 : decode cX7_init 115 = .ok (.new 41, 3) := by decide +kernel
theorem dX7_init_118 : decode cX7_init 118 = .ok (.dup, 1) := by decide +kernel
theorem dX7_init_119 : decode cX7_init 119 = .ok (.invokespecial 63, 3) := by decide +kernel
theorem dX7_init_122 : decode cX7_init 122 = .ok (.aastore, 1) := by decide +kernel
theorem dX7_init_123 : decode cX7_init 123 = .ok (.iinc 1 1, 3) := by decide +kernel
theorem dX7_init_126 : decode cX7_init 126 = .ok (.goto (-21), 3) := by decide +kernel
theorem dX7_init_129 : decode cX7_init 129 = .ok (.iconst 0, 1) := by decide +kernel
theorem dX7_init_130 : decode cX7_init 130 = .ok (.istore_n 1, 1) := by decide +kernel
theorem dX7_init_131 : decode cX7_init 131 = .ok (.iload_n 1, 1) := by decide +kernel
theorem dX7_init_132 : decode cX7_init 132 = .ok (.iconst 5, 1) := by decide +kernel
theorem dX7_init_133 : decode cX7_init 133 = .ok (.if_icmp .ge 22, 3) := by decide +kernel
theorem dX7_init_136 : decode cX7_init 136 = .ok (.aload_n 0, 1) := by decide +kernel
theorem dX7_init_137 : decode cX7_init 137 = .ok (.getfield 49, 3) := by decide +kernel
theorem dX7_init_140 : decode cX7_init 140 = .ok (.iload_n 1, 1) := by decide +kernel
theorem dX7_init_141 : decode cX7_init 141 = .ok (.new 47, 3) := by decide +kernel
theorem dX7_init_144 : decode cX7_init 144 = .ok (.dup, 1) := by decide +kernel
theorem dX7_init_145 : decode cX7_init 145 = .ok (.invokespecial 64, 3) := by decide +kernel
theorem dX7_init_148 : decode cX7_init 148 = .ok (.aastore, 1) := by decide +kernel
theorem dX7_init_149 : decode cX7_init 149 = .ok (.iinc 1 1, 3) := by decide +kernel
theorem dX7_init_152 : decode cX7_init 152 = .ok (.goto (-21), 3) := by decide +kernel
theorem dX7_init_155 : decode cX7_init 155 = .ok (.return_, 1) := by decide +kernel
theorem dX7_guard_0 : decode cX7_guard 0 = .ok (.iload_n 1, 1) := by decide +kernel
theorem dX7_guard_1 : decode cX7_guard 1 = .ok (.invokestatic 65, 3) := by decide +kernel
theorem dX7_guard_4 : decode cX7_guard 4 = .ok (.ifCond .eq 20, 3) := by decide +kernel
theorem dX7_guard_7 : decode cX7_guard 7 = .ok (.iload_n 2, 1) := by decide +kernel
theorem dX7_guard_8 : decode cX7_guard 8 = .ok (.invokestatic 69, 3) := by decide +kernel
theorem dX7_guard_11 : decode cX7_guard 11 = .ok (.ifCond .eq 13, 3) := by decide +kernel
theorem dX7_guard_14 : decode cX7_guard 14 = .ok (.iload_n 3, 1) := by decide +kernel
theorem dX7_guard_15 : decode cX7_guard 15 = .ok (.iconst 0, 1) := by decide +kernel
theorem dX7_guard_16 : decode cX7_guard 16 = .ok (.bipush 99, 2) := by decide +kernel
theorem dX7_guard_18 : decode cX7_guard 18 = .ok (.invokestatic 72, 3) := by decide +kernel
theorem dX7_guard_21 : decode cX7_guard 21 = .ok (.ifCond .ne 6, 3) := by decide +kernel
theorem dX7_guard_24 : decode cX7_guard 24 = .ok (.ldc 76, 2) := by decide +kernel
theorem dX7_guard_26 : decode cX7_guard 26 = .ok (.ireturn, 1) := by decide +kernel
theorem dX7_guard_27 : decode cX7_guard 27 = .ok (.aload_n 0, 1) := by decide +kernel
theorem dX7_guard_28 : decode cX7_guard 28 = .ok (.getfield 10, 3) := by decide +kernel
theorem dX7_guard_31 : decode cX7_guard 31 = .ok (.iload_n 2, 1) := by decide +kernel
theorem dX7_guard_32 : decode cX7_guard 32 = .ok (.invokevirtual 77, 3) := by decide +kernel
theorem dX7_guard_35 : decode cX7_guard 35 = .ok (.ldc 81, 2) := by decide +kernel
theorem dX7_guard_37 : decode cX7_guard 37 = .ok (.if_icmp .eq 6, 3) := by decide +kernel
theorem dX7_guard_40 : decode cX7_guard 40 = .ok (.ldc 82, 2) := by decide +kernel
theorem dX7_guard_42 : decode cX7_guard 42 = .ok (.ireturn, 1) := by decide +kernel
theorem dX7_guard_43 : decode cX7_guard 43 = .ok (.aload_n 0, 1) := by decide +kernel
theorem dX7_guard_44 : decode cX7_guard 44 = .ok (.getfield 10, 3) := by decide +kernel
theorem dX7_guard_47 : decode cX7_guard 47 = .ok (.getfield 83, 3) := by decide +kernel
theorem dX7_guard_50 : decode cX7_guard 50 = .ok (.bipush 10, 2) := by decide +kernel
theorem dX7_guard_52 : decode cX7_guard 52 = .ok (.if_icmp .lt 6, 3) := by decide +kernel
theorem dX7_guard_55 : decode cX7_guard 55 = .ok (.ldc 86, 2) := by decide +kernel
theorem dX7_guard_57 : decode cX7_guard 57 = .ok (.ireturn, 1) := by decide +kernel
theorem dX7_guard_58 : decode cX7_guard 58 = .ok (.aload_n 0, 1) := by decide +kernel
theorem dX7_guard_59 : decode cX7_guard 59 = .ok (.getfield 10, 3) := by decide +kernel
theorem dX7_guard_62 : decode cX7_guard 62 = .ok (.iload_n 1, 1) := by decide +kernel
theorem dX7_guard_63 : decode cX7_guard 63 = .ok (.iload_n 2, 1) := by decide +kernel
theorem dX7_guard_64 : decode cX7_guard 64 = .ok (.iload_n 3, 1) := by decide +kernel
theorem dX7_guard_65 : decode cX7_guard 65 = .ok (.invokevirtual 87, 3) := by decide +kernel
theorem dX7_guard_68 : decode cX7_guard 68 = .ok (.ireturn, 1) := by decide +kernel
theorem dX7_told_0 : decode cX7_told 0 = .ok (.aload_n 0, 1) := by decide +kernel
theorem dX7_told_1 : decode cX7_told 1 = .ok (.iload_n 1, 1) := by decide +kernel
theorem dX7_told_2 : decode cX7_told 2 = .ok (.invokevirtual 91, 3) := by decide +kernel
theorem dX7_told_5 : decode cX7_told 5 = .ok (.ifCond .ne 6, 3) := by decide +kernel
theorem dX7_told_8 : decode cX7_told 8 = .ok (.ldc 76, 2) := by decide +kernel
theorem dX7_told_10 : decode cX7_told 10 = .ok (.ireturn, 1) := by decide +kernel
theorem dX7_told_11 : decode cX7_told 11 = .ok (.aload_n 0, 1) := by decide +kernel
theorem dX7_told_12 : decode cX7_told 12 = .ok (.getfield 10, 3) := by decide +kernel
theorem dX7_told_15 : decode cX7_told 15 = .ok (.getfield 94, 3) := by decide +kernel
theorem dX7_told_18 : decode cX7_told 18 = .ok (.iload_n 1, 1) := by decide +kernel
theorem dX7_told_19 : decode cX7_told 19 = .ok (.iaload, 1) := by decide +kernel
theorem dX7_told_20 : decode cX7_told 20 = .ok (.istore_n 3, 1) := by decide +kernel
theorem dX7_told_21 : decode cX7_told 21 = .ok (.aload_n 0, 1) := by decide +kernel
theorem dX7_told_22 : decode cX7_told 22 = .ok (.getfield 10, 3) := by decide +kernel
theorem dX7_told_25 : decode cX7_told 25 = .ok (.getfield 97, 3) := by decide +kernel
theorem dX7_told_28 : decode cX7_told 28 = .ok (.iload_n 1, 1) := by decide +kernel
theorem dX7_told_29 : decode cX7_told 29 = .ok (.iaload, 1) := by decide +kernel
theorem dX7_told_30 : decode cX7_told 30 = .ok (.istore 4, 2) := by decide +kernel
theorem dX7_told_32 : decode cX7_told 32 = .ok (.iload_n 2, 1) := by decide +kernel
theorem dX7_told_33 : decode cX7_told 33 = .ok (.tableswitch 114 0 8 #[51, 53, 63, 66, 76, 86, 95, 102, 107], 51) := by decide +kernel
theorem dX7_told_84 : decode cX7_told 84 = .ok (.iload_n 3, 1) := by decide +kernel
theorem dX7_told_85 : decode cX7_told 85 = .ok (.ireturn, 1) := by decide +kernel
theorem dX7_told_86 : decode cX7_told 86 = .ok (.aload_n 0, 1) := by decide +kernel
theorem dX7_told_87 : decode cX7_told 87 = .ok (.getfield 10, 3) := by decide +kernel
theorem dX7_told_90 : decode cX7_told 90 = .ok (.getfield 100, 3) := by decide +kernel
theorem dX7_told_93 : decode cX7_told 93 = .ok (.iload_n 1, 1) := by decide +kernel
theorem dX7_told_94 : decode cX7_told 94 = .ok (.iaload, 1) := by decide +kernel
theorem dX7_told_95 : decode cX7_told 95 = .ok (.ireturn, 1) := by decide +kernel
theorem dX7_told_96 : decode cX7_told 96 = .ok (.iload 4, 2) := by decide +kernel
theorem dX7_told_98 : decode cX7_told 98 = .ok (.ireturn, 1) := by decide +kernel
theorem dX7_told_99 : decode cX7_told 99 = .ok (.aload_n 0, 1) := by decide +kernel
theorem dX7_told_100 : decode cX7_told 100 = .ok (.getfield 10, 3) := by decide +kernel
theorem dX7_told_103 : decode cX7_told 103 = .ok (.getfield 103, 3) := by decide +kernel
theorem dX7_told_106 : decode cX7_told 106 = .ok (.iload_n 1, 1) := by decide +kernel
theorem dX7_told_107 : decode cX7_told 107 = .ok (.iaload, 1) := by decide +kernel
theorem dX7_told_108 : decode cX7_told 108 = .ok (.ireturn, 1) := by decide +kernel
theorem dX7_told_109 : decode cX7_told 109 = .ok (.aload_n 0, 1) := by decide +kernel
theorem dX7_told_110 : decode cX7_told 110 = .ok (.getfield 10, 3) := by decide +kernel
theorem dX7_told_113 : decode cX7_told 113 = .ok (.getfield 106, 3) := by decide +kernel
theorem dX7_told_116 : decode cX7_told 116 = .ok (.iload_n 1, 1) := by decide +kernel
theorem dX7_told_117 : decode cX7_told 117 = .ok (.iaload, 1) := by decide +kernel
theorem dX7_told_118 : decode cX7_told 118 = .ok (.ireturn, 1) := by decide +kernel
theorem dX7_told_119 : decode cX7_told 119 = .ok (.aload_n 0, 1) := by decide +kernel
theorem dX7_told_120 : decode cX7_told 120 = .ok (.getfield 10, 3) := by decide +kernel
theorem dX7_told_123 : decode cX7_told 123 = .ok (.iload_n 1, 1) := by decide +kernel
theorem dX7_told_124 : decode cX7_told 124 = .ok (.invokevirtual 109, 3) := by decide +kernel
theorem dX7_told_127 : decode cX7_told 127 = .ok (.ireturn, 1) := by decide +kernel
theorem dX7_told_128 : decode cX7_told 128 = .ok (.iload_n 3, 1) := by decide +kernel
theorem dX7_told_129 : decode cX7_told 129 = .ok (.iload 4, 2) := by decide +kernel
theorem dX7_told_131 : decode cX7_told 131 = .ok (.invokestatic 112, 3) := by decide +kernel
theorem dX7_told_134 : decode cX7_told 134 = .ok (.ireturn, 1) := by decide +kernel
theorem dX7_told_135 : decode cX7_told 135 = .ok (.iload_n 3, 1) := by decide +kernel
theorem dX7_told_136 : decode cX7_told 136 = .ok (.invokestatic 118, 3) := by decide +kernel
theorem dX7_told_139 : decode cX7_told 139 = .ok (.ireturn, 1) := by decide +kernel
theorem dX7_told_140 : decode cX7_told 140 = .ok (.iload_n 3, 1) := by decide +kernel
theorem dX7_told_141 : decode cX7_told 141 = .ok (.iload 4, 2) := by decide +kernel
theorem dX7_told_143 : decode cX7_told 143 = .ok (.invokestatic 121, 3) := by decide +kernel
theorem dX7_told_146 : decode cX7_told 146 = .ok (.ireturn, 1) := by decide +kernel
theorem dX7_told_147 : decode cX7_told 147 = .ok (.ldc 76, 2) := by decide +kernel
theorem dX7_told_149 : decode cX7_told 149 = .ok (.ireturn, 1) := by decide +kernel
theorem dX7_as_0 : decode cX7_as 0 = .ok (.aload_n 0, 1) := by decide +kernel
theorem dX7_as_1 : decode cX7_as 1 = .ok (.iload_n 1, 1) := by decide +kernel
theorem dX7_as_2 : decode cX7_as 2 = .ok (.invokevirtual 91, 3) := by decide +kernel
theorem dX7_as_5 : decode cX7_as 5 = .ok (.ifCond .eq 10, 3) := by decide +kernel
theorem dX7_as_8 : decode cX7_as 8 = .ok (.iload_n 2, 1) := by decide +kernel
theorem dX7_as_9 : decode cX7_as 9 = .ok (.invokestatic 65, 3) := by decide +kernel
theorem dX7_as_12 : decode cX7_as 12 = .ok (.ifCond .ne 6, 3) := by decide +kernel
theorem dX7_as_15 : decode cX7_as 15 = .ok (.ldc 76, 2) := by decide +kernel
theorem dX7_as_17 : decode cX7_as 17 = .ok (.ireturn, 1) := by decide +kernel
theorem dX7_as_18 : decode cX7_as 18 = .ok (.aload_n 0, 1) := by decide +kernel
theorem dX7_as_19 : decode cX7_as 19 = .ok (.getfield 10, 3) := by decide +kernel
theorem dX7_as_22 : decode cX7_as 22 = .ok (.getfield 94, 3) := by decide +kernel
theorem dX7_as_25 : decode cX7_as 25 = .ok (.iload_n 1, 1) := by decide +kernel
theorem dX7_as_26 : decode cX7_as 26 = .ok (.iaload, 1) := by decide +kernel
theorem dX7_as_27 : decode cX7_as 27 = .ok (.iload_n 2, 1) := by decide +kernel
theorem dX7_as_28 : decode cX7_as 28 = .ok (.invokestatic 124, 3) := by decide +kernel
theorem dX7_as_31 : decode cX7_as 31 = .ok (.ifCond .eq 15, 3) := by decide +kernel
theorem dX7_as_34 : decode cX7_as 34 = .ok (.aload_n 0, 1) := by decide +kernel
theorem dX7_as_35 : decode cX7_as 35 = .ok (.getfield 10, 3) := by decide +kernel
theorem dX7_as_38 : decode cX7_as 38 = .ok (.getfield 97, 3) := by decide +kernel
theorem dX7_as_41 : decode cX7_as 41 = .ok (.iload_n 1, 1) := by decide +kernel
theorem dX7_as_42 : decode cX7_as 42 = .ok (.iaload, 1) := by decide +kernel
theorem dX7_as_43 : decode cX7_as 43 = .ok (.goto 5, 3) := by decide +kernel
theorem dX7_as_46 : decode cX7_as 46 = .ok (.ldc 128, 2) := by decide +kernel
theorem dX7_as_48 : decode cX7_as 48 = .ok (.ireturn, 1) := by decide +kernel
theorem dX7_turns_0 : decode cX7_turns 0 = .ok (.aload_n 0, 1) := by decide +kernel
theorem dX7_turns_1 : decode cX7_turns 1 = .ok (.iload_n 1, 1) := by decide +kernel
theorem dX7_turns_2 : decode cX7_turns 2 = .ok (.invokevirtual 91, 3) := by decide +kernel
theorem dX7_turns_5 : decode cX7_turns 5 = .ok (.ifCond .eq 10, 3) := by decide +kernel
theorem dX7_turns_8 : decode cX7_turns 8 = .ok (.iload_n 2, 1) := by decide +kernel
theorem dX7_turns_9 : decode cX7_turns 9 = .ok (.invokestatic 65, 3) := by decide +kernel
theorem dX7_turns_12 : decode cX7_turns 12 = .ok (.ifCond .ne 6, 3) := by decide +kernel
theorem dX7_turns_15 : decode cX7_turns 15 = .ok (.ldc 76, 2) := by decide +kernel
theorem dX7_turns_17 : decode cX7_turns 17 = .ok (.ireturn, 1) := by decide +kernel
theorem dX7_turns_18 : decode cX7_turns 18 = .ok (.aload_n 0, 1) := by decide +kernel
theorem dX7_turns_19 : decode cX7_turns 19 = .ok (.getfield 10, 3) := by decide +kernel
theorem dX7_turns_22 : decode cX7_turns 22 = .ok (.getfield 94, 3) := by decide +kernel
theorem dX7_turns_25 : decode cX7_turns 25 = .ok (.iload_n 1, 1) := by decide +kernel
theorem dX7_turns_26 : decode cX7_turns 26 = .ok (.iaload, 1) := by decide +kernel
theorem dX7_turns_27 : decode cX7_turns 27 = .ok (.istore_n 3, 1) := by decide +kernel
theorem dX7_turns_28 : decode cX7_turns 28 = .ok (.aload_n 0, 1) := by decide +kernel
theorem dX7_turns_29 : decode cX7_turns 29 = .ok (.getfield 10, 3) := by decide +kernel
theorem dX7_turns_32 : decode cX7_turns 32 = .ok (.getfield 94, 3) := by decide +kernel
theorem dX7_turns_35 : decode cX7_turns 35 = .ok (.iload_n 1, 1) := by decide +kernel
theorem dX7_turns_36 : decode cX7_turns 36 = .ok (.iload_n 2, 1) := by decide +kernel
theorem dX7_turns_37 : decode cX7_turns 37 = .ok (.iastore, 1) := by decide +kernel
theorem dX7_turns_38 : decode cX7_turns 38 = .ok (.iload_n 3, 1) := by decide +kernel
theorem dX7_turns_39 : decode cX7_turns 39 = .ok (.ireturn, 1) := by decide +kernel
theorem dX7_set_0 : decode cX7_set 0 = .ok (.aload_n 0, 1) := by decide +kernel
theorem dX7_set_1 : decode cX7_set 1 = .ok (.iload_n 1, 1) := by decide +kernel
theorem dX7_set_2 : decode cX7_set 2 = .ok (.invokevirtual 91, 3) := by decide +kernel
theorem dX7_set_5 : decode cX7_set 5 = .ok (.ifCond .eq 31, 3) := by decide +kernel
theorem dX7_set_8 : decode cX7_set 8 = .ok (.iload_n 2, 1) := by decide +kernel
theorem dX7_set_9 : decode cX7_set 9 = .ok (.iconst 2, 1) := by decide +kernel
theorem dX7_set_10 : decode cX7_set 10 = .ok (.iconst 4, 1) := by decide +kernel
theorem dX7_set_11 : decode cX7_set 11 = .ok (.invokestatic 72, 3) := by decide +kernel
theorem dX7_set_14 : decode cX7_set 14 = .ok (.ifCond .eq 22, 3) := by decide +kernel
theorem dX7_set_17 : decode cX7_set 17 = .ok (.iload_n 3, 1) := by decide +kernel
theorem dX7_set_18 : decode cX7_set 18 = .ok (.iconst 0, 1) := by decide +kernel
theorem dX7_set_19 : decode cX7_set 19 = .ok (.iload_n 2, 1) := by decide +kernel
theorem dX7_set_20 : decode cX7_set 20 = .ok (.iconst 4, 1) := by decide +kernel
theorem dX7_set_21 : decode cX7_set 21 = .ok (.if_icmp .ne 7, 3) := by decide +kernel
theorem dX7_set_24 : decode cX7_set 24 = .ok (.iconst 1, 1) := by decide +kernel
theorem dX7_set_25 : decode cX7_set 25 = .ok (.goto 5, 3) := by decide +kernel
theorem dX7_set_28 : decode cX7_set 28 = .ok (.bipush 99, 2) := by decide +kernel
theorem dX7_set_30 : decode cX7_set 30 = .ok (.invokestatic 72, 3) := by decide +kernel
theorem dX7_set_33 : decode cX7_set 33 = .ok (.ifCond .ne 6, 3) := by decide +kernel
theorem dX7_set_36 : decode cX7_set 36 = .ok (.ldc 76, 2) := by decide +kernel
theorem dX7_set_38 : decode cX7_set 38 = .ok (.ireturn, 1) := by decide +kernel
theorem dX7_set_39 : decode cX7_set 39 = .ok (.iload_n 2, 1) := by decide +kernel
theorem dX7_set_40 : decode cX7_set 40 = .ok (.iconst 2, 1) := by decide +kernel
theorem dX7_set_41 : decode cX7_set 41 = .ok (.if_icmp .ne 13, 3) := by decide +kernel
theorem dX7_set_44 : decode cX7_set 44 = .ok (.aload_n 0, 1) := by decide +kernel
theorem dX7_set_45 : decode cX7_set 45 = .ok (.getfield 10, 3) := by decide +kernel
theorem dX7_set_48 : decode cX7_set 48 = .ok (.getfield 97, 3) := by decide +kernel
theorem dX7_set_51 : decode cX7_set 51 = .ok (.goto 25, 3) := by decide +kernel
theorem dX7_set_54 : decode cX7_set 54 = .ok (.iload_n 2, 1) := by decide +kernel
theorem dX7_set_55 : decode cX7_set 55 = .ok (.iconst 3, 1) := by decide +kernel
theorem dX7_set_56 : decode cX7_set 56 = .ok (.if_icmp .ne 13, 3) := by decide +kernel
theorem dX7_set_59 : decode cX7_set 59 = .ok (.aload_n 0, 1) := by decide +kernel
theorem dX7_set_60 : decode cX7_set 60 = .ok (.getfield 10, 3) := by decide +kernel
theorem dX7_set_63 : decode cX7_set 63 = .ok (.getfield 103, 3) := by decide +kernel
theorem dX7_set_66 : decode cX7_set 66 = .ok (.goto 10, 3) := by decide +kernel
theorem dX7_set_69 : decode cX7_set 69 = .ok (.aload_n 0, 1) := by decide +kernel
theorem dX7_set_70 : decode cX7_set 70 = .ok (.getfield 10, 3) := by decide +kernel
theorem dX7_set_73 : decode cX7_set 73 = .ok (.getfield 106, 3) := by decide +kernel
theorem dX7_set_76 : decode cX7_set 76 = .ok (.astore 4, 2) := by decide +kernel
theorem dX7_set_78 : decode cX7_set 78 = .ok (.aload 4, 2) := by decide +kernel
theorem dX7_set_80 : decode cX7_set 80 = .ok (.iload_n 1, 1) := by decide +kernel
theorem dX7_set_81 : decode cX7_set 81 = .ok (.iaload, 1) := by decide +kernel
theorem dX7_set_82 : decode cX7_set 82 = .ok (.istore 5, 2) := by decide +kernel
theorem dX7_set_84 : decode cX7_set 84 = .ok (.aload 4, 2) := by decide +kernel
theorem dX7_set_86 : decode cX7_set 86 = .ok (.iload_n 1, 1) := by decide +kernel
theorem dX7_set_87 : decode cX7_set 87 = .ok (.iload_n 3, 1) := by decide +kernel
theorem dX7_set_88 : decode cX7_set 88 = .ok (.iastore, 1) := by decide +kernel
theorem dX7_set_89 : decode cX7_set 89 = .ok (.iload 5, 2) := by decide +kernel
theorem dX7_set_91 : decode cX7_set 91 = .ok (.ireturn, 1) := by decide +kernel
theorem dX7_moves_0 : decode cX7_moves 0 = .ok (.aload_n 0, 1) := by decide +kernel
theorem dX7_moves_1 : decode cX7_moves 1 = .ok (.iload_n 1, 1) := by decide +kernel
theorem dX7_moves_2 : decode cX7_moves 2 = .ok (.invokevirtual 91, 3) := by decide +kernel
theorem dX7_moves_5 : decode cX7_moves 5 = .ok (.ifCond .eq 10, 3) := by decide +kernel
theorem dX7_moves_8 : decode cX7_moves 8 = .ok (.iload_n 2, 1) := by decide +kernel
theorem dX7_moves_9 : decode cX7_moves 9 = .ok (.invokestatic 69, 3) := by decide +kernel
theorem dX7_moves_12 : decode cX7_moves 12 = .ok (.ifCond .ne 6, 3) := by decide +kernel
theorem dX7_moves_15 : decode cX7_moves 15 = .ok (.ldc 76, 2) := by decide +kernel
theorem dX7_moves_17 : decode cX7_moves 17 = .ok (.ireturn, 1) := by decide +kernel
theorem dX7_moves_18 : decode cX7_moves 18 = .ok (.aload_n 0, 1) := by decide +kernel
theorem dX7_moves_19 : decode cX7_moves 19 = .ok (.getfield 10, 3) := by decide +kernel
theorem dX7_moves_22 : decode cX7_moves 22 = .ok (.iload_n 2, 1) := by decide +kernel
theorem dX7_moves_23 : decode cX7_moves 23 = .ok (.invokevirtual 77, 3) := by decide +kernel
theorem dX7_moves_26 : decode cX7_moves 26 = .ok (.ldc 81, 2) := by decide +kernel
theorem dX7_moves_28 : decode cX7_moves 28 = .ok (.if_icmp .eq 6, 3) := by decide +kernel
theorem dX7_moves_31 : decode cX7_moves 31 = .ok (.ldc 82, 2) := by decide +kernel
theorem dX7_moves_33 : decode cX7_moves 33 = .ok (.ireturn, 1) := by decide +kernel
theorem dX7_moves_34 : decode cX7_moves 34 = .ok (.aload_n 0, 1) := by decide +kernel
theorem dX7_moves_35 : decode cX7_moves 35 = .ok (.getfield 10, 3) := by decide +kernel
theorem dX7_moves_38 : decode cX7_moves 38 = .ok (.getfield 100, 3) := by decide +kernel
theorem dX7_moves_41 : decode cX7_moves 41 = .ok (.iload_n 1, 1) := by decide +kernel
theorem dX7_moves_42 : decode cX7_moves 42 = .ok (.iaload, 1) := by decide +kernel
theorem dX7_moves_43 : decode cX7_moves 43 = .ok (.istore_n 3, 1) := by decide +kernel
theorem dX7_moves_44 : decode cX7_moves 44 = .ok (.aload_n 0, 1) := by decide +kernel
theorem dX7_moves_45 : decode cX7_moves 45 = .ok (.getfield 10, 3) := by decide +kernel
theorem dX7_moves_48 : decode cX7_moves 48 = .ok (.getfield 100, 3) := by decide +kernel
theorem dX7_moves_51 : decode cX7_moves 51 = .ok (.iload_n 1, 1) := by decide +kernel
theorem dX7_moves_52 : decode cX7_moves 52 = .ok (.iload_n 2, 1) := by decide +kernel
theorem dX7_moves_53 : decode cX7_moves 53 = .ok (.iastore, 1) := by decide +kernel
theorem dX7_moves_54 : decode cX7_moves 54 = .ok (.iload_n 3, 1) := by decide +kernel
theorem dX7_moves_55 : decode cX7_moves 55 = .ok (.ireturn, 1) := by decide +kernel
theorem dX7_at_0 : decode cX7_at 0 = .ok (.iload_n 1, 1) := by decide +kernel
theorem dX7_at_1 : decode cX7_at 1 = .ok (.invokestatic 69, 3) := by decide +kernel
theorem dX7_at_4 : decode cX7_at 4 = .ok (.ifCond .eq 14, 3) := by decide +kernel
theorem dX7_at_7 : decode cX7_at 7 = .ok (.aload_n 0, 1) := by decide +kernel
theorem dX7_at_8 : decode cX7_at 8 = .ok (.getfield 10, 3) := by decide +kernel
theorem dX7_at_11 : decode cX7_at 11 = .ok (.iload_n 1, 1) := by decide +kernel
theorem dX7_at_12 : decode cX7_at 12 = .ok (.invokevirtual 77, 3) := by decide +kernel
theorem dX7_at_15 : decode cX7_at 15 = .ok (.goto 5, 3) := by decide +kernel
theorem dX7_at_18 : decode cX7_at 18 = .ok (.ldc 76, 2) := by decide +kernel
theorem dX7_at_20 : decode cX7_at 20 = .ok (.ireturn, 1) := by decide +kernel
theorem dX7_rule_0 : decode cX7_rule 0 = .ok (.iload_n 1, 1) := by decide +kernel
theorem dX7_rule_1 : decode cX7_rule 1 = .ok (.iconst 0, 1) := by decide +kernel
theorem dX7_rule_2 : decode cX7_rule 2 = .ok (.iconst 3, 1) := by decide +kernel
theorem dX7_rule_3 : decode cX7_rule 3 = .ok (.invokestatic 72, 3) := by decide +kernel
theorem dX7_rule_6 : decode cX7_rule 6 = .ok (.ifCond .eq 16, 3) := by decide +kernel
theorem dX7_rule_9 : decode cX7_rule 9 = .ok (.iload_n 2, 1) := by decide +kernel
theorem dX7_rule_10 : decode cX7_rule 10 = .ok (.iconst 0, 1) := by decide +kernel
theorem dX7_rule_11 : decode cX7_rule 11 = .ok (.getstatic 129, 3) := by decide +kernel
theorem dX7_rule_14 : decode cX7_rule 14 = .ok (.iload_n 1, 1) := by decide +kernel
theorem dX7_rule_15 : decode cX7_rule 15 = .ok (.iaload, 1) := by decide +kernel
theorem dX7_rule_16 : decode cX7_rule 16 = .ok (.invokestatic 72, 3) := by decide +kernel
theorem dX7_rule_19 : decode cX7_rule 19 = .ok (.ifCond .ne 6, 3) := by decide +kernel
theorem dX7_rule_22 : decode cX7_rule 22 = .ok (.ldc 76, 2) := by decide +kernel
theorem dX7_rule_24 : decode cX7_rule 24 = .ok (.ireturn, 1) := by decide +kernel
theorem dX7_rule_25 : decode cX7_rule 25 = .ok (.aload_n 0, 1) := by decide +kernel
theorem dX7_rule_26 : decode cX7_rule 26 = .ok (.getfield 10, 3) := by decide +kernel
theorem dX7_rule_29 : decode cX7_rule 29 = .ok (.getfield 132, 3) := by decide +kernel
theorem dX7_rule_32 : decode cX7_rule 32 = .ok (.iload_n 1, 1) := by decide +kernel
theorem dX7_rule_33 : decode cX7_rule 33 = .ok (.iaload, 1) := by decide +kernel
theorem dX7_rule_34 : decode cX7_rule 34 = .ok (.istore_n 3, 1) := by decide +kernel
theorem dX7_rule_35 : decode cX7_rule 35 = .ok (.aload_n 0, 1) := by decide +kernel
theorem dX7_rule_36 : decode cX7_rule 36 = .ok (.getfield 10, 3) := by decide +kernel
theorem dX7_rule_39 : decode cX7_rule 39 = .ok (.getfield 132, 3) := by decide +kernel
theorem dX7_rule_42 : decode cX7_rule 42 = .ok (.iload_n 1, 1) := by decide +kernel
theorem dX7_rule_43 : decode cX7_rule 43 = .ok (.iload_n 2, 1) := by decide +kernel
theorem dX7_rule_44 : decode cX7_rule 44 = .ok (.iastore, 1) := by decide +kernel
theorem dX7_rule_45 : decode cX7_rule 45 = .ok (.iload_n 3, 1) := by decide +kernel
theorem dX7_rule_46 : decode cX7_rule 46 = .ok (.ireturn, 1) := by decide +kernel
theorem dX7_deal_0 : decode cX7_deal 0 = .ok (.iload_n 1, 1) := by decide +kernel
theorem dX7_deal_1 : decode cX7_deal 1 = .ok (.iconst 1, 1) := by decide +kernel
theorem dX7_deal_2 : decode cX7_deal 2 = .ok (.bipush 10, 2) := by decide +kernel
theorem dX7_deal_4 : decode cX7_deal 4 = .ok (.invokestatic 72, 3) := by decide +kernel
theorem dX7_deal_7 : decode cX7_deal 7 = .ok (.ifCond .ne 6, 3) := by decide +kernel
theorem dX7_deal_10 : decode cX7_deal 10 = .ok (.ldc 76, 2) := by decide +kernel
theorem dX7_deal_12 : decode cX7_deal 12 = .ok (.ireturn, 1) := by decide +kernel
theorem dX7_deal_13 : decode cX7_deal 13 = .ok (.iload_n 1, 1) := by decide +kernel
theorem dX7_deal_14 : decode cX7_deal 14 = .ok (.bipush 10, 2) := by decide +kernel
theorem dX7_deal_16 : decode cX7_deal 16 = .ok (.aload_n 0, 1) := by decide +kernel
theorem dX7_deal_17 : decode cX7_deal 17 = .ok (.getfield 10, 3) := by decide +kernel
theorem dX7_deal_20 : decode cX7_deal 20 = .ok (.getfield 83, 3) := by decide +kernel
theorem dX7_deal_23 : decode cX7_deal 23 = .ok (.isub, 1) := by decide +kernel
theorem dX7_deal_24 : decode cX7_deal 24 = .ok (.invokestatic 135, 3) := by decide +kernel
theorem dX7_deal_27 : decode cX7_deal 27 = .ok (.istore_n 2, 1) := by decide +kernel
theorem dX7_deal_28 : decode cX7_deal 28 = .ok (.iconst 0, 1) := by decide +kernel
theorem dX7_deal_29 : decode cX7_deal 29 = .ok (.istore_n 3, 1) := by decide +kernel
theorem dX7_deal_30 : decode cX7_deal 30 = .ok (.iload_n 3, 1) := by decide +kernel
theorem dX7_deal_31 : decode cX7_deal 31 = .ok (.iload_n 2, 1) := by decide +kernel
theorem dX7_deal_32 : decode cX7_deal 32 = .ok (.if_icmp .ge 16, 3) := by decide +kernel
theorem dX7_deal_35 : decode cX7_deal 35 = .ok (.aload_n 0, 1) := by decide +kernel
theorem dX7_deal_36 : decode cX7_deal 36 = .ok (.getfield 10, 3) := by decide +kernel
theorem dX7_deal_39 : decode cX7_deal 39 = .ok (.invokevirtual 140, 3) := by decide +kernel
theorem dX7_deal_42 : decode cX7_deal 42 = .ok (.iinc 3 1, 3) := by decide +kernel
theorem dX7_deal_45 : decode cX7_deal 45 = .ok (.goto (-15), 3) := by decide +kernel
theorem dX7_deal_48 : decode cX7_deal 48 = .ok (.iload_n 2, 1) := by decide +kernel
theorem dX7_deal_49 : decode cX7_deal 49 = .ok (.ireturn, 1) := by decide +kernel
theorem dX7_seed_0 : decode cX7_seed 0 = .ok (.aload_n 0, 1) := by decide +kernel
theorem dX7_seed_1 : decode cX7_seed 1 = .ok (.getfield 10, 3) := by decide +kernel
theorem dX7_seed_4 : decode cX7_seed 4 = .ok (.getfield 143, 3) := by decide +kernel
theorem dX7_seed_7 : decode cX7_seed 7 = .ok (.istore_n 2, 1) := by decide +kernel
theorem dX7_seed_8 : decode cX7_seed 8 = .ok (.aload_n 0, 1) := by decide +kernel
theorem dX7_seed_9 : decode cX7_seed 9 = .ok (.getfield 10, 3) := by decide +kernel
theorem dX7_seed_12 : decode cX7_seed 12 = .ok (.iload_n 1, 1) := by decide +kernel
theorem dX7_seed_13 : decode cX7_seed 13 = .ok (.putfield 143, 3) := by decide +kernel
theorem dX7_seed_16 : decode cX7_seed 16 = .ok (.iload_n 2, 1) := by decide +kernel
theorem dX7_seed_17 : decode cX7_seed 17 = .ok (.ireturn, 1) := by decide +kernel
theorem dX7_seen_0 : decode cX7_seen 0 = .ok (.iload_n 1, 1) := by decide +kernel
theorem dX7_seen_1 : decode cX7_seen 1 = .ok (.invokestatic 69, 3) := by decide +kernel
theorem dX7_seen_4 : decode cX7_seen 4 = .ok (.ifCond .ne 6, 3) := by decide +kernel
theorem dX7_seen_7 : decode cX7_seen 7 = .ok (.ldc 76, 2) := by decide +kernel
theorem dX7_seen_9 : decode cX7_seen 9 = .ok (.ireturn, 1) := by decide +kernel
theorem dX7_seen_10 : decode cX7_seen 10 = .ok (.iconst 0, 1) := by decide +kernel
theorem dX7_seen_11 : decode cX7_seen 11 = .ok (.istore_n 2, 1) := by decide +kernel
theorem dX7_seen_12 : decode cX7_seen 12 = .ok (.iconst 0, 1) := by decide +kernel
theorem dX7_seen_13 : decode cX7_seen 13 = .ok (.istore_n 3, 1) := by decide +kernel
theorem dX7_seen_14 : decode cX7_seen 14 = .ok (.iload_n 3, 1) := by decide +kernel
theorem dX7_seen_15 : decode cX7_seen 15 = .ok (.aload_n 0, 1) := by decide +kernel
theorem dX7_seen_16 : decode cX7_seen 16 = .ok (.getfield 10, 3) := by decide +kernel
theorem dX7_seen_19 : decode cX7_seen 19 = .ok (.getfield 83, 3) := by decide +kernel
theorem dX7_seen_22 : decode cX7_seen 22 = .ok (.if_icmp .ge 27, 3) := by decide +kernel
theorem dX7_seen_25 : decode cX7_seen 25 = .ok (.aload_n 0, 1) := by decide +kernel
theorem dX7_seen_26 : decode cX7_seen 26 = .ok (.getfield 10, 3) := by decide +kernel
theorem dX7_seen_29 : decode cX7_seen 29 = .ok (.iload_n 3, 1) := by decide +kernel
theorem dX7_seen_30 : decode cX7_seen 30 = .ok (.iload_n 1, 1) := by decide +kernel
theorem dX7_seen_31 : decode cX7_seen 31 = .ok (.invokevirtual 146, 3) := by decide +kernel
theorem dX7_seen_34 : decode cX7_seen 34 = .ok (.ifCond .eq 9, 3) := by decide +kernel
theorem dX7_seen_37 : decode cX7_seen 37 = .ok (.iload_n 2, 1) := by decide +kernel
theorem dX7_seen_38 : decode cX7_seen 38 = .ok (.iconst 1, 1) := by decide +kernel
theorem dX7_seen_39 : decode cX7_seen 39 = .ok (.iload_n 3, 1) := by decide +kernel
theorem dX7_seen_40 : decode cX7_seen 40 = .ok (.ishl, 1) := by decide +kernel
theorem dX7_seen_41 : decode cX7_seen 41 = .ok (.ior, 1) := by decide +kernel
theorem dX7_seen_42 : decode cX7_seen 42 = .ok (.istore_n 2, 1) := by decide +kernel
theorem dX7_seen_43 : decode cX7_seen 43 = .ok (.iinc 3 1, 3) := by decide +kernel
theorem dX7_seen_46 : decode cX7_seen 46 = .ok (.goto (-32), 3) := by decide +kernel
theorem dX7_seen_49 : decode cX7_seen 49 = .ok (.iload_n 2, 1) := by decide +kernel
theorem dX7_seen_50 : decode cX7_seen 50 = .ok (.ireturn, 1) := by decide +kernel
theorem dX7_nights_0 : decode cX7_nights 0 = .ok (.iload_n 1, 1) := by decide +kernel
theorem dX7_nights_1 : decode cX7_nights 1 = .ok (.iconst 1, 1) := by decide +kernel
theorem dX7_nights_2 : decode cX7_nights 2 = .ok (.bipush 100, 2) := by decide +kernel
theorem dX7_nights_4 : decode cX7_nights 4 = .ok (.invokestatic 72, 3) := by decide +kernel
theorem dX7_nights_7 : decode cX7_nights 7 = .ok (.ifCond .ne 6, 3) := by decide +kernel
theorem dX7_nights_10 : decode cX7_nights 10 = .ok (.ldc 76, 2) := by decide +kernel
theorem dX7_nights_12 : decode cX7_nights 12 = .ok (.ireturn, 1) := by decide +kernel
theorem dX7_nights_13 : decode cX7_nights 13 = .ok (.iload_n 1, 1) := by decide +kernel
theorem dX7_nights_14 : decode cX7_nights 14 = .ok (.sipush 9999, 3) := by decide +kernel
theorem dX7_nights_17 : decode cX7_nights 17 = .ok (.aload_n 0, 1) := by decide +kernel
theorem dX7_nights_18 : decode cX7_nights 18 = .ok (.getfield 10, 3) := by decide +kernel
theorem dX7_nights_21 : decode cX7_nights 21 = .ok (.getfield 149, 3) := by decide +kernel
theorem dX7_nights_24 : decode cX7_nights 24 = .ok (.isub, 1) := by decide +kernel
theorem dX7_nights_25 : decode cX7_nights 25 = .ok (.invokestatic 135, 3) := by decide +kernel
theorem dX7_nights_28 : decode cX7_nights 28 = .ok (.istore_n 2, 1) := by decide +kernel
theorem dX7_nights_29 : decode cX7_nights 29 = .ok (.iconst 0, 1) := by decide +kernel
theorem dX7_nights_30 : decode cX7_nights 30 = .ok (.istore_n 3, 1) := by decide +kernel
theorem dX7_nights_31 : decode cX7_nights 31 = .ok (.iconst 0, 1) := by decide +kernel
theorem dX7_nights_32 : decode cX7_nights 32 = .ok (.istore 4, 2) := by decide +kernel
theorem dX7_nights_34 : decode cX7_nights 34 = .ok (.iload 4, 2) := by decide +kernel
theorem dX7_nights_36 : decode cX7_nights 36 = .ok (.iload_n 2, 1) := by decide +kernel
theorem dX7_nights_37 : decode cX7_nights 37 = .ok (.if_icmp .ge 22, 3) := by decide +kernel
theorem dX7_nights_40 : decode cX7_nights 40 = .ok (.aload_n 0, 1) := by decide +kernel
theorem dX7_nights_41 : decode cX7_nights 41 = .ok (.getfield 10, 3) := by decide +kernel
theorem dX7_nights_44 : decode cX7_nights 44 = .ok (.invokevirtual 152, 3) := by decide +kernel
theorem dX7_nights_47 : decode cX7_nights 47 = .ok (.ifCond .eq 6, 3) := by decide +kernel
theorem dX7_nights_50 : decode cX7_nights 50 = .ok (.iinc 3 1, 3) := by decide +kernel
theorem dX7_nights_53 : decode cX7_nights 53 = .ok (.iinc 4 1, 3) := by decide +kernel
theorem dX7_nights_56 : decode cX7_nights 56 = .ok (.goto (-22), 3) := by decide +kernel
theorem dX7_nights_59 : decode cX7_nights 59 = .ok (.iload_n 3, 1) := by decide +kernel
theorem dX7_nights_60 : decode cX7_nights 60 = .ok (.ireturn, 1) := by decide +kernel
theorem dX7_border_0 : decode cX7_border 0 = .ok (.iload_n 1, 1) := by decide +kernel
theorem dX7_border_1 : decode cX7_border 1 = .ok (.tableswitch 105 0 6 #[43, 53, 63, 73, 81, 89, 97], 43) := by decide +kernel
theorem dX7_border_44 : decode cX7_border 44 = .ok (.aload_n 0, 1) := by decide +kernel
theorem dX7_border_45 : decode cX7_border 45 = .ok (.getfield 10, 3) := by decide +kernel
theorem dX7_border_48 : decode cX7_border 48 = .ok (.getfield 156, 3) := by decide +kernel
theorem dX7_border_51 : decode cX7_border 51 = .ok (.iconst 0, 1) := by decide +kernel
theorem dX7_border_52 : decode cX7_border 52 = .ok (.iaload, 1) := by decide +kernel
theorem dX7_border_53 : decode cX7_border 53 = .ok (.ireturn, 1) := by decide +kernel
theorem dX7_border_54 : decode cX7_border 54 = .ok (.aload_n 0, 1) := by decide +kernel
theorem dX7_border_55 : decode cX7_border 55 = .ok (.getfield 10, 3) := by decide +kernel
theorem dX7_border_58 : decode cX7_border 58 = .ok (.getfield 156, 3) := by decide +kernel
theorem dX7_border_61 : decode cX7_border 61 = .ok (.iconst 1, 1) := by decide +kernel
theorem dX7_border_62 : decode cX7_border 62 = .ok (.iaload, 1) := by decide +kernel
theorem dX7_border_63 : decode cX7_border 63 = .ok (.ireturn, 1) := by decide +kernel
theorem dX7_border_64 : decode cX7_border 64 = .ok (.aload_n 0, 1) := by decide +kernel
theorem dX7_border_65 : decode cX7_border 65 = .ok (.getfield 10, 3) := by decide +kernel
theorem dX7_border_68 : decode cX7_border 68 = .ok (.getfield 156, 3) := by decide +kernel
theorem dX7_border_71 : decode cX7_border 71 = .ok (.iconst 2, 1) := by decide +kernel
theorem dX7_border_72 : decode cX7_border 72 = .ok (.iaload, 1) := by decide +kernel
theorem dX7_border_73 : decode cX7_border 73 = .ok (.ireturn, 1) := by decide +kernel
theorem dX7_border_74 : decode cX7_border 74 = .ok (.aload_n 0, 1) := by decide +kernel
theorem dX7_border_75 : decode cX7_border 75 = .ok (.getfield 10, 3) := by decide +kernel
theorem dX7_border_78 : decode cX7_border 78 = .ok (.invokevirtual 159, 3) := by decide +kernel
theorem dX7_border_81 : decode cX7_border 81 = .ok (.ireturn, 1) := by decide +kernel
theorem dX7_border_82 : decode cX7_border 82 = .ok (.aload_n 0, 1) := by decide +kernel
theorem dX7_border_83 : decode cX7_border 83 = .ok (.getfield 10, 3) := by decide +kernel
theorem dX7_border_86 : decode cX7_border 86 = .ok (.invokevirtual 163, 3) := by decide +kernel
theorem dX7_border_89 : decode cX7_border 89 = .ok (.ireturn, 1) := by decide +kernel
theorem dX7_border_90 : decode cX7_border 90 = .ok (.aload_n 0, 1) := by decide +kernel
theorem dX7_border_91 : decode cX7_border 91 = .ok (.getfield 10, 3) := by decide +kernel
theorem dX7_border_94 : decode cX7_border 94 = .ok (.invokevirtual 166, 3) := by decide +kernel
theorem dX7_border_97 : decode cX7_border 97 = .ok (.ireturn, 1) := by decide +kernel
theorem dX7_border_98 : decode cX7_border 98 = .ok (.aload_n 0, 1) := by decide +kernel
theorem dX7_border_99 : decode cX7_border 99 = .ok (.getfield 10, 3) := by decide +kernel
theorem dX7_border_102 : decode cX7_border 102 = .ok (.invokevirtual 169, 3) := by decide +kernel
theorem dX7_border_105 : decode cX7_border 105 = .ok (.ireturn, 1) := by decide +kernel
theorem dX7_border_106 : decode cX7_border 106 = .ok (.ldc 76, 2) := by decide +kernel
theorem dX7_border_108 : decode cX7_border 108 = .ok (.ireturn, 1) := by decide +kernel
theorem dX7_covers_0 : decode cX7_covers 0 = .ok (.aload_n 0, 1) := by decide +kernel
theorem dX7_covers_1 : decode cX7_covers 1 = .ok (.iload_n 1, 1) := by decide +kernel
theorem dX7_covers_2 : decode cX7_covers 2 = .ok (.invokevirtual 91, 3) := by decide +kernel
theorem dX7_covers_5 : decode cX7_covers 5 = .ok (.ifCond .eq 12, 3) := by decide +kernel
theorem dX7_covers_8 : decode cX7_covers 8 = .ok (.iload_n 2, 1) := by decide +kernel
theorem dX7_covers_9 : decode cX7_covers 9 = .ok (.iconst 0, 1) := by decide +kernel
theorem dX7_covers_10 : decode cX7_covers 10 = .ok (.iconst 1, 1) := by decide +kernel
theorem dX7_covers_11 : decode cX7_covers 11 = .ok (.invokestatic 72, 3) := by decide +kernel
theorem dX7_covers_14 : decode cX7_covers 14 = .ok (.ifCond .ne 6, 3) := by decide +kernel
theorem dX7_covers_17 : decode cX7_covers 17 = .ok (.ldc 76, 2) := by decide +kernel
theorem dX7_covers_19 : decode cX7_covers 19 = .ok (.ireturn, 1) := by decide +kernel
theorem dX7_covers_20 : decode cX7_covers 20 = .ok (.ldc 81, 2) := by decide +kernel
theorem dX7_covers_22 : decode cX7_covers 22 = .ok (.istore_n 3, 1) := by decide +kernel
theorem dX7_covers_23 : decode cX7_covers 23 = .ok (.iconst (-1), 1) := by decide +kernel
theorem dX7_covers_24 : decode cX7_covers 24 = .ok (.istore 4, 2) := by decide +kernel
theorem dX7_covers_26 : decode cX7_covers 26 = .ok (.iconst 0, 1) := by decide +kernel
theorem dX7_covers_27 : decode cX7_covers 27 = .ok (.istore 5, 2) := by decide +kernel
theorem dX7_covers_29 : decode cX7_covers 29 = .ok (.iload 5, 2) := by decide +kernel
theorem dX7_covers_31 : decode cX7_covers 31 = .ok (.bipush 20, 2) := by decide +kernel
theorem dX7_covers_33 : decode cX7_covers 33 = .ok (.if_icmp .ge 59, 3) := by decide +kernel
theorem dX7_covers_36 : decode cX7_covers 36 = .ok (.aload_n 0, 1) := by decide +kernel
theorem dX7_covers_37 : decode cX7_covers 37 = .ok (.getfield 10, 3) := by decide +kernel
theorem dX7_covers_40 : decode cX7_covers 40 = .ok (.iload 5, 2) := by decide +kernel
theorem dX7_covers_42 : decode cX7_covers 42 = .ok (.invokevirtual 77, 3) := by decide +kernel
theorem dX7_covers_45 : decode cX7_covers 45 = .ok (.istore 6, 2) := by decide +kernel
theorem dX7_covers_47 : decode cX7_covers 47 = .ok (.iload 6, 2) := by decide +kernel
theorem dX7_covers_49 : decode cX7_covers 49 = .ok (.ldc 81, 2) := by decide +kernel
theorem dX7_covers_51 : decode cX7_covers 51 = .ok (.if_icmp .eq 9, 3) := by decide +kernel
theorem dX7_covers_54 : decode cX7_covers 54 = .ok (.iload 6, 2) := by decide +kernel
theorem dX7_covers_56 : decode cX7_covers 56 = .ok (.iload_n 1, 1) := by decide +kernel
theorem dX7_covers_57 : decode cX7_covers 57 = .ok (.if_icmp .ne 29, 3) := by decide +kernel
theorem dX7_covers_60 : decode cX7_covers 60 = .ok (.aload_n 0, 1) := by decide +kernel
theorem dX7_covers_61 : decode cX7_covers 61 = .ok (.getfield 10, 3) := by decide +kernel
theorem dX7_covers_64 : decode cX7_covers 64 = .ok (.iload_n 1, 1) := by decide +kernel
theorem dX7_covers_65 : decode cX7_covers 65 = .ok (.iload 5, 2) := by decide +kernel
theorem dX7_covers_67 : decode cX7_covers 67 = .ok (.invokevirtual 172, 3) := by decide +kernel
theorem dX7_covers_70 : decode cX7_covers 70 = .ok (.istore 7, 2) := by decide +kernel
theorem dX7_covers_72 : decode cX7_covers 72 = .ok (.iload 7, 2) := by decide +kernel
theorem dX7_covers_74 : decode cX7_covers 74 = .ok (.iload 4, 2) := by decide +kernel
theorem dX7_covers_76 : decode cX7_covers 76 = .ok (.if_icmp .le 10, 3) := by decide +kernel
theorem dX7_covers_79 : decode cX7_covers 79 = .ok (.iload 7, 2) := by decide +kernel
theorem dX7_covers_81 : decode cX7_covers 81 = .ok (.istore 4, 2) := by decide +kernel
theorem dX7_covers_83 : decode cX7_covers 83 = .ok (.iload 5, 2) := by decide +kernel
theorem dX7_covers_85 : decode cX7_covers 85 = .ok (.istore_n 3, 1) := by decide +kernel
theorem dX7_covers_86 : decode cX7_covers 86 = .ok (.iinc 5 1, 3) := by decide +kernel
theorem dX7_covers_89 : decode cX7_covers 89 = .ok (.goto (-60), 3) := by decide +kernel
theorem dX7_covers_92 : decode cX7_covers 92 = .ok (.iload_n 2, 1) := by decide +kernel
theorem dX7_covers_93 : decode cX7_covers 93 = .ok (.ifCond .ne 7, 3) := by decide +kernel
theorem dX7_covers_96 : decode cX7_covers 96 = .ok (.iload_n 3, 1) := by decide +kernel
theorem dX7_covers_97 : decode cX7_covers 97 = .ok (.goto 5, 3) := by decide +kernel
theorem dX7_covers_100 : decode cX7_covers 100 = .ok (.iload 4, 2) := by decide +kernel
theorem dX7_covers_102 : decode cX7_covers 102 = .ok (.ireturn, 1) := by decide +kernel
theorem dX7_fewest_0 : decode cX7_fewest 0 = .ok (.iconst 0, 1) := by decide +kernel
theorem dX7_fewest_1 : decode cX7_fewest 1 = .ok (.istore_n 1, 1) := by decide +kernel
theorem dX7_fewest_2 : decode cX7_fewest 2 = .ok (.iconst (-1), 1) := by decide +kernel
theorem dX7_fewest_3 : decode cX7_fewest 3 = .ok (.istore_n 2, 1) := by decide +kernel
theorem dX7_fewest_4 : decode cX7_fewest 4 = .ok (.iconst 0, 1) := by decide +kernel
theorem dX7_fewest_5 : decode cX7_fewest 5 = .ok (.istore_n 3, 1) := by decide +kernel
theorem dX7_fewest_6 : decode cX7_fewest 6 = .ok (.iload_n 3, 1) := by decide +kernel
theorem dX7_fewest_7 : decode cX7_fewest 7 = .ok (.bipush 20, 2) := by decide +kernel
theorem dX7_fewest_9 : decode cX7_fewest 9 = .ok (.if_icmp .ge 56, 3) := by decide +kernel
theorem dX7_fewest_12 : decode cX7_fewest 12 = .ok (.aload_n 0, 1) := by decide +kernel
theorem dX7_fewest_13 : decode cX7_fewest 13 = .ok (.getfield 10, 3) := by decide +kernel
theorem dX7_fewest_16 : decode cX7_fewest 16 = .ok (.iload_n 3, 1) := by decide +kernel
theorem dX7_fewest_17 : decode cX7_fewest 17 = .ok (.invokevirtual 77, 3) := by decide +kernel
theorem dX7_fewest_20 : decode cX7_fewest 20 = .ok (.istore 4, 2) := by decide +kernel
theorem dX7_fewest_22 : decode cX7_fewest 22 = .ok (.iload_n 3, 1) := by decide +kernel
theorem dX7_fewest_23 : decode cX7_fewest 23 = .ok (.iload_n 2, 1) := by decide +kernel
theorem dX7_fewest_24 : decode cX7_fewest 24 = .ok (.if_icmp .le 35, 3) := by decide +kernel
theorem dX7_fewest_27 : decode cX7_fewest 27 = .ok (.iload 4, 2) := by decide +kernel
theorem dX7_fewest_29 : decode cX7_fewest 29 = .ok (.ldc 81, 2) := by decide +kernel
theorem dX7_fewest_31 : decode cX7_fewest 31 = .ok (.if_icmp .eq 28, 3) := by decide +kernel
theorem dX7_fewest_34 : decode cX7_fewest 34 = .ok (.aload_n 0, 1) := by decide +kernel
theorem dX7_fewest_35 : decode cX7_fewest 35 = .ok (.getfield 10, 3) := by decide +kernel
theorem dX7_fewest_38 : decode cX7_fewest 38 = .ok (.getfield 94, 3) := by decide +kernel
theorem dX7_fewest_41 : decode cX7_fewest 41 = .ok (.iload 4, 2) := by decide +kernel
theorem dX7_fewest_43 : decode cX7_fewest 43 = .ok (.iaload, 1) := by decide +kernel
theorem dX7_fewest_44 : decode cX7_fewest 44 = .ok (.invokestatic 175, 3) := by decide +kernel
theorem dX7_fewest_47 : decode cX7_fewest 47 = .ok (.ifCond .ne 12, 3) := by decide +kernel
theorem dX7_fewest_50 : decode cX7_fewest 50 = .ok (.iload_n 3, 1) := by decide +kernel
theorem dX7_fewest_51 : decode cX7_fewest 51 = .ok (.iconst 2, 1) := by decide +kernel
theorem dX7_fewest_52 : decode cX7_fewest 52 = .ok (.iadd, 1) := by decide +kernel
theorem dX7_fewest_53 : decode cX7_fewest 53 = .ok (.iconst 2, 1) := by decide +kernel
theorem dX7_fewest_54 : decode cX7_fewest 54 = .ok (.iadd, 1) := by decide +kernel
theorem dX7_fewest_55 : decode cX7_fewest 55 = .ok (.istore_n 2, 1) := by decide +kernel
theorem dX7_fewest_56 : decode cX7_fewest 56 = .ok (.iinc 1 1, 3) := by decide +kernel
theorem dX7_fewest_59 : decode cX7_fewest 59 = .ok (.iinc 3 1, 3) := by decide +kernel
theorem dX7_fewest_62 : decode cX7_fewest 62 = .ok (.goto (-56), 3) := by decide +kernel
theorem dX7_fewest_65 : decode cX7_fewest 65 = .ok (.iload_n 1, 1) := by decide +kernel
theorem dX7_fewest_66 : decode cX7_fewest 66 = .ok (.ireturn, 1) := by decide +kernel
theorem dX7_behind_0 : decode cX7_behind 0 = .ok (.iload_n 1, 1) := by decide +kernel
theorem dX7_behind_1 : decode cX7_behind 1 = .ok (.iconst 0, 1) := by decide +kernel
theorem dX7_behind_2 : decode cX7_behind 2 = .ok (.bipush 100, 2) := by decide +kernel
theorem dX7_behind_4 : decode cX7_behind 4 = .ok (.invokestatic 72, 3) := by decide +kernel
theorem dX7_behind_7 : decode cX7_behind 7 = .ok (.ifCond .eq 20, 3) := by decide +kernel
theorem dX7_behind_10 : decode cX7_behind 10 = .ok (.iload_n 2, 1) := by decide +kernel
theorem dX7_behind_11 : decode cX7_behind 11 = .ok (.iconst 0, 1) := by decide +kernel
theorem dX7_behind_12 : decode cX7_behind 12 = .ok (.iconst 3, 1) := by decide +kernel
theorem dX7_behind_13 : decode cX7_behind 13 = .ok (.aload_n 0, 1) := by decide +kernel
theorem dX7_behind_14 : decode cX7_behind 14 = .ok (.getfield 10, 3) := by decide +kernel
theorem dX7_behind_17 : decode cX7_behind 17 = .ok (.getfield 83, 3) := by decide +kernel
theorem dX7_behind_20 : decode cX7_behind 20 = .ok (.iadd, 1) := by decide +kernel
theorem dX7_behind_21 : decode cX7_behind 21 = .ok (.invokestatic 72, 3) := by decide +kernel
theorem dX7_behind_24 : decode cX7_behind 24 = .ok (.ifCond .ne 6, 3) := by decide +kernel
theorem dX7_behind_27 : decode cX7_behind 27 = .ok (.ldc 76, 2) := by decide +kernel
theorem dX7_behind_29 : decode cX7_behind 29 = .ok (.ireturn, 1) := by decide +kernel
theorem dX7_behind_30 : decode cX7_behind 30 = .ok (.aload_n 0, 1) := by decide +kernel
theorem dX7_behind_31 : decode cX7_behind 31 = .ok (.getfield 19, 3) := by decide +kernel
theorem dX7_behind_34 : decode cX7_behind 34 = .ok (.aload_n 0, 1) := by decide +kernel
theorem dX7_behind_35 : decode cX7_behind 35 = .ok (.getfield 10, 3) := by decide +kernel
theorem dX7_behind_38 : decode cX7_behind 38 = .ok (.invokevirtual 178, 3) := by decide +kernel
theorem dX7_behind_41 : decode cX7_behind 41 = .ok (.aload_n 0, 1) := by decide +kernel
theorem dX7_behind_42 : decode cX7_behind 42 = .ok (.iload_n 1, 1) := by decide +kernel
theorem dX7_behind_43 : decode cX7_behind 43 = .ok (.invokevirtual 182, 3) := by decide +kernel
theorem dX7_behind_46 : decode cX7_behind 46 = .ok (.istore_n 3, 1) := by decide +kernel
theorem dX7_behind_47 : decode cX7_behind 47 = .ok (.iload_n 2, 1) := by decide +kernel
theorem dX7_behind_48 : decode cX7_behind 48 = .ok (.iconst 2, 1) := by decide +kernel
theorem dX7_behind_49 : decode cX7_behind 49 = .ok (.if_icmp .gt 13, 3) := by decide +kernel
theorem dX7_behind_52 : decode cX7_behind 52 = .ok (.aload_n 0, 1) := by decide +kernel
theorem dX7_behind_53 : decode cX7_behind 53 = .ok (.getfield 19, 3) := by decide +kernel
theorem dX7_behind_56 : decode cX7_behind 56 = .ok (.getfield 156, 3) := by decide +kernel
theorem dX7_behind_59 : decode cX7_behind 59 = .ok (.iload_n 2, 1) := by decide +kernel
theorem dX7_behind_60 : decode cX7_behind 60 = .ok (.iaload, 1) := by decide +kernel
theorem dX7_behind_61 : decode cX7_behind 61 = .ok (.ireturn, 1) := by decide +kernel
theorem dX7_behind_62 : decode cX7_behind 62 = .ok (.iload_n 2, 1) := by decide +kernel
theorem dX7_behind_63 : decode cX7_behind 63 = .ok (.iconst 3, 1) := by decide +kernel
theorem dX7_behind_64 : decode cX7_behind 64 = .ok (.if_icmp .ne 7, 3) := by decide +kernel
theorem dX7_behind_67 : decode cX7_behind 67 = .ok (.iload_n 3, 1) := by decide +kernel
theorem dX7_behind_68 : decode cX7_behind 68 = .ok (.goto 14, 3) := by decide +kernel
theorem dX7_behind_71 : decode cX7_behind 71 = .ok (.aload_n 0, 1) := by decide +kernel
theorem dX7_behind_72 : decode cX7_behind 72 = .ok (.getfield 19, 3) := by decide +kernel
theorem dX7_behind_75 : decode cX7_behind 75 = .ok (.getfield 103, 3) := by decide +kernel
theorem dX7_behind_78 : decode cX7_behind 78 = .ok (.iload_n 2, 1) := by decide +kernel
theorem dX7_behind_79 : decode cX7_behind 79 = .ok (.iconst 4, 1) := by decide +kernel
theorem dX7_behind_80 : decode cX7_behind 80 = .ok (.isub, 1) := by decide +kernel
theorem dX7_behind_81 : decode cX7_behind 81 = .ok (.iaload, 1) := by decide +kernel
theorem dX7_behind_82 : decode cX7_behind 82 = .ok (.ireturn, 1) := by decide +kernel
theorem dX7_bluff_0 : decode cX7_bluff 0 = .ok (.aload_n 0, 1) := by decide +kernel
theorem dX7_bluff_1 : decode cX7_bluff 1 = .ok (.getfield 19, 3) := by decide +kernel
theorem dX7_bluff_4 : decode cX7_bluff 4 = .ok (.aload_n 0, 1) := by decide +kernel
theorem dX7_bluff_5 : decode cX7_bluff 5 = .ok (.getfield 10, 3) := by decide +kernel
theorem dX7_bluff_8 : decode cX7_bluff 8 = .ok (.invokevirtual 178, 3) := by decide +kernel
theorem dX7_bluff_11 : decode cX7_bluff 11 = .ok (.aload_n 0, 1) := by decide +kernel
theorem dX7_bluff_12 : decode cX7_bluff 12 = .ok (.sipush 200, 3) := by decide +kernel
theorem dX7_bluff_15 : decode cX7_bluff 15 = .ok (.invokevirtual 185, 3) := by decide +kernel
theorem dX7_bluff_18 : decode cX7_bluff 18 = .ok (.istore_n 1, 1) := by decide +kernel
theorem dX7_bluff_19 : decode cX7_bluff 19 = .ok (.iload_n 1, 1) := by decide +kernel
theorem dX7_bluff_20 : decode cX7_bluff 20 = .ok (.ifCond .ne 8, 3) := by decide +kernel
theorem dX7_bluff_23 : decode cX7_bluff 23 = .ok (.ldc 81, 2) := by decide +kernel
theorem dX7_bluff_25 : decode cX7_bluff 25 = .ok (.goto 4, 3) := by decide +kernel
theorem dX7_bluff_28 : decode cX7_bluff 28 = .ok (.iload_n 1, 1) := by decide +kernel
theorem dX7_bluff_29 : decode cX7_bluff 29 = .ok (.ireturn, 1) := by decide +kernel
theorem dX7_washed_0 : decode cX7_washed 0 = .ok (.iload_n 1, 1) := by decide +kernel
theorem dX7_washed_1 : decode cX7_washed 1 = .ok (.iconst 1, 1) := by decide +kernel
theorem dX7_washed_2 : decode cX7_washed 2 = .ok (.bipush 60, 2) := by decide +kernel
theorem dX7_washed_4 : decode cX7_washed 4 = .ok (.invokestatic 72, 3) := by decide +kernel
theorem dX7_washed_7 : decode cX7_washed 7 = .ok (.ifCond .eq 12, 3) := by decide +kernel
theorem dX7_washed_10 : decode cX7_washed 10 = .ok (.iload_n 2, 1) := by decide +kernel
theorem dX7_washed_11 : decode cX7_washed 11 = .ok (.iconst 0, 1) := by decide +kernel
theorem dX7_washed_12 : decode cX7_washed 12 = .ok (.iconst 1, 1) := by decide +kernel
theorem dX7_washed_13 : decode cX7_washed 13 = .ok (.invokestatic 72, 3) := by decide +kernel
theorem dX7_washed_16 : decode cX7_washed 16 = .ok (.ifCond .ne 6, 3) := by decide +kernel
theorem dX7_washed_19 : decode cX7_washed 19 = .ok (.ldc 76, 2) := by decide +kernel
theorem dX7_washed_21 : decode cX7_washed 21 = .ok (.ireturn, 1) := by decide +kernel
theorem dX7_washed_22 : decode cX7_washed 22 = .ok (.ldc 81, 2) := by decide +kernel
theorem dX7_washed_24 : decode cX7_washed 24 = .ok (.istore_n 3, 1) := by decide +kernel
theorem dX7_washed_25 : decode cX7_washed 25 = .ok (.ldc 81, 2) := by decide +kernel
theorem dX7_washed_27 : decode cX7_washed 27 = .ok (.istore 4, 2) := by decide +kernel
theorem dX7_washed_29 : decode cX7_washed 29 = .ok (.iconst 0, 1) := by decide +kernel
theorem dX7_washed_30 : decode cX7_washed 30 = .ok (.istore 5, 2) := by decide +kernel
theorem dX7_washed_32 : decode cX7_washed 32 = .ok (.iload 5, 2) := by decide +kernel
theorem dX7_washed_34 : decode cX7_washed 34 = .ok (.aload_n 0, 1) := by decide +kernel
theorem dX7_washed_35 : decode cX7_washed 35 = .ok (.getfield 10, 3) := by decide +kernel
theorem dX7_washed_38 : decode cX7_washed 38 = .ok (.getfield 83, 3) := by decide +kernel
theorem dX7_washed_41 : decode cX7_washed 41 = .ok (.if_icmp .ge 52, 3) := by decide +kernel
theorem dX7_washed_44 : decode cX7_washed 44 = .ok (.aload_n 0, 1) := by decide +kernel
theorem dX7_washed_45 : decode cX7_washed 45 = .ok (.getfield 19, 3) := by decide +kernel
theorem dX7_washed_48 : decode cX7_washed 48 = .ok (.aload_n 0, 1) := by decide +kernel
theorem dX7_washed_49 : decode cX7_washed 49 = .ok (.getfield 10, 3) := by decide +kernel
theorem dX7_washed_52 : decode cX7_washed 52 = .ok (.invokevirtual 178, 3) := by decide +kernel
theorem dX7_washed_55 : decode cX7_washed 55 = .ok (.aload_n 0, 1) := by decide +kernel
theorem dX7_washed_56 : decode cX7_washed 56 = .ok (.getfield 19, 3) := by decide +kernel
theorem dX7_washed_59 : decode cX7_washed 59 = .ok (.getfield 97, 3) := by decide +kernel
theorem dX7_washed_62 : decode cX7_washed 62 = .ok (.iload 5, 2) := by decide +kernel
theorem dX7_washed_64 : decode cX7_washed 64 = .ok (.iconst 0, 1) := by decide +kernel
theorem dX7_washed_65 : decode cX7_washed 65 = .ok (.iastore, 1) := by decide +kernel
theorem dX7_washed_66 : decode cX7_washed 66 = .ok (.aload_n 0, 1) := by decide +kernel
theorem dX7_washed_67 : decode cX7_washed 67 = .ok (.iload_n 1, 1) := by decide +kernel
theorem dX7_washed_68 : decode cX7_washed 68 = .ok (.invokevirtual 182, 3) := by decide +kernel
theorem dX7_washed_71 : decode cX7_washed 71 = .ok (.istore 6, 2) := by decide +kernel
theorem dX7_washed_73 : decode cX7_washed 73 = .ok (.iload 6, 2) := by decide +kernel
theorem dX7_washed_75 : decode cX7_washed 75 = .ok (.iload 4, 2) := by decide +kernel
theorem dX7_washed_77 : decode cX7_washed 77 = .ok (.if_icmp .le 10, 3) := by decide +kernel
theorem dX7_washed_80 : decode cX7_washed 80 = .ok (.iload 6, 2) := by decide +kernel
theorem dX7_washed_82 : decode cX7_washed 82 = .ok (.istore 4, 2) := by decide +kernel
theorem dX7_washed_84 : decode cX7_washed 84 = .ok (.iload 5, 2) := by decide +kernel
theorem dX7_washed_86 : decode cX7_washed 86 = .ok (.istore_n 3, 1) := by decide +kernel
theorem dX7_washed_87 : decode cX7_washed 87 = .ok (.iinc 5 1, 3) := by decide +kernel
theorem dX7_washed_90 : decode cX7_washed 90 = .ok (.goto (-58), 3) := by decide +kernel
theorem dX7_washed_93 : decode cX7_washed 93 = .ok (.iload_n 2, 1) := by decide +kernel
theorem dX7_washed_94 : decode cX7_washed 94 = .ok (.ifCond .ne 7, 3) := by decide +kernel
theorem dX7_washed_97 : decode cX7_washed 97 = .ok (.iload_n 3, 1) := by decide +kernel
theorem dX7_washed_98 : decode cX7_washed 98 = .ok (.goto 5, 3) := by decide +kernel
theorem dX7_washed_101 : decode cX7_washed 101 = .ok (.iload 4, 2) := by decide +kernel
theorem dX7_washed_103 : decode cX7_washed 103 = .ok (.ireturn, 1) := by decide +kernel
theorem dX7_needed_0 : decode cX7_needed 0 = .ok (.iload_n 1, 1) := by decide +kernel
theorem dX7_needed_1 : decode cX7_needed 1 = .ok (.iconst 1, 1) := by decide +kernel
theorem dX7_needed_2 : decode cX7_needed 2 = .ok (.bipush 60, 2) := by decide +kernel
theorem dX7_needed_4 : decode cX7_needed 4 = .ok (.invokestatic 72, 3) := by decide +kernel
theorem dX7_needed_7 : decode cX7_needed 7 = .ok (.ifCond .ne 6, 3) := by decide +kernel
theorem dX7_needed_10 : decode cX7_needed 10 = .ok (.ldc 76, 2) := by decide +kernel
theorem dX7_needed_12 : decode cX7_needed 12 = .ok (.ireturn, 1) := by decide +kernel
theorem dX7_needed_13 : decode cX7_needed 13 = .ok (.iconst 0, 1) := by decide +kernel
theorem dX7_needed_14 : decode cX7_needed 14 = .ok (.istore_n 2, 1) := by decide +kernel
theorem dX7_needed_15 : decode cX7_needed 15 = .ok (.iload_n 2, 1) := by decide +kernel
theorem dX7_needed_16 : decode cX7_needed 16 = .ok (.getstatic 129, 3) := by decide +kernel
theorem dX7_needed_19 : decode cX7_needed 19 = .ok (.iconst 0, 1) := by decide +kernel
theorem dX7_needed_20 : decode cX7_needed 20 = .ok (.iaload, 1) := by decide +kernel
theorem dX7_needed_21 : decode cX7_needed 21 = .ok (.if_icmp .gt 40, 3) := by decide +kernel
theorem dX7_needed_24 : decode cX7_needed 24 = .ok (.aload_n 0, 1) := by decide +kernel
theorem dX7_needed_25 : decode cX7_needed 25 = .ok (.getfield 19, 3) := by decide +kernel
theorem dX7_needed_28 : decode cX7_needed 28 = .ok (.aload_n 0, 1) := by decide +kernel
theorem dX7_needed_29 : decode cX7_needed 29 = .ok (.getfield 10, 3) := by decide +kernel
theorem dX7_needed_32 : decode cX7_needed 32 = .ok (.invokevirtual 178, 3) := by decide +kernel
theorem dX7_needed_35 : decode cX7_needed 35 = .ok (.aload_n 0, 1) := by decide +kernel
theorem dX7_needed_36 : decode cX7_needed 36 = .ok (.getfield 19, 3) := by decide +kernel
theorem dX7_needed_39 : decode cX7_needed 39 = .ok (.getfield 132, 3) := by decide +kernel
theorem dX7_needed_42 : decode cX7_needed 42 = .ok (.iconst 0, 1) := by decide +kernel
theorem dX7_needed_43 : decode cX7_needed 43 = .ok (.iload_n 2, 1) := by decide +kernel
theorem dX7_needed_44 : decode cX7_needed 44 = .ok (.iastore, 1) := by decide +kernel
theorem dX7_needed_45 : decode cX7_needed 45 = .ok (.aload_n 0, 1) := by decide +kernel
theorem dX7_needed_46 : decode cX7_needed 46 = .ok (.iload_n 1, 1) := by decide +kernel
theorem dX7_needed_47 : decode cX7_needed 47 = .ok (.invokevirtual 185, 3) := by decide +kernel
theorem dX7_needed_50 : decode cX7_needed 50 = .ok (.ifCond .ne 5, 3) := by decide +kernel
theorem dX7_needed_53 : decode cX7_needed 53 = .ok (.iload_n 2, 1) := by decide +kernel
theorem dX7_needed_54 : decode cX7_needed 54 = .ok (.ireturn, 1) := by decide +kernel
theorem dX7_needed_55 : decode cX7_needed 55 = .ok (.iinc 2 1, 3) := by decide +kernel
theorem dX7_needed_58 : decode cX7_needed 58 = .ok (.goto (-43), 3) := by decide +kernel
theorem dX7_needed_61 : decode cX7_needed 61 = .ok (.ldc 81, 2) := by decide +kernel
theorem dX7_needed_63 : decode cX7_needed 63 = .ok (.ireturn, 1) := by decide +kernel
theorem dX7_becomes_0 : decode cX7_becomes 0 = .ok (.aload_n 0, 1) := by decide +kernel
theorem dX7_becomes_1 : decode cX7_becomes 1 = .ok (.iload_n 1, 1) := by decide +kernel
theorem dX7_becomes_2 : decode cX7_becomes 2 = .ok (.invokevirtual 91, 3) := by decide +kernel
theorem dX7_becomes_5 : decode cX7_becomes 5 = .ok (.ifCond .eq 22, 3) := by decide +kernel
theorem dX7_becomes_8 : decode cX7_becomes 8 = .ok (.iload_n 2, 1) := by decide +kernel
theorem dX7_becomes_9 : decode cX7_becomes 9 = .ok (.iconst 1, 1) := by decide +kernel
theorem dX7_becomes_10 : decode cX7_becomes 10 = .ok (.bipush 60, 2) := by decide +kernel
theorem dX7_becomes_12 : decode cX7_becomes 12 = .ok (.invokestatic 72, 3) := by decide +kernel
theorem dX7_becomes_15 : decode cX7_becomes 15 = .ok (.ifCond .eq 12, 3) := by decide +kernel
theorem dX7_becomes_18 : decode cX7_becomes 18 = .ok (.iload_n 3, 1) := by decide +kernel
theorem dX7_becomes_19 : decode cX7_becomes 19 = .ok (.iconst 0, 1) := by decide +kernel
theorem dX7_becomes_20 : decode cX7_becomes 20 = .ok (.iconst 1, 1) := by decide +kernel
theorem dX7_becomes_21 : decode cX7_becomes 21 = .ok (.invokestatic 72, 3) := by decide +kernel
theorem dX7_becomes_24 : decode cX7_becomes 24 = .ok (.ifCond .ne 6, 3) := by decide +kernel
theorem dX7_becomes_27 : decode cX7_becomes 27 = .ok (.ldc 76, 2) := by decide +kernel
theorem dX7_becomes_29 : decode cX7_becomes 29 = .ok (.ireturn, 1) := by decide +kernel
theorem dX7_becomes_30 : decode cX7_becomes 30 = .ok (.ldc 81, 2) := by decide +kernel
theorem dX7_becomes_32 : decode cX7_becomes 32 = .ok (.istore 4, 2) := by decide +kernel
theorem dX7_becomes_34 : decode cX7_becomes 34 = .ok (.ldc 81, 2) := by decide +kernel
theorem dX7_becomes_36 : decode cX7_becomes 36 = .ok (.istore 5, 2) := by decide +kernel
theorem dX7_becomes_38 : decode cX7_becomes 38 = .ok (.iconst 0, 1) := by decide +kernel
theorem dX7_becomes_39 : decode cX7_becomes 39 = .ok (.istore 6, 2) := by decide +kernel
theorem dX7_becomes_41 : decode cX7_becomes 41 = .ok (.iload 6, 2) := by decide +kernel
theorem dX7_becomes_43 : decode cX7_becomes 43 = .ok (.bipush 6, 2) := by decide +kernel
theorem dX7_becomes_45 : decode cX7_becomes 45 = .ok (.if_icmp .ge 53, 3) := by decide +kernel
theorem dX7_becomes_48 : decode cX7_becomes 48 = .ok (.aload_n 0, 1) := by decide +kernel
theorem dX7_becomes_49 : decode cX7_becomes 49 = .ok (.getfield 19, 3) := by decide +kernel
theorem dX7_becomes_52 : decode cX7_becomes 52 = .ok (.aload_n 0, 1) := by decide +kernel
theorem dX7_becomes_53 : decode cX7_becomes 53 = .ok (.getfield 10, 3) := by decide +kernel
theorem dX7_becomes_56 : decode cX7_becomes 56 = .ok (.invokevirtual 178, 3) := by decide +kernel
theorem dX7_becomes_59 : decode cX7_becomes 59 = .ok (.aload_n 0, 1) := by decide +kernel
theorem dX7_becomes_60 : decode cX7_becomes 60 = .ok (.getfield 19, 3) := by decide +kernel
theorem dX7_becomes_63 : decode cX7_becomes 63 = .ok (.getfield 94, 3) := by decide +kernel
theorem dX7_becomes_66 : decode cX7_becomes 66 = .ok (.iload_n 1, 1) := by decide +kernel
theorem dX7_becomes_67 : decode cX7_becomes 67 = .ok (.iload 6, 2) := by decide +kernel
theorem dX7_becomes_69 : decode cX7_becomes 69 = .ok (.iastore, 1) := by decide +kernel
theorem dX7_becomes_70 : decode cX7_becomes 70 = .ok (.aload_n 0, 1) := by decide +kernel
theorem dX7_becomes_71 : decode cX7_becomes 71 = .ok (.iload_n 2, 1) := by decide +kernel
theorem dX7_becomes_72 : decode cX7_becomes 72 = .ok (.invokevirtual 182, 3) := by decide +kernel
theorem dX7_becomes_75 : decode cX7_becomes 75 = .ok (.istore 7, 2) := by decide +kernel
theorem dX7_becomes_77 : decode cX7_becomes 77 = .ok (.iload 7, 2) := by decide +kernel
theorem dX7_becomes_79 : decode cX7_becomes 79 = .ok (.iload 5, 2) := by decide +kernel
theorem dX7_becomes_81 : decode cX7_becomes 81 = .ok (.if_icmp .le 11, 3) := by decide +kernel
theorem dX7_becomes_84 : decode cX7_becomes 84 = .ok (.iload 7, 2) := by decide +kernel
theorem dX7_becomes_86 : decode cX7_becomes 86 = .ok (.istore 5, 2) := by decide +kernel
theorem dX7_becomes_88 : decode cX7_becomes 88 = .ok (.iload 6, 2) := by decide +kernel
theorem dX7_becomes_90 : decode cX7_becomes 90 = .ok (.istore 4, 2) := by decide +kernel
theorem dX7_becomes_92 : decode cX7_becomes 92 = .ok (.iinc 6 1, 3) := by decide +kernel
theorem dX7_becomes_95 : decode cX7_becomes 95 = .ok (.goto (-54), 3) := by decide +kernel
theorem dX7_becomes_98 : decode cX7_becomes 98 = .ok (.iload_n 3, 1) := by decide +kernel
theorem dX7_becomes_99 : decode cX7_becomes 99 = .ok (.ifCond .ne 8, 3) := by decide +kernel
theorem dX7_becomes_102 : decode cX7_becomes 102 = .ok (.iload 4, 2) := by decide +kernel
theorem dX7_becomes_104 : decode cX7_becomes 104 = .ok (.goto 5, 3) := by decide +kernel
theorem dX7_becomes_107 : decode cX7_becomes 107 = .ok (.iload 5, 2) := by decide +kernel
theorem dX7_becomes_109 : decode cX7_becomes 109 = .ok (.ireturn, 1) := by decide +kernel
theorem dX7_like_0 : decode cX7_like 0 = .ok (.iload_n 1, 1) := by decide +kernel
theorem dX7_like_1 : decode cX7_like 1 = .ok (.invokestatic 188, 3) := by decide +kernel
theorem dX7_like_4 : decode cX7_like 4 = .ok (.ifCond .eq 12, 3) := by decide +kernel
theorem dX7_like_7 : decode cX7_like 7 = .ok (.iload_n 2, 1) := by decide +kernel
theorem dX7_like_8 : decode cX7_like 8 = .ok (.iconst 0, 1) := by decide +kernel
theorem dX7_like_9 : decode cX7_like 9 = .ok (.iconst 1, 1) := by decide +kernel
theorem dX7_like_10 : decode cX7_like 10 = .ok (.invokestatic 72, 3) := by decide +kernel
theorem dX7_like_13 : decode cX7_like 13 = .ok (.ifCond .ne 6, 3) := by decide +kernel
theorem dX7_like_16 : decode cX7_like 16 = .ok (.ldc 76, 2) := by decide +kernel
theorem dX7_like_18 : decode cX7_like 18 = .ok (.ireturn, 1) := by decide +kernel
theorem dX7_like_19 : decode cX7_like 19 = .ok (.aload_n 0, 1) := by decide +kernel
theorem dX7_like_20 : decode cX7_like 20 = .ok (.getfield 43, 3) := by decide +kernel
theorem dX7_like_23 : decode cX7_like 23 = .ok (.iload_n 1, 1) := by decide +kernel
theorem dX7_like_24 : decode cX7_like 24 = .ok (.aaload, 1) := by decide +kernel
theorem dX7_like_25 : decode cX7_like 25 = .ok (.getfield 191, 3) := by decide +kernel
theorem dX7_like_28 : decode cX7_like 28 = .ok (.iconst (-1), 1) := by decide +kernel
theorem dX7_like_29 : decode cX7_like 29 = .ok (.if_icmp .ne 6, 3) := by decide +kernel
theorem dX7_like_32 : decode cX7_like 32 = .ok (.ldc 194, 2) := by decide +kernel
theorem dX7_like_34 : decode cX7_like 34 = .ok (.ireturn, 1) := by decide +kernel
theorem dX7_like_35 : decode cX7_like 35 = .ok (.aload_n 0, 1) := by decide +kernel
theorem dX7_like_36 : decode cX7_like 36 = .ok (.getfield 10, 3) := by decide +kernel
theorem dX7_like_39 : decode cX7_like 39 = .ok (.getfield 83, 3) := by decide +kernel
theorem dX7_like_42 : decode cX7_like 42 = .ok (.ifCond .ne 6, 3) := by decide +kernel
theorem dX7_like_45 : decode cX7_like 45 = .ok (.ldc 81, 2) := by decide +kernel
theorem dX7_like_47 : decode cX7_like 47 = .ok (.ireturn, 1) := by decide +kernel
theorem dX7_like_48 : decode cX7_like 48 = .ok (.aload_n 0, 1) := by decide +kernel
theorem dX7_like_49 : decode cX7_like 49 = .ok (.aload_n 0, 1) := by decide +kernel
theorem dX7_like_50 : decode cX7_like 50 = .ok (.getfield 43, 3) := by decide +kernel
theorem dX7_like_53 : decode cX7_like 53 = .ok (.iload_n 1, 1) := by decide +kernel
theorem dX7_like_54 : decode cX7_like 54 = .ok (.aaload, 1) := by decide +kernel
theorem dX7_like_55 : decode cX7_like 55 = .ok (.invokevirtual 195, 3) := by decide +kernel
theorem dX7_like_58 : decode cX7_like 58 = .ok (.iconst 0, 1) := by decide +kernel
theorem dX7_like_59 : decode cX7_like 59 = .ok (.istore_n 3, 1) := by decide +kernel
theorem dX7_like_60 : decode cX7_like 60 = .ok (.iconst 1, 1) := by decide +kernel
theorem dX7_like_61 : decode cX7_like 61 = .ok (.istore 4, 2) := by decide +kernel
theorem dX7_like_63 : decode cX7_like 63 = .ok (.iload 4, 2) := by decide +kernel
theorem dX7_like_65 : decode cX7_like 65 = .ok (.aload_n 0, 1) := by decide +kernel
theorem dX7_like_66 : decode cX7_like 66 = .ok (.getfield 10, 3) := by decide +kernel
theorem dX7_like_69 : decode cX7_like 69 = .ok (.getfield 83, 3) := by decide +kernel
theorem dX7_like_72 : decode cX7_like 72 = .ok (.if_icmp .ge 28, 3) := by decide +kernel
theorem dX7_like_75 : decode cX7_like 75 = .ok (.aload_n 0, 1) := by decide +kernel
theorem dX7_like_76 : decode cX7_like 76 = .ok (.getfield 60, 3) := by decide +kernel
theorem dX7_like_79 : decode cX7_like 79 = .ok (.iload 4, 2) := by decide +kernel
theorem dX7_like_81 : decode cX7_like 81 = .ok (.iaload, 1) := by decide +kernel
theorem dX7_like_82 : decode cX7_like 82 = .ok (.aload_n 0, 1) := by decide +kernel
theorem dX7_like_83 : decode cX7_like 83 = .ok (.getfield 60, 3) := by decide +kernel
theorem dX7_like_86 : decode cX7_like 86 = .ok (.iload_n 3, 1) := by decide +kernel
theorem dX7_like_87 : decode cX7_like 87 = .ok (.iaload, 1) := by decide +kernel
theorem dX7_like_88 : decode cX7_like 88 = .ok (.if_icmp .ge 6, 3) := by decide +kernel
theorem dX7_like_91 : decode cX7_like 91 = .ok (.iload 4, 2) := by decide +kernel
theorem dX7_like_93 : decode cX7_like 93 = .ok (.istore_n 3, 1) := by decide +kernel
theorem dX7_like_94 : decode cX7_like 94 = .ok (.iinc 4 1, 3) := by decide +kernel
theorem dX7_like_97 : decode cX7_like 97 = .ok (.goto (-34), 3) := by decide +kernel
theorem dX7_like_100 : decode cX7_like 100 = .ok (.iload_n 2, 1) := by decide +kernel
theorem dX7_like_101 : decode cX7_like 101 = .ok (.ifCond .ne 7, 3) := by decide +kernel
theorem dX7_like_104 : decode cX7_like 104 = .ok (.iload_n 3, 1) := by decide +kernel
theorem dX7_like_105 : decode cX7_like 105 = .ok (.goto 9, 3) := by decide +kernel
theorem dX7_like_108 : decode cX7_like 108 = .ok (.aload_n 0, 1) := by decide +kernel
theorem dX7_like_109 : decode cX7_like 109 = .ok (.getfield 60, 3) := by decide +kernel
theorem dX7_like_112 : decode cX7_like 112 = .ok (.iload_n 3, 1) := by decide +kernel
theorem dX7_like_113 : decode cX7_like 113 = .ok (.iaload, 1) := by decide +kernel
theorem dX7_like_114 : decode cX7_like 114 = .ok (.ireturn, 1) := by decide +kernel
theorem dX7_fee_0 : decode cX7_fee 0 = .ok (.aload_n 0, 1) := by decide +kernel
theorem dX7_fee_1 : decode cX7_fee 1 = .ok (.getfield 10, 3) := by decide +kernel
theorem dX7_fee_4 : decode cX7_fee 4 = .ok (.getfield 199, 3) := by decide +kernel
theorem dX7_fee_7 : decode cX7_fee 7 = .ok (.iconst 1, 1) := by decide +kernel
theorem dX7_fee_8 : decode cX7_fee 8 = .ok (.invokevirtual 203, 3) := by decide +kernel
theorem dX7_fee_11 : decode cX7_fee 11 = .ok (.astore_n 1, 1) := by decide +kernel
theorem dX7_fee_12 : decode cX7_fee 12 = .ok (.aload_n 1, 1) := by decide +kernel
theorem dX7_fee_13 : decode cX7_fee 13 = .ok (.ifnonnull 15, 3) := by decide +kernel
theorem dX7_fee_16 : decode cX7_fee 16 = .ok (.aload_n 0, 1) := by decide +kernel
theorem dX7_fee_17 : decode cX7_fee 17 = .ok (.getfield 10, 3) := by decide +kernel
theorem dX7_fee_20 : decode cX7_fee 20 = .ok (.getfield 156, 3) := by decide +kernel
theorem dX7_fee_23 : decode cX7_fee 23 = .ok (.iconst 1, 1) := by decide +kernel
theorem dX7_fee_24 : decode cX7_fee 24 = .ok (.iaload, 1) := by decide +kernel
theorem dX7_fee_25 : decode cX7_fee 25 = .ok (.goto 26, 3) := by decide +kernel
theorem dX7_fee_28 : decode cX7_fee 28 = .ok (.aload_n 1, 1) := by decide +kernel
theorem dX7_fee_29 : decode cX7_fee 29 = .ok (.aload_n 0, 1) := by decide +kernel
theorem dX7_fee_30 : decode cX7_fee 30 = .ok (.getfield 10, 3) := by decide +kernel
theorem dX7_fee_33 : decode cX7_fee 33 = .ok (.getfield 156, 3) := by decide +kernel
theorem dX7_fee_36 : decode cX7_fee 36 = .ok (.iconst 1, 1) := by decide +kernel
theorem dX7_fee_37 : decode cX7_fee 37 = .ok (.iaload, 1) := by decide +kernel
theorem dX7_fee_38 : decode cX7_fee 38 = .ok (.aload_n 0, 1) := by decide +kernel
theorem dX7_fee_39 : decode cX7_fee 39 = .ok (.getfield 10, 3) := by decide +kernel
theorem dX7_fee_42 : decode cX7_fee 42 = .ok (.getfield 156, 3) := by decide +kernel
theorem dX7_fee_45 : decode cX7_fee 45 = .ok (.iconst 2, 1) := by decide +kernel
theorem dX7_fee_46 : decode cX7_fee 46 = .ok (.iaload, 1) := by decide +kernel
theorem dX7_fee_47 : decode cX7_fee 47 = .ok (.iconst 0, 1) := by decide +kernel
theorem dX7_fee_48 : decode cX7_fee 48 = .ok (.invokevirtual 209, 3) := by decide +kernel
theorem dX7_fee_51 : decode cX7_fee 51 = .ok (.ireturn, 1) := by decide +kernel
theorem dX7_fine_0 : decode cX7_fine 0 = .ok (.aload_n 0, 1) := by decide +kernel
theorem dX7_fine_1 : decode cX7_fine 1 = .ok (.iload_n 1, 1) := by decide +kernel
theorem dX7_fine_2 : decode cX7_fine 2 = .ok (.invokevirtual 91, 3) := by decide +kernel
theorem dX7_fine_5 : decode cX7_fine 5 = .ok (.ifCond .ne 6, 3) := by decide +kernel
theorem dX7_fine_8 : decode cX7_fine 8 = .ok (.ldc 76, 2) := by decide +kernel
theorem dX7_fine_10 : decode cX7_fine 10 = .ok (.ireturn, 1) := by decide +kernel
theorem dX7_fine_11 : decode cX7_fine 11 = .ok (.aload_n 0, 1) := by decide +kernel
theorem dX7_fine_12 : decode cX7_fine 12 = .ok (.getfield 10, 3) := by decide +kernel
theorem dX7_fine_15 : decode cX7_fine 15 = .ok (.getfield 199, 3) := by decide +kernel
theorem dX7_fine_18 : decode cX7_fine 18 = .ok (.iconst 2, 1) := by decide +kernel
theorem dX7_fine_19 : decode cX7_fine 19 = .ok (.invokevirtual 203, 3) := by decide +kernel
theorem dX7_fine_22 : decode cX7_fine 22 = .ok (.astore_n 2, 1) := by decide +kernel
theorem dX7_fine_23 : decode cX7_fine 23 = .ok (.aload_n 2, 1) := by decide +kernel
theorem dX7_fine_24 : decode cX7_fine 24 = .ok (.ifnonnull 15, 3) := by decide +kernel
theorem dX7_fine_27 : decode cX7_fine 27 = .ok (.aload_n 0, 1) := by decide +kernel
theorem dX7_fine_28 : decode cX7_fine 28 = .ok (.getfield 10, 3) := by decide +kernel
theorem dX7_fine_31 : decode cX7_fine 31 = .ok (.getfield 103, 3) := by decide +kernel
theorem dX7_fine_34 : decode cX7_fine 34 = .ok (.iload_n 1, 1) := by decide +kernel
theorem dX7_fine_35 : decode cX7_fine 35 = .ok (.iaload, 1) := by decide +kernel
theorem dX7_fine_36 : decode cX7_fine 36 = .ok (.goto 26, 3) := by decide +kernel
theorem dX7_fine_39 : decode cX7_fine 39 = .ok (.aload_n 2, 1) := by decide +kernel
theorem dX7_fine_40 : decode cX7_fine 40 = .ok (.aload_n 0, 1) := by decide +kernel
theorem dX7_fine_41 : decode cX7_fine 41 = .ok (.getfield 10, 3) := by decide +kernel
theorem dX7_fine_44 : decode cX7_fine 44 = .ok (.getfield 97, 3) := by decide +kernel
theorem dX7_fine_47 : decode cX7_fine 47 = .ok (.iload_n 1, 1) := by decide +kernel
theorem dX7_fine_48 : decode cX7_fine 48 = .ok (.iaload, 1) := by decide +kernel
theorem dX7_fine_49 : decode cX7_fine 49 = .ok (.aload_n 0, 1) := by decide +kernel
theorem dX7_fine_50 : decode cX7_fine 50 = .ok (.getfield 10, 3) := by decide +kernel
theorem dX7_fine_53 : decode cX7_fine 53 = .ok (.getfield 103, 3) := by decide +kernel
theorem dX7_fine_56 : decode cX7_fine 56 = .ok (.iload_n 1, 1) := by decide +kernel
theorem dX7_fine_57 : decode cX7_fine 57 = .ok (.iaload, 1) := by decide +kernel
theorem dX7_fine_58 : decode cX7_fine 58 = .ok (.iconst 0, 1) := by decide +kernel
theorem dX7_fine_59 : decode cX7_fine 59 = .ok (.invokevirtual 209, 3) := by decide +kernel
theorem dX7_fine_62 : decode cX7_fine 62 = .ok (.ireturn, 1) := by decide +kernel
theorem dX7_feed_0 : decode cX7_feed 0 = .ok (.aload_n 0, 1) := by decide +kernel
theorem dX7_feed_1 : decode cX7_feed 1 = .ok (.getfield 37, 3) := by decide +kernel
theorem dX7_feed_4 : decode cX7_feed 4 = .ok (.bipush 12, 2) := by decide +kernel
theorem dX7_feed_6 : decode cX7_feed 6 = .ok (.iadd, 1) := by decide +kernel
theorem dX7_feed_7 : decode cX7_feed 7 = .ok (.bipush 96, 2) := by decide +kernel
theorem dX7_feed_9 : decode cX7_feed 9 = .ok (.if_icmp .le 6, 3) := by decide +kernel
theorem dX7_feed_12 : decode cX7_feed 12 = .ok (.ldc 86, 2) := by decide +kernel
theorem dX7_feed_14 : decode cX7_feed 14 = .ok (.ireturn, 1) := by decide +kernel
theorem dX7_feed_15 : decode cX7_feed 15 = .ok (.aload_n 0, 1) := by decide +kernel
theorem dX7_feed_16 : decode cX7_feed 16 = .ok (.iload_n 1, 1) := by decide +kernel
theorem dX7_feed_17 : decode cX7_feed 17 = .ok (.invokevirtual 214, 3) := by decide +kernel
theorem dX7_feed_20 : decode cX7_feed 20 = .ok (.aload_n 0, 1) := by decide +kernel
theorem dX7_feed_21 : decode cX7_feed 21 = .ok (.iload_n 2, 1) := by decide +kernel
theorem dX7_feed_22 : decode cX7_feed 22 = .ok (.invokevirtual 214, 3) := by decide +kernel
theorem dX7_feed_25 : decode cX7_feed 25 = .ok (.aload_n 0, 1) := by decide +kernel
theorem dX7_feed_26 : decode cX7_feed 26 = .ok (.iload_n 3, 1) := by decide +kernel
theorem dX7_feed_27 : decode cX7_feed 27 = .ok (.invokevirtual 214, 3) := by decide +kernel
theorem dX7_feed_30 : decode cX7_feed 30 = .ok (.aload_n 0, 1) := by decide +kernel
theorem dX7_feed_31 : decode cX7_feed 31 = .ok (.getfield 37, 3) := by decide +kernel
theorem dX7_feed_34 : decode cX7_feed 34 = .ok (.ireturn, 1) := by decide +kernel
theorem dX7_trim_0 : decode cX7_trim 0 = .ok (.iload_n 1, 1) := by decide +kernel
theorem dX7_trim_1 : decode cX7_trim 1 = .ok (.iconst 0, 1) := by decide +kernel
theorem dX7_trim_2 : decode cX7_trim 2 = .ok (.aload_n 0, 1) := by decide +kernel
theorem dX7_trim_3 : decode cX7_trim 3 = .ok (.getfield 37, 3) := by decide +kernel
theorem dX7_trim_6 : decode cX7_trim 6 = .ok (.invokestatic 72, 3) := by decide +kernel
theorem dX7_trim_9 : decode cX7_trim 9 = .ok (.ifCond .ne 6, 3) := by decide +kernel
theorem dX7_trim_12 : decode cX7_trim 12 = .ok (.ldc 76, 2) := by decide +kernel
theorem dX7_trim_14 : decode cX7_trim 14 = .ok (.ireturn, 1) := by decide +kernel
theorem dX7_trim_15 : decode cX7_trim 15 = .ok (.aload_n 0, 1) := by decide +kernel
theorem dX7_trim_16 : decode cX7_trim 16 = .ok (.iload_n 1, 1) := by decide +kernel
theorem dX7_trim_17 : decode cX7_trim 17 = .ok (.putfield 37, 3) := by decide +kernel
theorem dX7_trim_20 : decode cX7_trim 20 = .ok (.iload_n 1, 1) := by decide +kernel
theorem dX7_trim_21 : decode cX7_trim 21 = .ok (.ireturn, 1) := by decide +kernel
theorem dX7_text_0 : decode cX7_text 0 = .ok (.aload_n 0, 1) := by decide +kernel
theorem dX7_text_1 : decode cX7_text 1 = .ok (.getfield 37, 3) := by decide +kernel
theorem dX7_text_4 : decode cX7_text 4 = .ok (.istore_n 1, 1) := by decide +kernel
theorem dX7_text_5 : decode cX7_text 5 = .ok (.aload_n 0, 1) := by decide +kernel
theorem dX7_text_6 : decode cX7_text 6 = .ok (.iconst 0, 1) := by decide +kernel
theorem dX7_text_7 : decode cX7_text 7 = .ok (.putfield 37, 3) := by decide +kernel
theorem dX7_text_10 : decode cX7_text 10 = .ok (.aload_n 0, 1) := by decide +kernel
theorem dX7_text_11 : decode cX7_text 11 = .ok (.getfield 29, 3) := by decide +kernel
theorem dX7_text_14 : decode cX7_text 14 = .ok (.aload_n 0, 1) := by decide +kernel
theorem dX7_text_15 : decode cX7_text 15 = .ok (.getfield 33, 3) := by decide +kernel
theorem dX7_text_18 : decode cX7_text 18 = .ok (.iload_n 1, 1) := by decide +kernel
theorem dX7_text_19 : decode cX7_text 19 = .ok (.invokevirtual 218, 3) := by decide +kernel
theorem dX7_text_22 : decode cX7_text 22 = .ok (.istore_n 2, 1) := by decide +kernel
theorem dX7_text_23 : decode cX7_text 23 = .ok (.iload_n 2, 1) := by decide +kernel
theorem dX7_text_24 : decode cX7_text 24 = .ok (.ldc 81, 2) := by decide +kernel
theorem dX7_text_26 : decode cX7_text 26 = .ok (.if_icmp .ne 20, 3) := by decide +kernel
theorem dX7_text_29 : decode cX7_text 29 = .ok (.aload_n 0, 1) := by decide +kernel
theorem dX7_text_30 : decode cX7_text 30 = .ok (.getfield 10, 3) := by decide +kernel
theorem dX7_text_33 : decode cX7_text 33 = .ok (.getfield 199, 3) := by decide +kernel
theorem dX7_text_36 : decode cX7_text 36 = .ok (.aload_n 0, 1) := by decide +kernel
theorem dX7_text_37 : decode cX7_text 37 = .ok (.getfield 29, 3) := by decide +kernel
theorem dX7_text_40 : decode cX7_text 40 = .ok (.invokevirtual 222, 3) := by decide +kernel
theorem dX7_text_43 : decode cX7_text 43 = .ok (.goto 7, 3) := by decide +kernel
theorem dX7_text_46 : decode cX7_text 46 = .ok (.bipush (-100), 2) := by decide +kernel
theorem dX7_text_48 : decode cX7_text 48 = .ok (.iload_n 2, 1) := by decide +kernel
theorem dX7_text_49 : decode cX7_text 49 = .ok (.isub, 1) := by decide +kernel
theorem dX7_text_50 : decode cX7_text 50 = .ok (.ireturn, 1) := by decide +kernel
theorem dX7_textTold_0 : decode cX7_textTold 0 = .ok (.aload_n 0, 1) := by decide +kernel
theorem dX7_textTold_1 : decode cX7_textTold 1 = .ok (.getfield 10, 3) := by decide +kernel
theorem dX7_textTold_4 : decode cX7_textTold 4 = .ok (.getfield 199, 3) := by decide +kernel
theorem dX7_textTold_7 : decode cX7_textTold 7 = .ok (.iload_n 1, 1) := by decide +kernel
theorem dX7_textTold_8 : decode cX7_textTold 8 = .ok (.invokevirtual 226, 3) := by decide +kernel
theorem dX7_textTold_11 : decode cX7_textTold 11 = .ok (.astore_n 3, 1) := by decide +kernel
theorem dX7_textTold_12 : decode cX7_textTold 12 = .ok (.aload_n 3, 1) := by decide +kernel
theorem dX7_textTold_13 : decode cX7_textTold 13 = .ok (.ifnonnull 6, 3) := by decide +kernel
theorem dX7_textTold_16 : decode cX7_textTold 16 = .ok (.ldc 76, 2) := by decide +kernel
theorem dX7_textTold_18 : decode cX7_textTold 18 = .ok (.ireturn, 1) := by decide +kernel
theorem dX7_textTold_19 : decode cX7_textTold 19 = .ok (.iload_n 2, 1) := by decide +kernel
theorem dX7_textTold_20 : decode cX7_textTold 20 = .ok (.ifCond .ne 10, 3) := by decide +kernel
theorem dX7_textTold_23 : decode cX7_textTold 23 = .ok (.aload_n 3, 1) := by decide +kernel
theorem dX7_textTold_24 : decode cX7_textTold 24 = .ok (.getfield 229, 3) := by decide +kernel
theorem dX7_textTold_27 : decode cX7_textTold 27 = .ok (.goto 17, 3) := by decide +kernel
theorem dX7_textTold_30 : decode cX7_textTold 30 = .ok (.iload_n 2, 1) := by decide +kernel
theorem dX7_textTold_31 : decode cX7_textTold 31 = .ok (.iconst 1, 1) := by decide +kernel
theorem dX7_textTold_32 : decode cX7_textTold 32 = .ok (.if_icmp .ne 10, 3) := by decide +kernel
theorem dX7_textTold_35 : decode cX7_textTold 35 = .ok (.aload_n 3, 1) := by decide +kernel
theorem dX7_textTold_36 : decode cX7_textTold 36 = .ok (.getfield 232, 3) := by decide +kernel
theorem dX7_textTold_39 : decode cX7_textTold 39 = .ok (.goto 5, 3) := by decide +kernel
theorem dX7_textTold_42 : decode cX7_textTold 42 = .ok (.ldc 76, 2) := by decide +kernel
theorem dX7_textTold_44 : decode cX7_textTold 44 = .ok (.ireturn, 1) := by decide +kernel
theorem dX7_why_0 : decode cX7_why 0 = .ok (.iload_n 1, 1) := by decide +kernel
theorem dX7_why_1 : decode cX7_why 1 = .ok (.iconst 0, 1) := by decide +kernel
theorem dX7_why_2 : decode cX7_why 2 = .ok (.iconst 2, 1) := by decide +kernel
theorem dX7_why_3 : decode cX7_why 3 = .ok (.invokestatic 72, 3) := by decide +kernel
theorem dX7_why_6 : decode cX7_why 6 = .ok (.ifCond .eq 18, 3) := by decide +kernel
theorem dX7_why_9 : decode cX7_why 9 = .ok (.aload_n 0, 1) := by decide +kernel
theorem dX7_why_10 : decode cX7_why 10 = .ok (.getfield 10, 3) := by decide +kernel
theorem dX7_why_13 : decode cX7_why 13 = .ok (.getfield 199, 3) := by decide +kernel
theorem dX7_why_16 : decode cX7_why 16 = .ok (.getfield 235, 3) := by decide +kernel
theorem dX7_why_19 : decode cX7_why 19 = .ok (.iload_n 1, 1) := by decide +kernel
theorem dX7_why_20 : decode cX7_why 20 = .ok (.iaload, 1) := by decide +kernel
theorem dX7_why_21 : decode cX7_why 21 = .ok (.goto 5, 3) := by decide +kernel
theorem dX7_why_24 : decode cX7_why 24 = .ok (.ldc 76, 2) := by decide +kernel
theorem dX7_why_26 : decode cX7_why 26 = .ok (.ireturn, 1) := by decide +kernel
theorem dX7_sheet_0 : decode cX7_sheet 0 = .ok (.iload_n 1, 1) := by decide +kernel
theorem dX7_sheet_1 : decode cX7_sheet 1 = .ok (.invokestatic 188, 3) := by decide +kernel
theorem dX7_sheet_4 : decode cX7_sheet 4 = .ok (.ifCond .eq 12, 3) := by decide +kernel
theorem dX7_sheet_7 : decode cX7_sheet 7 = .ok (.iload_n 2, 1) := by decide +kernel
theorem dX7_sheet_8 : decode cX7_sheet 8 = .ok (.iconst (-1), 1) := by decide +kernel
theorem dX7_sheet_9 : decode cX7_sheet 9 = .ok (.iconst 1, 1) := by decide +kernel
theorem dX7_sheet_10 : decode cX7_sheet 10 = .ok (.invokestatic 72, 3) := by decide +kernel
theorem dX7_sheet_13 : decode cX7_sheet 13 = .ok (.ifCond .ne 6, 3) := by decide +kernel
theorem dX7_sheet_16 : decode cX7_sheet 16 = .ok (.ldc 76, 2) := by decide +kernel
theorem dX7_sheet_18 : decode cX7_sheet 18 = .ok (.ireturn, 1) := by decide +kernel
theorem dX7_sheet_19 : decode cX7_sheet 19 = .ok (.iload_n 2, 1) := by decide +kernel
theorem dX7_sheet_20 : decode cX7_sheet 20 = .ok (.iconst (-1), 1) := by decide +kernel
theorem dX7_sheet_21 : decode cX7_sheet 21 = .ok (.if_icmp .ne 16, 3) := by decide +kernel
theorem dX7_sheet_24 : decode cX7_sheet 24 = .ok (.aload_n 0, 1) := by decide +kernel
theorem dX7_sheet_25 : decode cX7_sheet 25 = .ok (.getfield 43, 3) := by decide +kernel
theorem dX7_sheet_28 : decode cX7_sheet 28 = .ok (.iload_n 1, 1) := by decide +kernel
theorem dX7_sheet_29 : decode cX7_sheet 29 = .ok (.aaload, 1) := by decide +kernel
theorem dX7_sheet_30 : decode cX7_sheet 30 = .ok (.iconst (-1), 1) := by decide +kernel
theorem dX7_sheet_31 : decode cX7_sheet 31 = .ok (.iconst 0, 1) := by decide +kernel
theorem dX7_sheet_32 : decode cX7_sheet 32 = .ok (.invokevirtual 238, 3) := by decide +kernel
theorem dX7_sheet_35 : decode cX7_sheet 35 = .ok (.iconst 0, 1) := by decide +kernel
theorem dX7_sheet_36 : decode cX7_sheet 36 = .ok (.ireturn, 1) := by decide +kernel
theorem dX7_sheet_37 : decode cX7_sheet 37 = .ok (.iload_n 3, 1) := by decide +kernel
theorem dX7_sheet_38 : decode cX7_sheet 38 = .ok (.bipush 24, 2) := by decide +kernel
theorem dX7_sheet_40 : decode cX7_sheet 40 = .ok (.if_icmp .le 6, 3) := by decide +kernel
theorem dX7_sheet_43 : decode cX7_sheet 43 = .ok (.ldc 76, 2) := by decide +kernel
theorem dX7_sheet_45 : decode cX7_sheet 45 = .ok (.ireturn, 1) := by decide +kernel
theorem dX7_sheet_46 : decode cX7_sheet 46 = .ok (.iload_n 3, 1) := by decide +kernel
theorem dX7_sheet_47 : decode cX7_sheet 47 = .ok (.ifCond .ge 6, 3) := by decide +kernel
theorem dX7_sheet_50 : decode cX7_sheet 50 = .ok (.ldc 242, 2) := by decide +kernel
theorem dX7_sheet_52 : decode cX7_sheet 52 = .ok (.ireturn, 1) := by decide +kernel
theorem dX7_sheet_53 : decode cX7_sheet 53 = .ok (.aload_n 0, 1) := by decide +kernel
theorem dX7_sheet_54 : decode cX7_sheet 54 = .ok (.getfield 43, 3) := by decide +kernel
theorem dX7_sheet_57 : decode cX7_sheet 57 = .ok (.iload_n 1, 1) := by decide +kernel
theorem dX7_sheet_58 : decode cX7_sheet 58 = .ok (.aaload, 1) := by decide +kernel
theorem dX7_sheet_59 : decode cX7_sheet 59 = .ok (.iload_n 2, 1) := by decide +kernel
theorem dX7_sheet_60 : decode cX7_sheet 60 = .ok (.iload_n 3, 1) := by decide +kernel
theorem dX7_sheet_61 : decode cX7_sheet 61 = .ok (.invokevirtual 238, 3) := by decide +kernel
theorem dX7_sheet_64 : decode cX7_sheet 64 = .ok (.iload_n 3, 1) := by decide +kernel
theorem dX7_sheet_65 : decode cX7_sheet 65 = .ok (.ireturn, 1) := by decide +kernel
theorem dX7_mark_0 : decode cX7_mark 0 = .ok (.iload_n 1, 1) := by decide +kernel
theorem dX7_mark_1 : decode cX7_mark 1 = .ok (.invokestatic 188, 3) := by decide +kernel
theorem dX7_mark_4 : decode cX7_mark 4 = .ok (.ifCond .ne 6, 3) := by decide +kernel
theorem dX7_mark_7 : decode cX7_mark 7 = .ok (.ldc 76, 2) := by decide +kernel
theorem dX7_mark_9 : decode cX7_mark 9 = .ok (.ireturn, 1) := by decide +kernel
theorem dX7_mark_10 : decode cX7_mark 10 = .ok (.aload_n 0, 1) := by decide +kernel
theorem dX7_mark_11 : decode cX7_mark 11 = .ok (.getfield 43, 3) := by decide +kernel
theorem dX7_mark_14 : decode cX7_mark 14 = .ok (.iload_n 1, 1) := by decide +kernel
theorem dX7_mark_15 : decode cX7_mark 15 = .ok (.aaload, 1) := by decide +kernel
theorem dX7_mark_16 : decode cX7_mark 16 = .ok (.astore 4, 2) := by decide +kernel
theorem dX7_mark_18 : decode cX7_mark 18 = .ok (.aload 4, 2) := by decide +kernel
theorem dX7_mark_20 : decode cX7_mark 20 = .ok (.getfield 191, 3) := by decide +kernel
theorem dX7_mark_23 : decode cX7_mark 23 = .ok (.iconst (-1), 1) := by decide +kernel
theorem dX7_mark_24 : decode cX7_mark 24 = .ok (.if_icmp .ne 6, 3) := by decide +kernel
theorem dX7_mark_27 : decode cX7_mark 27 = .ok (.ldc 194, 2) := by decide +kernel
theorem dX7_mark_29 : decode cX7_mark 29 = .ok (.ireturn, 1) := by decide +kernel
theorem dX7_mark_30 : decode cX7_mark 30 = .ok (.iload_n 2, 1) := by decide +kernel
theorem dX7_mark_31 : decode cX7_mark 31 = .ok (.iconst 0, 1) := by decide +kernel
theorem dX7_mark_32 : decode cX7_mark 32 = .ok (.aload 4, 2) := by decide +kernel
theorem dX7_mark_34 : decode cX7_mark 34 = .ok (.getfield 243, 3) := by decide +kernel
theorem dX7_mark_37 : decode cX7_mark 37 = .ok (.iconst 1, 1) := by decide +kernel
theorem dX7_mark_38 : decode cX7_mark 38 = .ok (.isub, 1) := by decide +kernel
theorem dX7_mark_39 : decode cX7_mark 39 = .ok (.invokestatic 72, 3) := by decide +kernel
theorem dX7_mark_42 : decode cX7_mark 42 = .ok (.ifCond .ne 6, 3) := by decide +kernel
theorem dX7_mark_45 : decode cX7_mark 45 = .ok (.ldc 246, 2) := by decide +kernel
theorem dX7_mark_47 : decode cX7_mark 47 = .ok (.ireturn, 1) := by decide +kernel
theorem dX7_mark_48 : decode cX7_mark 48 = .ok (.aload 4, 2) := by decide +kernel
theorem dX7_mark_50 : decode cX7_mark 50 = .ok (.getfield 191, 3) := by decide +kernel
theorem dX7_mark_53 : decode cX7_mark 53 = .ok (.ifCond .ne 23, 3) := by decide +kernel
theorem dX7_mark_56 : decode cX7_mark 56 = .ok (.iload_n 3, 1) := by decide +kernel
theorem dX7_mark_57 : decode cX7_mark 57 = .ok (.ldc 81, 2) := by decide +kernel
theorem dX7_mark_59 : decode cX7_mark 59 = .ok (.if_icmp .ne 6, 3) := by decide +kernel
theorem dX7_mark_62 : decode cX7_mark 62 = .ok (.ldc 128, 2) := by decide +kernel
theorem dX7_mark_64 : decode cX7_mark 64 = .ok (.ireturn, 1) := by decide +kernel
theorem dX7_mark_65 : decode cX7_mark 65 = .ok (.aload 4, 2) := by decide +kernel
theorem dX7_mark_67 : decode cX7_mark 67 = .ok (.getfield 247, 3) := by decide +kernel
theorem dX7_mark_70 : decode cX7_mark 70 = .ok (.iload_n 2, 1) := by decide +kernel
theorem dX7_mark_71 : decode cX7_mark 71 = .ok (.iload_n 3, 1) := by decide +kernel
theorem dX7_mark_72 : decode cX7_mark 72 = .ok (.i2s, 1) := by decide +kernel
theorem dX7_mark_73 : decode cX7_mark 73 = .ok (.iastore, 1) := by decide +kernel
theorem dX7_mark_74 : decode cX7_mark 74 = .ok (.iconst 1, 1) := by decide +kernel
theorem dX7_mark_75 : decode cX7_mark 75 = .ok (.ireturn, 1) := by decide +kernel
theorem dX7_mark_76 : decode cX7_mark 76 = .ok (.iload_n 3, 1) := by decide +kernel
theorem dX7_mark_77 : decode cX7_mark 77 = .ok (.ldc 81, 2) := by decide +kernel
theorem dX7_mark_79 : decode cX7_mark 79 = .ok (.if_icmp .eq 17, 3) := by decide +kernel
theorem dX7_mark_82 : decode cX7_mark 82 = .ok (.iload_n 3, 1) := by decide +kernel
theorem dX7_mark_83 : decode cX7_mark 83 = .ok (.ldc 250, 2) := by decide +kernel
theorem dX7_mark_85 : decode cX7_mark 85 = .ok (.ldc 251, 2) := by decide +kernel
theorem dX7_mark_87 : decode cX7_mark 87 = .ok (.invokestatic 72, 3) := by decide +kernel
theorem dX7_mark_90 : decode cX7_mark 90 = .ok (.ifCond .ne 6, 3) := by decide +kernel
theorem dX7_mark_93 : decode cX7_mark 93 = .ok (.ldc 76, 2) := by decide +kernel
theorem dX7_mark_95 : decode cX7_mark 95 = .ok (.ireturn, 1) := by decide +kernel
theorem dX7_mark_96 : decode cX7_mark 96 = .ok (.aload 4, 2) := by decide +kernel
theorem dX7_mark_98 : decode cX7_mark 98 = .ok (.getfield 247, 3) := by decide +kernel
theorem dX7_mark_101 : decode cX7_mark 101 = .ok (.iload_n 2, 1) := by decide +kernel
theorem dX7_mark_102 : decode cX7_mark 102 = .ok (.iload_n 3, 1) := by decide +kernel
theorem dX7_mark_103 : decode cX7_mark 103 = .ok (.iastore, 1) := by decide +kernel
theorem dX7_mark_104 : decode cX7_mark 104 = .ok (.iconst 1, 1) := by decide +kernel
theorem dX7_mark_105 : decode cX7_mark 105 = .ok (.ireturn, 1) := by decide +kernel
theorem dX7_pour_0 : decode cX7_pour 0 = .ok (.iload_n 1, 1) := by decide +kernel
theorem dX7_pour_1 : decode cX7_pour 1 = .ok (.invokestatic 188, 3) := by decide +kernel
theorem dX7_pour_4 : decode cX7_pour 4 = .ok (.ifCond .ne 6, 3) := by decide +kernel
theorem dX7_pour_7 : decode cX7_pour 7 = .ok (.ldc 76, 2) := by decide +kernel
theorem dX7_pour_9 : decode cX7_pour 9 = .ok (.ireturn, 1) := by decide +kernel
theorem dX7_pour_10 : decode cX7_pour 10 = .ok (.aload_n 0, 1) := by decide +kernel
theorem dX7_pour_11 : decode cX7_pour 11 = .ok (.getfield 43, 3) := by decide +kernel
theorem dX7_pour_14 : decode cX7_pour 14 = .ok (.iload_n 1, 1) := by decide +kernel
theorem dX7_pour_15 : decode cX7_pour 15 = .ok (.aaload, 1) := by decide +kernel
theorem dX7_pour_16 : decode cX7_pour 16 = .ok (.astore_n 2, 1) := by decide +kernel
theorem dX7_pour_17 : decode cX7_pour 17 = .ok (.aload_n 2, 1) := by decide +kernel
theorem dX7_pour_18 : decode cX7_pour 18 = .ok (.getfield 191, 3) := by decide +kernel
theorem dX7_pour_21 : decode cX7_pour 21 = .ok (.iconst (-1), 1) := by decide +kernel
theorem dX7_pour_22 : decode cX7_pour 22 = .ok (.if_icmp .ne 6, 3) := by decide +kernel
theorem dX7_pour_25 : decode cX7_pour 25 = .ok (.ldc 194, 2) := by decide +kernel
theorem dX7_pour_27 : decode cX7_pour 27 = .ok (.ireturn, 1) := by decide +kernel
theorem dX7_pour_28 : decode cX7_pour 28 = .ok (.iconst 0, 1) := by decide +kernel
theorem dX7_pour_29 : decode cX7_pour 29 = .ok (.istore_n 3, 1) := by decide +kernel
theorem dX7_pour_30 : decode cX7_pour 30 = .ok (.aload_n 0, 1) := by decide +kernel
theorem dX7_pour_31 : decode cX7_pour 31 = .ok (.getfield 10, 3) := by decide +kernel
theorem dX7_pour_34 : decode cX7_pour 34 = .ok (.getfield 83, 3) := by decide +kernel
theorem dX7_pour_37 : decode cX7_pour 37 = .ok (.aload_n 2, 1) := by decide +kernel
theorem dX7_pour_38 : decode cX7_pour 38 = .ok (.getfield 243, 3) := by decide +kernel
theorem dX7_pour_41 : decode cX7_pour 41 = .ok (.invokestatic 135, 3) := by decide +kernel
theorem dX7_pour_44 : decode cX7_pour 44 = .ok (.istore 4, 2) := by decide +kernel
theorem dX7_pour_46 : decode cX7_pour 46 = .ok (.iconst 0, 1) := by decide +kernel
theorem dX7_pour_47 : decode cX7_pour 47 = .ok (.istore 5, 2) := by decide +kernel
theorem dX7_pour_49 : decode cX7_pour 49 = .ok (.iload 5, 2) := by decide +kernel
theorem dX7_pour_51 : decode cX7_pour 51 = .ok (.iload 4, 2) := by decide +kernel
theorem dX7_pour_53 : decode cX7_pour 53 = .ok (.if_icmp .ge 73, 3) := by decide +kernel
theorem dX7_pour_56 : decode cX7_pour 56 = .ok (.aload_n 2, 1) := by decide +kernel
theorem dX7_pour_57 : decode cX7_pour 57 = .ok (.iload 5, 2) := by decide +kernel
theorem dX7_pour_59 : decode cX7_pour 59 = .ok (.invokevirtual 252, 3) := by decide +kernel
theorem dX7_pour_62 : decode cX7_pour 62 = .ok (.ifCond .eq 16, 3) := by decide +kernel
theorem dX7_pour_65 : decode cX7_pour 65 = .ok (.aload_n 2, 1) := by decide +kernel
theorem dX7_pour_66 : decode cX7_pour 66 = .ok (.getfield 247, 3) := by decide +kernel
theorem dX7_pour_69 : decode cX7_pour 69 = .ok (.iload 5, 2) := by decide +kernel
theorem dX7_pour_71 : decode cX7_pour 71 = .ok (.iaload, 1) := by decide +kernel
theorem dX7_pour_72 : decode cX7_pour 72 = .ok (.invokestatic 255, 3) := by decide +kernel
theorem dX7_pour_75 : decode cX7_pour 75 = .ok (.goto 13, 3) := by decide +kernel
theorem dX7_pour_78 : decode cX7_pour 78 = .ok (.aload_n 0, 1) := by decide +kernel
theorem dX7_pour_79 : decode cX7_pour 79 = .ok (.getfield 10, 3) := by decide +kernel
theorem dX7_pour_82 : decode cX7_pour 82 = .ok (.getfield 97, 3) := by decide +kernel
theorem dX7_pour_85 : decode cX7_pour 85 = .ok (.iload 5, 2) := by decide +kernel
theorem dX7_pour_87 : decode cX7_pour 87 = .ok (.iaload, 1) := by decide +kernel
theorem dX7_pour_88 : decode cX7_pour 88 = .ok (.istore 6, 2) := by decide +kernel
theorem dX7_pour_90 : decode cX7_pour 90 = .ok (.aload_n 0, 1) := by decide +kernel
theorem dX7_pour_91 : decode cX7_pour 91 = .ok (.getfield 10, 3) := by decide +kernel
theorem dX7_pour_94 : decode cX7_pour 94 = .ok (.getfield 97, 3) := by decide +kernel
theorem dX7_pour_97 : decode cX7_pour 97 = .ok (.iload 5, 2) := by decide +kernel
theorem dX7_pour_99 : decode cX7_pour 99 = .ok (.iaload, 1) := by decide +kernel
theorem dX7_pour_100 : decode cX7_pour 100 = .ok (.iload 6, 2) := by decide +kernel
theorem dX7_pour_102 : decode cX7_pour 102 = .ok (.if_icmp .eq 18, 3) := by decide +kernel
theorem dX7_pour_105 : decode cX7_pour 105 = .ok (.aload_n 0, 1) := by decide +kernel
theorem dX7_pour_106 : decode cX7_pour 106 = .ok (.getfield 10, 3) := by decide +kernel
theorem dX7_pour_109 : decode cX7_pour 109 = .ok (.getfield 97, 3) := by decide +kernel
theorem dX7_pour_112 : decode cX7_pour 112 = .ok (.iload 5, 2) := by decide +kernel
theorem dX7_pour_114 : decode cX7_pour 114 = .ok (.iload 6, 2) := by decide +kernel
theorem dX7_pour_116 : decode cX7_pour 116 = .ok (.iastore, 1) := by decide +kernel
theorem dX7_pour_117 : decode cX7_pour 117 = .ok (.iinc 3 1, 3) := by decide +kernel
theorem dX7_pour_120 : decode cX7_pour 120 = .ok (.iinc 5 1, 3) := by decide +kernel
theorem dX7_pour_123 : decode cX7_pour 123 = .ok (.goto (-74), 3) := by decide +kernel
theorem dX7_pour_126 : decode cX7_pour 126 = .ok (.iload_n 3, 1) := by decide +kernel
theorem dX7_pour_127 : decode cX7_pour 127 = .ok (.ireturn, 1) := by decide +kernel
theorem dX7_reads_0 : decode cX7_reads 0 = .ok (.iload_n 1, 1) := by decide +kernel
theorem dX7_reads_1 : decode cX7_reads 1 = .ok (.invokestatic 188, 3) := by decide +kernel
theorem dX7_reads_4 : decode cX7_reads 4 = .ok (.ifCond .ne 6, 3) := by decide +kernel
theorem dX7_reads_7 : decode cX7_reads 7 = .ok (.ldc 76, 2) := by decide +kernel
theorem dX7_reads_9 : decode cX7_reads 9 = .ok (.ireturn, 1) := by decide +kernel
theorem dX7_reads_10 : decode cX7_reads 10 = .ok (.aload_n 0, 1) := by decide +kernel
theorem dX7_reads_11 : decode cX7_reads 11 = .ok (.getfield 43, 3) := by decide +kernel
theorem dX7_reads_14 : decode cX7_reads 14 = .ok (.iload_n 1, 1) := by decide +kernel
theorem dX7_reads_15 : decode cX7_reads 15 = .ok (.aaload, 1) := by decide +kernel
theorem dX7_reads_16 : decode cX7_reads 16 = .ok (.astore_n 2, 1) := by decide +kernel
theorem dX7_reads_17 : decode cX7_reads 17 = .ok (.aload_n 2, 1) := by decide +kernel
theorem dX7_reads_18 : decode cX7_reads 18 = .ok (.getfield 191, 3) := by decide +kernel
theorem dX7_reads_21 : decode cX7_reads 21 = .ok (.iconst (-1), 1) := by decide +kernel
theorem dX7_reads_22 : decode cX7_reads 22 = .ok (.if_icmp .ne 6, 3) := by decide +kernel
theorem dX7_reads_25 : decode cX7_reads 25 = .ok (.ldc 194, 2) := by decide +kernel
theorem dX7_reads_27 : decode cX7_reads 27 = .ok (.ireturn, 1) := by decide +kernel
theorem dX7_reads_28 : decode cX7_reads 28 = .ok (.iconst 0, 1) := by decide +kernel
theorem dX7_reads_29 : decode cX7_reads 29 = .ok (.istore_n 3, 1) := by decide +kernel
theorem dX7_reads_30 : decode cX7_reads 30 = .ok (.iload_n 3, 1) := by decide +kernel
theorem dX7_reads_31 : decode cX7_reads 31 = .ok (.aload_n 2, 1) := by decide +kernel
theorem dX7_reads_32 : decode cX7_reads 32 = .ok (.getfield 243, 3) := by decide +kernel
theorem dX7_reads_35 : decode cX7_reads 35 = .ok (.if_icmp .ge 48, 3) := by decide +kernel
theorem dX7_reads_38 : decode cX7_reads 38 = .ok (.aload_n 2, 1) := by decide +kernel
theorem dX7_reads_39 : decode cX7_reads 39 = .ok (.iload_n 3, 1) := by decide +kernel
theorem dX7_reads_40 : decode cX7_reads 40 = .ok (.invokevirtual 252, 3) := by decide +kernel
theorem dX7_reads_43 : decode cX7_reads 43 = .ok (.ifCond .eq 34, 3) := by decide +kernel
theorem dX7_reads_46 : decode cX7_reads 46 = .ok (.iload_n 3, 1) := by decide +kernel
theorem dX7_reads_47 : decode cX7_reads 47 = .ok (.aload_n 0, 1) := by decide +kernel
theorem dX7_reads_48 : decode cX7_reads 48 = .ok (.getfield 10, 3) := by decide +kernel
theorem dX7_reads_51 : decode cX7_reads 51 = .ok (.getfield 83, 3) := by decide +kernel
theorem dX7_reads_54 : decode cX7_reads 54 = .ok (.if_icmp .ge 21, 3) := by decide +kernel
theorem dX7_reads_57 : decode cX7_reads 57 = .ok (.aload_n 2, 1) := by decide +kernel
theorem dX7_reads_58 : decode cX7_reads 58 = .ok (.getfield 247, 3) := by decide +kernel
theorem dX7_reads_61 : decode cX7_reads 61 = .ok (.iload_n 3, 1) := by decide +kernel
theorem dX7_reads_62 : decode cX7_reads 62 = .ok (.iaload, 1) := by decide +kernel
theorem dX7_reads_63 : decode cX7_reads 63 = .ok (.aload_n 0, 1) := by decide +kernel
theorem dX7_reads_64 : decode cX7_reads 64 = .ok (.getfield 10, 3) := by decide +kernel
theorem dX7_reads_67 : decode cX7_reads 67 = .ok (.getfield 100, 3) := by decide +kernel
theorem dX7_reads_70 : decode cX7_reads 70 = .ok (.iload_n 3, 1) := by decide +kernel
theorem dX7_reads_71 : decode cX7_reads 71 = .ok (.iaload, 1) := by decide +kernel
theorem dX7_reads_72 : decode cX7_reads 72 = .ok (.if_icmp .eq 5, 3) := by decide +kernel
theorem dX7_reads_75 : decode cX7_reads 75 = .ok (.iload_n 3, 1) := by decide +kernel
theorem dX7_reads_76 : decode cX7_reads 76 = .ok (.ireturn, 1) := by decide +kernel
theorem dX7_reads_77 : decode cX7_reads 77 = .ok (.iinc 3 1, 3) := by decide +kernel
theorem dX7_reads_80 : decode cX7_reads 80 = .ok (.goto (-50), 3) := by decide +kernel
theorem dX7_reads_83 : decode cX7_reads 83 = .ok (.ldc 81, 2) := by decide +kernel
theorem dX7_reads_85 : decode cX7_reads 85 = .ok (.ireturn, 1) := by decide +kernel
theorem dX7_copy_0 : decode cX7_copy 0 = .ok (.iload_n 1, 1) := by decide +kernel
theorem dX7_copy_1 : decode cX7_copy 1 = .ok (.invokestatic 188, 3) := by decide +kernel
theorem dX7_copy_4 : decode cX7_copy 4 = .ok (.ifCond .eq 10, 3) := by decide +kernel
theorem dX7_copy_7 : decode cX7_copy 7 = .ok (.iload_n 3, 1) := by decide +kernel
theorem dX7_copy_8 : decode cX7_copy 8 = .ok (.invokestatic 188, 3) := by decide +kernel
theorem dX7_copy_11 : decode cX7_copy 11 = .ok (.ifCond .ne 6, 3) := by decide +kernel
theorem dX7_copy_14 : decode cX7_copy 14 = .ok (.ldc 76, 2) := by decide +kernel
theorem dX7_copy_16 : decode cX7_copy 16 = .ok (.ireturn, 1) := by decide +kernel
theorem dX7_copy_17 : decode cX7_copy 17 = .ok (.aload_n 0, 1) := by decide +kernel
theorem dX7_copy_18 : decode cX7_copy 18 = .ok (.getfield 43, 3) := by decide +kernel
theorem dX7_copy_21 : decode cX7_copy 21 = .ok (.iload_n 1, 1) := by decide +kernel
theorem dX7_copy_22 : decode cX7_copy 22 = .ok (.aaload, 1) := by decide +kernel
theorem dX7_copy_23 : decode cX7_copy 23 = .ok (.astore 6, 2) := by decide +kernel
theorem dX7_copy_25 : decode cX7_copy 25 = .ok (.aload_n 0, 1) := by decide +kernel
theorem dX7_copy_26 : decode cX7_copy 26 = .ok (.getfield 43, 3) := by decide +kernel
theorem dX7_copy_29 : decode cX7_copy 29 = .ok (.iload_n 3, 1) := by decide +kernel
theorem dX7_copy_30 : decode cX7_copy 30 = .ok (.aaload, 1) := by decide +kernel
theorem dX7_copy_31 : decode cX7_copy 31 = .ok (.astore 7, 2) := by decide +kernel
theorem dX7_copy_33 : decode cX7_copy 33 = .ok (.aload 6, 2) := by decide +kernel
theorem dX7_copy_35 : decode cX7_copy 35 = .ok (.getfield 191, 3) := by decide +kernel
theorem dX7_copy_38 : decode cX7_copy 38 = .ok (.iconst (-1), 1) := by decide +kernel
theorem dX7_copy_39 : decode cX7_copy 39 = .ok (.if_icmp .eq 12, 3) := by decide +kernel
theorem dX7_copy_42 : decode cX7_copy 42 = .ok (.aload 7, 2) := by decide +kernel
theorem dX7_copy_44 : decode cX7_copy 44 = .ok (.getfield 191, 3) := by decide +kernel
theorem dX7_copy_47 : decode cX7_copy 47 = .ok (.iconst (-1), 1) := by decide +kernel
theorem dX7_copy_48 : decode cX7_copy 48 = .ok (.if_icmp .ne 6, 3) := by decide +kernel
theorem dX7_copy_51 : decode cX7_copy 51 = .ok (.ldc 194, 2) := by decide +kernel
theorem dX7_copy_53 : decode cX7_copy 53 = .ok (.ireturn, 1) := by decide +kernel
theorem dX7_copy_54 : decode cX7_copy 54 = .ok (.aload 6, 2) := by decide +kernel
theorem dX7_copy_56 : decode cX7_copy 56 = .ok (.getfield 191, 3) := by decide +kernel
theorem dX7_copy_59 : decode cX7_copy 59 = .ok (.aload 7, 2) := by decide +kernel
theorem dX7_copy_61 : decode cX7_copy 61 = .ok (.getfield 191, 3) := by decide +kernel
theorem dX7_copy_64 : decode cX7_copy 64 = .ok (.if_icmp .eq 6, 3) := by decide +kernel
theorem dX7_copy_67 : decode cX7_copy 67 = .ok (.ldc 128, 2) := by decide +kernel
theorem dX7_copy_69 : decode cX7_copy 69 = .ok (.ireturn, 1) := by decide +kernel
theorem dX7_copy_70 : decode cX7_copy 70 = .ok (.aload 6, 2) := by decide +kernel
theorem dX7_copy_72 : decode cX7_copy 72 = .ok (.iload_n 2, 1) := by decide +kernel
theorem dX7_copy_73 : decode cX7_copy 73 = .ok (.iload 5, 2) := by decide +kernel
theorem dX7_copy_75 : decode cX7_copy 75 = .ok (.invokevirtual 258, 3) := by decide +kernel
theorem dX7_copy_78 : decode cX7_copy 78 = .ok (.ifCond .eq 15, 3) := by decide +kernel
theorem dX7_copy_81 : decode cX7_copy 81 = .ok (.aload 7, 2) := by decide +kernel
theorem dX7_copy_83 : decode cX7_copy 83 = .ok (.iload 4, 2) := by decide +kernel
theorem dX7_copy_85 : decode cX7_copy 85 = .ok (.iload 5, 2) := by decide +kernel
theorem dX7_copy_87 : decode cX7_copy 87 = .ok (.invokevirtual 258, 3) := by decide +kernel
theorem dX7_copy_90 : decode cX7_copy 90 = .ok (.ifCond .ne 6, 3) := by decide +kernel
theorem dX7_copy_93 : decode cX7_copy 93 = .ok (.ldc 246, 2) := by decide +kernel
theorem dX7_copy_95 : decode cX7_copy 95 = .ok (.ireturn, 1) := by decide +kernel
theorem dX7_copy_96 : decode cX7_copy 96 = .ok (.aload 6, 2) := by decide +kernel
theorem dX7_copy_98 : decode cX7_copy 98 = .ok (.getfield 247, 3) := by decide +kernel
theorem dX7_copy_101 : decode cX7_copy 101 = .ok (.iload_n 2, 1) := by decide +kernel
theorem dX7_copy_102 : decode cX7_copy 102 = .ok (.aload 7, 2) := by decide +kernel
theorem dX7_copy_104 : decode cX7_copy 104 = .ok (.getfield 247, 3) := by decide +kernel
theorem dX7_copy_107 : decode cX7_copy 107 = .ok (.iload 4, 2) := by decide +kernel
theorem dX7_copy_109 : decode cX7_copy 109 = .ok (.iload 5, 2) := by decide +kernel
theorem dX7_copy_111 : decode cX7_copy 111 = .ok (.invokestatic 261, 3) := by decide +kernel
theorem dX7_copy_114 : decode cX7_copy 114 = .ok (.iload 5, 2) := by decide +kernel
theorem dX7_copy_116 : decode cX7_copy 116 = .ok (.ireturn, 1) := by decide +kernel
theorem dX7_lay_0 : decode cX7_lay 0 = .ok (.iload_n 1, 1) := by decide +kernel
theorem dX7_lay_1 : decode cX7_lay 1 = .ok (.invokestatic 267, 3) := by decide +kernel
theorem dX7_lay_4 : decode cX7_lay 4 = .ok (.ifCond .eq 37, 3) := by decide +kernel
theorem dX7_lay_7 : decode cX7_lay 7 = .ok (.iload_n 2, 1) := by decide +kernel
theorem dX7_lay_8 : decode cX7_lay 8 = .ok (.iconst 0, 1) := by decide +kernel
theorem dX7_lay_9 : decode cX7_lay 9 = .ok (.iconst 3, 1) := by decide +kernel
theorem dX7_lay_10 : decode cX7_lay 10 = .ok (.invokestatic 72, 3) := by decide +kernel
theorem dX7_lay_13 : decode cX7_lay 13 = .ok (.ifCond .eq 28, 3) := by decide +kernel
theorem dX7_lay_16 : decode cX7_lay 16 = .ok (.iload_n 2, 1) := by decide +kernel
theorem dX7_lay_17 : decode cX7_lay 17 = .ok (.iconst 1, 1) := by decide +kernel
theorem dX7_lay_18 : decode cX7_lay 18 = .ok (.if_icmp .ne 11, 3) := by decide +kernel
theorem dX7_lay_21 : decode cX7_lay 21 = .ok (.aload_n 0, 1) := by decide +kernel
theorem dX7_lay_22 : decode cX7_lay 22 = .ok (.iload_n 3, 1) := by decide +kernel
theorem dX7_lay_23 : decode cX7_lay 23 = .ok (.invokevirtual 91, 3) := by decide +kernel
theorem dX7_lay_26 : decode cX7_lay 26 = .ok (.ifCond .eq 15, 3) := by decide +kernel
theorem dX7_lay_29 : decode cX7_lay 29 = .ok (.iload_n 2, 1) := by decide +kernel
theorem dX7_lay_30 : decode cX7_lay 30 = .ok (.iconst 2, 1) := by decide +kernel
theorem dX7_lay_31 : decode cX7_lay 31 = .ok (.if_icmp .ne 13, 3) := by decide +kernel
theorem dX7_lay_34 : decode cX7_lay 34 = .ok (.iload_n 3, 1) := by decide +kernel
theorem dX7_lay_35 : decode cX7_lay 35 = .ok (.invokestatic 188, 3) := by decide +kernel
theorem dX7_lay_38 : decode cX7_lay 38 = .ok (.ifCond .ne 6, 3) := by decide +kernel
theorem dX7_lay_41 : decode cX7_lay 41 = .ok (.ldc 76, 2) := by decide +kernel
theorem dX7_lay_43 : decode cX7_lay 43 = .ok (.ireturn, 1) := by decide +kernel
theorem dX7_lay_44 : decode cX7_lay 44 = .ok (.iload_n 2, 1) := by decide +kernel
theorem dX7_lay_45 : decode cX7_lay 45 = .ok (.iconst 2, 1) := by decide +kernel
theorem dX7_lay_46 : decode cX7_lay 46 = .ok (.if_icmp .ne 19, 3) := by decide +kernel
theorem dX7_lay_49 : decode cX7_lay 49 = .ok (.aload_n 0, 1) := by decide +kernel
theorem dX7_lay_50 : decode cX7_lay 50 = .ok (.getfield 43, 3) := by decide +kernel
theorem dX7_lay_53 : decode cX7_lay 53 = .ok (.iload_n 3, 1) := by decide +kernel
theorem dX7_lay_54 : decode cX7_lay 54 = .ok (.aaload, 1) := by decide +kernel
theorem dX7_lay_55 : decode cX7_lay 55 = .ok (.getfield 191, 3) := by decide +kernel
theorem dX7_lay_58 : decode cX7_lay 58 = .ok (.iconst (-1), 1) := by decide +kernel
theorem dX7_lay_59 : decode cX7_lay 59 = .ok (.if_icmp .ne 6, 3) := by decide +kernel
theorem dX7_lay_62 : decode cX7_lay 62 = .ok (.ldc 194, 2) := by decide +kernel
theorem dX7_lay_64 : decode cX7_lay 64 = .ok (.ireturn, 1) := by decide +kernel
theorem dX7_lay_65 : decode cX7_lay 65 = .ok (.aload_n 0, 1) := by decide +kernel
theorem dX7_lay_66 : decode cX7_lay 66 = .ok (.getfield 49, 3) := by decide +kernel
theorem dX7_lay_69 : decode cX7_lay 69 = .ok (.iload_n 1, 1) := by decide +kernel
theorem dX7_lay_70 : decode cX7_lay 70 = .ok (.aaload, 1) := by decide +kernel
theorem dX7_lay_71 : decode cX7_lay 71 = .ok (.astore 4, 2) := by decide +kernel
theorem dX7_lay_73 : decode cX7_lay 73 = .ok (.aload 4, 2) := by decide +kernel
theorem dX7_lay_75 : decode cX7_lay 75 = .ok (.getfield 270, 3) := by decide +kernel
theorem dX7_lay_78 : decode cX7_lay 78 = .ok (.istore 5, 2) := by decide +kernel
theorem dX7_lay_80 : decode cX7_lay 80 = .ok (.aload 4, 2) := by decide +kernel
theorem dX7_lay_82 : decode cX7_lay 82 = .ok (.iload_n 2, 1) := by decide +kernel
theorem dX7_lay_83 : decode cX7_lay 83 = .ok (.putfield 270, 3) := by decide +kernel
theorem dX7_lay_86 : decode cX7_lay 86 = .ok (.iload_n 2, 1) := by decide +kernel
theorem dX7_lay_87 : decode cX7_lay 87 = .ok (.iconst 1, 1) := by decide +kernel
theorem dX7_lay_88 : decode cX7_lay 88 = .ok (.if_icmp .ne 34, 3) := by decide +kernel
theorem dX7_lay_91 : decode cX7_lay 91 = .ok (.aload 4, 2) := by decide +kernel
theorem dX7_lay_93 : decode cX7_lay 93 = .ok (.aload_n 0, 1) := by decide +kernel
theorem dX7_lay_94 : decode cX7_lay 94 = .ok (.getfield 10, 3) := by decide +kernel
theorem dX7_lay_97 : decode cX7_lay 97 = .ok (.getfield 94, 3) := by decide +kernel
theorem dX7_lay_100 : decode cX7_lay 100 = .ok (.iload_n 3, 1) := by decide +kernel
theorem dX7_lay_101 : decode cX7_lay 101 = .ok (.iaload, 1) := by decide +kernel
theorem dX7_lay_102 : decode cX7_lay 102 = .ok (.putfield 273, 3) := by decide +kernel
theorem dX7_lay_105 : decode cX7_lay 105 = .ok (.aload 4, 2) := by decide +kernel
theorem dX7_lay_107 : decode cX7_lay 107 = .ok (.aload_n 0, 1) := by decide +kernel
theorem dX7_lay_108 : decode cX7_lay 108 = .ok (.getfield 10, 3) := by decide +kernel
theorem dX7_lay_111 : decode cX7_lay 111 = .ok (.getfield 97, 3) := by decide +kernel
theorem dX7_lay_114 : decode cX7_lay 114 = .ok (.iload_n 3, 1) := by decide +kernel
theorem dX7_lay_115 : decode cX7_lay 115 = .ok (.iaload, 1) := by decide +kernel
theorem dX7_lay_116 : decode cX7_lay 116 = .ok (.putfield 275, 3) := by decide +kernel
theorem dX7_lay_119 : decode cX7_lay 119 = .ok (.goto 36, 3) := by decide +kernel
theorem dX7_lay_122 : decode cX7_lay 122 = .ok (.iload_n 2, 1) := by decide +kernel
theorem dX7_lay_123 : decode cX7_lay 123 = .ok (.iconst 2, 1) := by decide +kernel
theorem dX7_lay_124 : decode cX7_lay 124 = .ok (.if_icmp .ne 20, 3) := by decide +kernel
theorem dX7_lay_127 : decode cX7_lay 127 = .ok (.aload 4, 2) := by decide +kernel
theorem dX7_lay_129 : decode cX7_lay 129 = .ok (.getfield 277, 3) := by decide +kernel
theorem dX7_lay_132 : decode cX7_lay 132 = .ok (.aload_n 0, 1) := by decide +kernel
theorem dX7_lay_133 : decode cX7_lay 133 = .ok (.getfield 43, 3) := by decide +kernel
theorem dX7_lay_136 : decode cX7_lay 136 = .ok (.iload_n 3, 1) := by decide +kernel
theorem dX7_lay_137 : decode cX7_lay 137 = .ok (.aaload, 1) := by decide +kernel
theorem dX7_lay_138 : decode cX7_lay 138 = .ok (.invokevirtual 281, 3) := by decide +kernel
theorem dX7_lay_141 : decode cX7_lay 141 = .ok (.goto 14, 3) := by decide +kernel
theorem dX7_lay_144 : decode cX7_lay 144 = .ok (.iload_n 2, 1) := by decide +kernel
theorem dX7_lay_145 : decode cX7_lay 145 = .ok (.iconst 3, 1) := by decide +kernel
theorem dX7_lay_146 : decode cX7_lay 146 = .ok (.if_icmp .ne 9, 3) := by decide +kernel
theorem dX7_lay_149 : decode cX7_lay 149 = .ok (.aload 4, 2) := by decide +kernel
theorem dX7_lay_151 : decode cX7_lay 151 = .ok (.iload_n 3, 1) := by decide +kernel
theorem dX7_lay_152 : decode cX7_lay 152 = .ok (.putfield 283, 3) := by decide +kernel
theorem dX7_lay_155 : decode cX7_lay 155 = .ok (.iload 5, 2) := by decide +kernel
theorem dX7_lay_157 : decode cX7_lay 157 = .ok (.ireturn, 1) := by decide +kernel
theorem dX7_ask_0 : decode cX7_ask 0 = .ok (.iload_n 1, 1) := by decide +kernel
theorem dX7_ask_1 : decode cX7_ask 1 = .ok (.invokestatic 267, 3) := by decide +kernel
theorem dX7_ask_4 : decode cX7_ask 4 = .ok (.ifCond .eq 10, 3) := by decide +kernel
theorem dX7_ask_7 : decode cX7_ask 7 = .ok (.iload_n 2, 1) := by decide +kernel
theorem dX7_ask_8 : decode cX7_ask 8 = .ok (.invokestatic 65, 3) := by decide +kernel
theorem dX7_ask_11 : decode cX7_ask 11 = .ok (.ifCond .ne 6, 3) := by decide +kernel
theorem dX7_ask_14 : decode cX7_ask 14 = .ok (.ldc 76, 2) := by decide +kernel
theorem dX7_ask_16 : decode cX7_ask 16 = .ok (.ireturn, 1) := by decide +kernel
theorem dX7_ask_17 : decode cX7_ask 17 = .ok (.aload_n 0, 1) := by decide +kernel
theorem dX7_ask_18 : decode cX7_ask 18 = .ok (.getfield 49, 3) := by decide +kernel
theorem dX7_ask_21 : decode cX7_ask 21 = .ok (.iload_n 1, 1) := by decide +kernel
theorem dX7_ask_22 : decode cX7_ask 22 = .ok (.aaload, 1) := by decide +kernel
theorem dX7_ask_23 : decode cX7_ask 23 = .ok (.astore_n 3, 1) := by decide +kernel
theorem dX7_ask_24 : decode cX7_ask 24 = .ok (.aload_n 3, 1) := by decide +kernel
theorem dX7_ask_25 : decode cX7_ask 25 = .ok (.getfield 270, 3) := by decide +kernel
theorem dX7_ask_28 : decode cX7_ask 28 = .ok (.ifCond .ne 6, 3) := by decide +kernel
theorem dX7_ask_31 : decode cX7_ask 31 = .ok (.ldc 194, 2) := by decide +kernel
theorem dX7_ask_33 : decode cX7_ask 33 = .ok (.ireturn, 1) := by decide +kernel
theorem dX7_ask_34 : decode cX7_ask 34 = .ok (.aload_n 3, 1) := by decide +kernel
theorem dX7_ask_35 : decode cX7_ask 35 = .ok (.getfield 270, 3) := by decide +kernel
theorem dX7_ask_38 : decode cX7_ask 38 = .ok (.iconst 1, 1) := by decide +kernel
theorem dX7_ask_39 : decode cX7_ask 39 = .ok (.if_icmp .ne 14, 3) := by decide +kernel
theorem dX7_ask_42 : decode cX7_ask 42 = .ok (.aload_n 3, 1) := by decide +kernel
theorem dX7_ask_43 : decode cX7_ask 43 = .ok (.getfield 273, 3) := by decide +kernel
theorem dX7_ask_46 : decode cX7_ask 46 = .ok (.iload_n 2, 1) := by decide +kernel
theorem dX7_ask_47 : decode cX7_ask 47 = .ok (.invokestatic 124, 3) := by decide +kernel
theorem dX7_ask_50 : decode cX7_ask 50 = .ok (.ifCond .ne 6, 3) := by decide +kernel
theorem dX7_ask_53 : decode cX7_ask 53 = .ok (.ldc 128, 2) := by decide +kernel
theorem dX7_ask_55 : decode cX7_ask 55 = .ok (.ireturn, 1) := by decide +kernel
theorem dX7_ask_56 : decode cX7_ask 56 = .ok (.aload_n 3, 1) := by decide +kernel
theorem dX7_ask_57 : decode cX7_ask 57 = .ok (.getfield 273, 3) := by decide +kernel
theorem dX7_ask_60 : decode cX7_ask 60 = .ok (.aload_n 3, 1) := by decide +kernel
theorem dX7_ask_61 : decode cX7_ask 61 = .ok (.getfield 275, 3) := by decide +kernel
theorem dX7_ask_64 : decode cX7_ask 64 = .ok (.invokestatic 121, 3) := by decide +kernel
theorem dX7_ask_67 : decode cX7_ask 67 = .ok (.ireturn, 1) := by decide +kernel
theorem dX7_item_0 : decode cX7_item 0 = .ok (.iload_n 1, 1) := by decide +kernel
theorem dX7_item_1 : decode cX7_item 1 = .ok (.invokestatic 267, 3) := by decide +kernel
theorem dX7_item_4 : decode cX7_item 4 = .ok (.ifCond .ne 6, 3) := by decide +kernel
theorem dX7_item_7 : decode cX7_item 7 = .ok (.ldc 76, 2) := by decide +kernel
theorem dX7_item_9 : decode cX7_item 9 = .ok (.ireturn, 1) := by decide +kernel
theorem dX7_item_10 : decode cX7_item 10 = .ok (.aload_n 0, 1) := by decide +kernel
theorem dX7_item_11 : decode cX7_item 11 = .ok (.getfield 49, 3) := by decide +kernel
theorem dX7_item_14 : decode cX7_item 14 = .ok (.iload_n 1, 1) := by decide +kernel
theorem dX7_item_15 : decode cX7_item 15 = .ok (.aaload, 1) := by decide +kernel
theorem dX7_item_16 : decode cX7_item 16 = .ok (.getfield 270, 3) := by decide +kernel
theorem dX7_item_19 : decode cX7_item 19 = .ok (.ifCond .ne 6, 3) := by decide +kernel
theorem dX7_item_22 : decode cX7_item 22 = .ok (.ldc 194, 2) := by decide +kernel
theorem dX7_item_24 : decode cX7_item 24 = .ok (.ireturn, 1) := by decide +kernel
theorem dX7_item_25 : decode cX7_item 25 = .ok (.aload_n 0, 1) := by decide +kernel
theorem dX7_item_26 : decode cX7_item 26 = .ok (.getfield 49, 3) := by decide +kernel
theorem dX7_item_29 : decode cX7_item 29 = .ok (.iload_n 1, 1) := by decide +kernel
theorem dX7_item_30 : decode cX7_item 30 = .ok (.aaload, 1) := by decide +kernel
theorem dX7_item_31 : decode cX7_item 31 = .ok (.getfield 270, 3) := by decide +kernel
theorem dX7_item_34 : decode cX7_item 34 = .ok (.iconst 2, 1) := by decide +kernel
theorem dX7_item_35 : decode cX7_item 35 = .ok (.if_icmp .eq 6, 3) := by decide +kernel
theorem dX7_item_38 : decode cX7_item 38 = .ok (.ldc 128, 2) := by decide +kernel
theorem dX7_item_40 : decode cX7_item 40 = .ok (.ireturn, 1) := by decide +kernel
theorem dX7_item_41 : decode cX7_item 41 = .ok (.aload_n 0, 1) := by decide +kernel
theorem dX7_item_42 : decode cX7_item 42 = .ok (.getfield 49, 3) := by decide +kernel
theorem dX7_item_45 : decode cX7_item 45 = .ok (.iload_n 1, 1) := by decide +kernel
theorem dX7_item_46 : decode cX7_item 46 = .ok (.aaload, 1) := by decide +kernel
theorem dX7_item_47 : decode cX7_item 47 = .ok (.getfield 277, 3) := by decide +kernel
theorem dX7_item_50 : decode cX7_item 50 = .ok (.astore_n 3, 1) := by decide +kernel
theorem dX7_item_51 : decode cX7_item 51 = .ok (.iload_n 2, 1) := by decide +kernel
theorem dX7_item_52 : decode cX7_item 52 = .ok (.iconst 0, 1) := by decide +kernel
theorem dX7_item_53 : decode cX7_item 53 = .ok (.aload_n 3, 1) := by decide +kernel
theorem dX7_item_54 : decode cX7_item 54 = .ok (.getfield 243, 3) := by decide +kernel
theorem dX7_item_57 : decode cX7_item 57 = .ok (.iconst 1, 1) := by decide +kernel
theorem dX7_item_58 : decode cX7_item 58 = .ok (.isub, 1) := by decide +kernel
theorem dX7_item_59 : decode cX7_item 59 = .ok (.invokestatic 72, 3) := by decide +kernel
theorem dX7_item_62 : decode cX7_item 62 = .ok (.ifCond .ne 6, 3) := by decide +kernel
theorem dX7_item_65 : decode cX7_item 65 = .ok (.ldc 246, 2) := by decide +kernel
theorem dX7_item_67 : decode cX7_item 67 = .ok (.ireturn, 1) := by decide +kernel
theorem dX7_item_68 : decode cX7_item 68 = .ok (.aload_n 3, 1) := by decide +kernel
theorem dX7_item_69 : decode cX7_item 69 = .ok (.iload_n 2, 1) := by decide +kernel
theorem dX7_item_70 : decode cX7_item 70 = .ok (.invokevirtual 252, 3) := by decide +kernel
theorem dX7_item_73 : decode cX7_item 73 = .ok (.ifCond .eq 12, 3) := by decide +kernel
theorem dX7_item_76 : decode cX7_item 76 = .ok (.aload_n 3, 1) := by decide +kernel
theorem dX7_item_77 : decode cX7_item 77 = .ok (.getfield 247, 3) := by decide +kernel
theorem dX7_item_80 : decode cX7_item 80 = .ok (.iload_n 2, 1) := by decide +kernel
theorem dX7_item_81 : decode cX7_item 81 = .ok (.iaload, 1) := by decide +kernel
theorem dX7_item_82 : decode cX7_item 82 = .ok (.goto 5, 3) := by decide +kernel
theorem dX7_item_85 : decode cX7_item 85 = .ok (.ldc 128, 2) := by decide +kernel
theorem dX7_item_87 : decode cX7_item 87 = .ok (.ireturn, 1) := by decide +kernel
theorem dX7_rest_0 : decode cX7_rest 0 = .ok (.iload_n 1, 1) := by decide +kernel
theorem dX7_rest_1 : decode cX7_rest 1 = .ok (.invokestatic 267, 3) := by decide +kernel
theorem dX7_rest_4 : decode cX7_rest 4 = .ok (.ifCond .ne 6, 3) := by decide +kernel
theorem dX7_rest_7 : decode cX7_rest 7 = .ok (.ldc 76, 2) := by decide +kernel
theorem dX7_rest_9 : decode cX7_rest 9 = .ok (.ireturn, 1) := by decide +kernel
theorem dX7_rest_10 : decode cX7_rest 10 = .ok (.aload_n 0, 1) := by decide +kernel
theorem dX7_rest_11 : decode cX7_rest 11 = .ok (.getfield 49, 3) := by decide +kernel
theorem dX7_rest_14 : decode cX7_rest 14 = .ok (.iload_n 1, 1) := by decide +kernel
theorem dX7_rest_15 : decode cX7_rest 15 = .ok (.aaload, 1) := by decide +kernel
theorem dX7_rest_16 : decode cX7_rest 16 = .ok (.getfield 270, 3) := by decide +kernel
theorem dX7_rest_19 : decode cX7_rest 19 = .ok (.ifCond .ne 6, 3) := by decide +kernel
theorem dX7_rest_22 : decode cX7_rest 22 = .ok (.ldc 194, 2) := by decide +kernel
theorem dX7_rest_24 : decode cX7_rest 24 = .ok (.ireturn, 1) := by decide +kernel
theorem dX7_rest_25 : decode cX7_rest 25 = .ok (.aload_n 0, 1) := by decide +kernel
theorem dX7_rest_26 : decode cX7_rest 26 = .ok (.getfield 49, 3) := by decide +kernel
theorem dX7_rest_29 : decode cX7_rest 29 = .ok (.iload_n 1, 1) := by decide +kernel
theorem dX7_rest_30 : decode cX7_rest 30 = .ok (.aaload, 1) := by decide +kernel
theorem dX7_rest_31 : decode cX7_rest 31 = .ok (.getfield 270, 3) := by decide +kernel
theorem dX7_rest_34 : decode cX7_rest 34 = .ok (.iconst 3, 1) := by decide +kernel
theorem dX7_rest_35 : decode cX7_rest 35 = .ok (.if_icmp .eq 6, 3) := by decide +kernel
theorem dX7_rest_38 : decode cX7_rest 38 = .ok (.ldc 128, 2) := by decide +kernel
theorem dX7_rest_40 : decode cX7_rest 40 = .ok (.ireturn, 1) := by decide +kernel
theorem dX7_rest_41 : decode cX7_rest 41 = .ok (.iload_n 2, 1) := by decide +kernel
theorem dX7_rest_42 : decode cX7_rest 42 = .ok (.ifCond .ne 8, 3) := by decide +kernel
theorem dX7_rest_45 : decode cX7_rest 45 = .ok (.ldc 82, 2) := by decide +kernel
theorem dX7_rest_47 : decode cX7_rest 47 = .ok (.goto 14, 3) := by decide +kernel
theorem dX7_rest_50 : decode cX7_rest 50 = .ok (.aload_n 0, 1) := by decide +kernel
theorem dX7_rest_51 : decode cX7_rest 51 = .ok (.getfield 49, 3) := by decide +kernel
theorem dX7_rest_54 : decode cX7_rest 54 = .ok (.iload_n 1, 1) := by decide +kernel
theorem dX7_rest_55 : decode cX7_rest 55 = .ok (.aaload, 1) := by decide +kernel
theorem dX7_rest_56 : decode cX7_rest 56 = .ok (.getfield 283, 3) := by decide +kernel
theorem dX7_rest_59 : decode cX7_rest 59 = .ok (.iload_n 2, 1) := by decide +kernel
theorem dX7_rest_60 : decode cX7_rest 60 = .ok (.irem, 1) := by decide +kernel
theorem dX7_rest_61 : decode cX7_rest 61 = .ok (.ireturn, 1) := by decide +kernel
theorem dX7_tell_0 : decode cX7_tell 0 = .ok (.aload_n 0, 1) := by decide +kernel
theorem dX7_tell_1 : decode cX7_tell 1 = .ok (.getfield 57, 3) := by decide +kernel
theorem dX7_tell_4 : decode cX7_tell 4 = .ok (.bipush 60, 2) := by decide +kernel
theorem dX7_tell_6 : decode cX7_tell 6 = .ok (.if_icmp .lt 6, 3) := by decide +kernel
theorem dX7_tell_9 : decode cX7_tell 9 = .ok (.ldc 86, 2) := by decide +kernel
theorem dX7_tell_11 : decode cX7_tell 11 = .ok (.ireturn, 1) := by decide +kernel
theorem dX7_tell_12 : decode cX7_tell 12 = .ok (.aload_n 0, 1) := by decide +kernel
theorem dX7_tell_13 : decode cX7_tell 13 = .ok (.getfield 53, 3) := by decide +kernel
theorem dX7_tell_16 : decode cX7_tell 16 = .ok (.aload_n 0, 1) := by decide +kernel
theorem dX7_tell_17 : decode cX7_tell 17 = .ok (.getfield 57, 3) := by decide +kernel
theorem dX7_tell_20 : decode cX7_tell 20 = .ok (.iload_n 1, 1) := by decide +kernel
theorem dX7_tell_21 : decode cX7_tell 21 = .ok (.iastore, 1) := by decide +kernel
theorem dX7_tell_22 : decode cX7_tell 22 = .ok (.aload_n 0, 1) := by decide +kernel
theorem dX7_tell_23 : decode cX7_tell 23 = .ok (.dup, 1) := by decide +kernel
theorem dX7_tell_24 : decode cX7_tell 24 = .ok (.getfield 57, 3) := by decide +kernel
theorem dX7_tell_27 : decode cX7_tell 27 = .ok (.iconst 1, 1) := by decide +kernel
theorem dX7_tell_28 : decode cX7_tell 28 = .ok (.iadd, 1) := by decide +kernel
theorem dX7_tell_29 : decode cX7_tell 29 = .ok (.putfield 57, 3) := by decide +kernel
theorem dX7_tell_32 : decode cX7_tell 32 = .ok (.aload_n 0, 1) := by decide +kernel
theorem dX7_tell_33 : decode cX7_tell 33 = .ok (.getfield 57, 3) := by decide +kernel
theorem dX7_tell_36 : decode cX7_tell 36 = .ok (.ireturn, 1) := by decide +kernel
theorem dX7_check_0 : decode cX7_check 0 = .ok (.aload_n 0, 1) := by decide +kernel
theorem dX7_check_1 : decode cX7_check 1 = .ok (.getfield 57, 3) := by decide +kernel
theorem dX7_check_4 : decode cX7_check 4 = .ok (.istore_n 2, 1) := by decide +kernel
theorem dX7_check_5 : decode cX7_check 5 = .ok (.aload_n 0, 1) := by decide +kernel
theorem dX7_check_6 : decode cX7_check 6 = .ok (.iconst 0, 1) := by decide +kernel
theorem dX7_check_7 : decode cX7_check 7 = .ok (.putfield 57, 3) := by decide +kernel
theorem dX7_check_10 : decode cX7_check 10 = .ok (.iload_n 1, 1) := by decide +kernel
theorem dX7_check_11 : decode cX7_check 11 = .ok (.iconst 1, 1) := by decide +kernel
theorem dX7_check_12 : decode cX7_check 12 = .ok (.bipush 30, 2) := by decide +kernel
theorem dX7_check_14 : decode cX7_check 14 = .ok (.invokestatic 72, 3) := by decide +kernel
theorem dX7_check_17 : decode cX7_check 17 = .ok (.ifCond .ne 6, 3) := by decide +kernel
theorem dX7_check_20 : decode cX7_check 20 = .ok (.ldc 76, 2) := by decide +kernel
theorem dX7_check_22 : decode cX7_check 22 = .ok (.ireturn, 1) := by decide +kernel
theorem dX7_check_23 : decode cX7_check 23 = .ok (.aload_n 0, 1) := by decide +kernel
theorem dX7_check_24 : decode cX7_check 24 = .ok (.getfield 22, 3) := by decide +kernel
theorem dX7_check_27 : decode cX7_check 27 = .ok (.ifCond .ne 6, 3) := by decide +kernel
theorem dX7_check_30 : decode cX7_check 30 = .ok (.ldc 82, 2) := by decide +kernel
theorem dX7_check_32 : decode cX7_check 32 = .ok (.ireturn, 1) := by decide +kernel
theorem dX7_check_33 : decode cX7_check 33 = .ok (.aload_n 0, 1) := by decide +kernel
theorem dX7_check_34 : decode cX7_check 34 = .ok (.getfield 19, 3) := by decide +kernel
theorem dX7_check_37 : decode cX7_check 37 = .ok (.aload_n 0, 1) := by decide +kernel
theorem dX7_check_38 : decode cX7_check 38 = .ok (.getfield 16, 3) := by decide +kernel
theorem dX7_check_41 : decode cX7_check 41 = .ok (.invokevirtual 178, 3) := by decide +kernel
theorem dX7_check_44 : decode cX7_check 44 = .ok (.iconst 2, 1) := by decide +kernel
theorem dX7_check_45 : decode cX7_check 45 = .ok (.iload_n 1, 1) := by decide +kernel
theorem dX7_check_46 : decode cX7_check 46 = .ok (.sipush 9999, 3) := by decide +kernel
theorem dX7_check_49 : decode cX7_check 49 = .ok (.aload_n 0, 1) := by decide +kernel
theorem dX7_check_50 : decode cX7_check 50 = .ok (.getfield 16, 3) := by decide +kernel
theorem dX7_check_53 : decode cX7_check 53 = .ok (.getfield 149, 3) := by decide +kernel
theorem dX7_check_56 : decode cX7_check 56 = .ok (.isub, 1) := by decide +kernel
theorem dX7_check_57 : decode cX7_check 57 = .ok (.invokestatic 135, 3) := by decide +kernel
theorem dX7_check_60 : decode cX7_check 60 = .ok (.imul, 1) := by decide +kernel
theorem dX7_check_61 : decode cX7_check 61 = .ok (.istore_n 3, 1) := by decide +kernel
theorem dX7_check_62 : decode cX7_check 62 = .ok (.iconst 0, 1) := by decide +kernel
theorem dX7_check_63 : decode cX7_check 63 = .ok (.istore 4, 2) := by decide +kernel
theorem dX7_check_65 : decode cX7_check 65 = .ok (.iload 4, 2) := by decide +kernel
theorem dX7_check_67 : decode cX7_check 67 = .ok (.iload_n 3, 1) := by decide +kernel
theorem dX7_check_68 : decode cX7_check 68 = .ok (.if_icmp .ge 75, 3) := by decide +kernel
theorem dX7_check_71 : decode cX7_check 71 = .ok (.iload 4, 2) := by decide +kernel
theorem dX7_check_73 : decode cX7_check 73 = .ok (.iconst 2, 1) := by decide +kernel
theorem dX7_check_74 : decode cX7_check 74 = .ok (.irem, 1) := by decide +kernel
theorem dX7_check_75 : decode cX7_check 75 = .ok (.ifCond .ne 11, 3) := by decide +kernel
theorem dX7_check_78 : decode cX7_check 78 = .ok (.aload_n 0, 1) := by decide +kernel
theorem dX7_check_79 : decode cX7_check 79 = .ok (.getfield 19, 3) := by decide +kernel
theorem dX7_check_82 : decode cX7_check 82 = .ok (.invokevirtual 152, 3) := by decide +kernel
theorem dX7_check_85 : decode cX7_check 85 = .ok (.pop, 1) := by decide +kernel
theorem dX7_check_86 : decode cX7_check 86 = .ok (.iload 4, 2) := by decide +kernel
theorem dX7_check_88 : decode cX7_check 88 = .ok (.iconst 2, 1) := by decide +kernel
theorem dX7_check_89 : decode cX7_check 89 = .ok (.irem, 1) := by decide +kernel
theorem dX7_check_90 : decode cX7_check 90 = .ok (.ifCond .ne 15, 3) := by decide +kernel
theorem dX7_check_93 : decode cX7_check 93 = .ok (.aload_n 0, 1) := by decide +kernel
theorem dX7_check_94 : decode cX7_check 94 = .ok (.getfield 19, 3) := by decide +kernel
theorem dX7_check_97 : decode cX7_check 97 = .ok (.getfield 156, 3) := by decide +kernel
theorem dX7_check_100 : decode cX7_check 100 = .ok (.iconst 0, 1) := by decide +kernel
theorem dX7_check_101 : decode cX7_check 101 = .ok (.iaload, 1) := by decide +kernel
theorem dX7_check_102 : decode cX7_check 102 = .ok (.goto 10, 3) := by decide +kernel
theorem dX7_check_105 : decode cX7_check 105 = .ok (.aload_n 0, 1) := by decide +kernel
theorem dX7_check_106 : decode cX7_check 106 = .ok (.getfield 19, 3) := by decide +kernel
theorem dX7_check_109 : decode cX7_check 109 = .ok (.invokevirtual 169, 3) := by decide +kernel
theorem dX7_check_112 : decode cX7_check 112 = .ok (.istore 5, 2) := by decide +kernel
theorem dX7_check_114 : decode cX7_check 114 = .ok (.iload 4, 2) := by decide +kernel
theorem dX7_check_116 : decode cX7_check 116 = .ok (.iload_n 2, 1) := by decide +kernel
theorem dX7_check_117 : decode cX7_check 117 = .ok (.if_icmp .ge 15, 3) := by decide +kernel
theorem dX7_check_120 : decode cX7_check 120 = .ok (.aload_n 0, 1) := by decide +kernel
theorem dX7_check_121 : decode cX7_check 121 = .ok (.getfield 53, 3) := by decide +kernel
theorem dX7_check_124 : decode cX7_check 124 = .ok (.iload 4, 2) := by decide +kernel
theorem dX7_check_126 : decode cX7_check 126 = .ok (.iaload, 1) := by decide +kernel
theorem dX7_check_127 : decode cX7_check 127 = .ok (.iload 5, 2) := by decide +kernel
theorem dX7_check_129 : decode cX7_check 129 = .ok (.if_icmp .eq 8, 3) := by decide +kernel
theorem dX7_check_132 : decode cX7_check 132 = .ok (.iconst 1, 1) := by decide +kernel
theorem dX7_check_133 : decode cX7_check 133 = .ok (.iload 4, 2) := by decide +kernel
theorem dX7_check_135 : decode cX7_check 135 = .ok (.iadd, 1) := by decide +kernel
theorem dX7_check_136 : decode cX7_check 136 = .ok (.ireturn, 1) := by decide +kernel
theorem dX7_check_137 : decode cX7_check 137 = .ok (.iinc 4 1, 3) := by decide +kernel
theorem dX7_check_140 : decode cX7_check 140 = .ok (.goto (-75), 3) := by decide +kernel
theorem dX7_check_143 : decode cX7_check 143 = .ok (.iload_n 2, 1) := by decide +kernel
theorem dX7_check_144 : decode cX7_check 144 = .ok (.iload_n 3, 1) := by decide +kernel
theorem dX7_check_145 : decode cX7_check 145 = .ok (.if_icmp .le 9, 3) := by decide +kernel
theorem dX7_check_148 : decode cX7_check 148 = .ok (.iconst 1, 1) := by decide +kernel
theorem dX7_check_149 : decode cX7_check 149 = .ok (.iload_n 3, 1) := by decide +kernel
theorem dX7_check_150 : decode cX7_check 150 = .ok (.iadd, 1) := by decide +kernel
theorem dX7_check_151 : decode cX7_check 151 = .ok (.goto 4, 3) := by decide +kernel
theorem dX7_check_154 : decode cX7_check 154 = .ok (.iconst 0, 1) := by decide +kernel
theorem dX7_check_155 : decode cX7_check 155 = .ok (.ireturn, 1) := by decide +kernel
theorem dX7_keep_0 : decode cX7_keep 0 = .ok (.aload_n 0, 1) := by decide +kernel
theorem dX7_keep_1 : decode cX7_keep 1 = .ok (.getfield 16, 3) := by decide +kernel
theorem dX7_keep_4 : decode cX7_keep 4 = .ok (.aload_n 0, 1) := by decide +kernel
theorem dX7_keep_5 : decode cX7_keep 5 = .ok (.getfield 10, 3) := by decide +kernel
theorem dX7_keep_8 : decode cX7_keep 8 = .ok (.invokevirtual 178, 3) := by decide +kernel
theorem dX7_keep_11 : decode cX7_keep 11 = .ok (.aload_n 0, 1) := by decide +kernel
theorem dX7_keep_12 : decode cX7_keep 12 = .ok (.iconst 1, 1) := by decide +kernel
theorem dX7_keep_13 : decode cX7_keep 13 = .ok (.putfield 22, 3) := by decide +kernel
theorem dX7_keep_16 : decode cX7_keep 16 = .ok (.aload_n 0, 1) := by decide +kernel
theorem dX7_keep_17 : decode cX7_keep 17 = .ok (.getfield 16, 3) := by decide +kernel
theorem dX7_keep_20 : decode cX7_keep 20 = .ok (.getfield 83, 3) := by decide +kernel
theorem dX7_keep_23 : decode cX7_keep 23 = .ok (.ireturn, 1) := by decide +kernel
theorem dX7_back_0 : decode cX7_back 0 = .ok (.aload_n 0, 1) := by decide +kernel
theorem dX7_back_1 : decode cX7_back 1 = .ok (.getfield 22, 3) := by decide +kernel
theorem dX7_back_4 : decode cX7_back 4 = .ok (.ifCond .ne 6, 3) := by decide +kernel
theorem dX7_back_7 : decode cX7_back 7 = .ok (.ldc 82, 2) := by decide +kernel
theorem dX7_back_9 : decode cX7_back 9 = .ok (.ireturn, 1) := by decide +kernel
theorem dX7_back_10 : decode cX7_back 10 = .ok (.aload_n 0, 1) := by decide +kernel
theorem dX7_back_11 : decode cX7_back 11 = .ok (.getfield 10, 3) := by decide +kernel
theorem dX7_back_14 : decode cX7_back 14 = .ok (.aload_n 0, 1) := by decide +kernel
theorem dX7_back_15 : decode cX7_back 15 = .ok (.getfield 16, 3) := by decide +kernel
theorem dX7_back_18 : decode cX7_back 18 = .ok (.invokevirtual 178, 3) := by decide +kernel
theorem dX7_back_21 : decode cX7_back 21 = .ok (.aload_n 0, 1) := by decide +kernel
theorem dX7_back_22 : decode cX7_back 22 = .ok (.getfield 10, 3) := by decide +kernel
theorem dX7_back_25 : decode cX7_back 25 = .ok (.getfield 83, 3) := by decide +kernel
theorem dX7_back_28 : decode cX7_back 28 = .ok (.ireturn, 1) := by decide +kernel
theorem dX7_count_0 : decode cX7_count 0 = .ok (.iload_n 1, 1) := by decide +kernel
theorem dX7_count_1 : decode cX7_count 1 = .ok (.tableswitch 140 0 9 #[55, 63, 71, 81, 91, 101, 111, 122, 127, 132], 55) := by decide +kernel
theorem dX7_count_56 : decode cX7_count 56 = .ok (.aload_n 0, 1) := by decide +kernel
theorem dX7_count_57 : decode cX7_count 57 = .ok (.getfield 10, 3) := by decide +kernel
theorem dX7_count_60 : decode cX7_count 60 = .ok (.getfield 83, 3) := by decide +kernel
theorem dX7_count_63 : decode cX7_count 63 = .ok (.ireturn, 1) := by decide +kernel
theorem dX7_count_64 : decode cX7_count 64 = .ok (.aload_n 0, 1) := by decide +kernel
theorem dX7_count_65 : decode cX7_count 65 = .ok (.getfield 10, 3) := by decide +kernel
theorem dX7_count_68 : decode cX7_count 68 = .ok (.getfield 149, 3) := by decide +kernel
theorem dX7_count_71 : decode cX7_count 71 = .ok (.ireturn, 1) := by decide +kernel
theorem dX7_count_72 : decode cX7_count 72 = .ok (.aload_n 0, 1) := by decide +kernel
theorem dX7_count_73 : decode cX7_count 73 = .ok (.getfield 10, 3) := by decide +kernel
theorem dX7_count_76 : decode cX7_count 76 = .ok (.getfield 132, 3) := by decide +kernel
theorem dX7_count_79 : decode cX7_count 79 = .ok (.iconst 0, 1) := by decide +kernel
theorem dX7_count_80 : decode cX7_count 80 = .ok (.iaload, 1) := by decide +kernel
theorem dX7_count_81 : decode cX7_count 81 = .ok (.ireturn, 1) := by decide +kernel
theorem dX7_count_82 : decode cX7_count 82 = .ok (.aload_n 0, 1) := by decide +kernel
theorem dX7_count_83 : decode cX7_count 83 = .ok (.getfield 10, 3) := by decide +kernel
theorem dX7_count_86 : decode cX7_count 86 = .ok (.getfield 132, 3) := by decide +kernel
theorem dX7_count_89 : decode cX7_count 89 = .ok (.iconst 1, 1) := by decide +kernel
theorem dX7_count_90 : decode cX7_count 90 = .ok (.iaload, 1) := by decide +kernel
theorem dX7_count_91 : decode cX7_count 91 = .ok (.ireturn, 1) := by decide +kernel
theorem dX7_count_92 : decode cX7_count 92 = .ok (.aload_n 0, 1) := by decide +kernel
theorem dX7_count_93 : decode cX7_count 93 = .ok (.getfield 10, 3) := by decide +kernel
theorem dX7_count_96 : decode cX7_count 96 = .ok (.getfield 132, 3) := by decide +kernel
theorem dX7_count_99 : decode cX7_count 99 = .ok (.iconst 2, 1) := by decide +kernel
theorem dX7_count_100 : decode cX7_count 100 = .ok (.iaload, 1) := by decide +kernel
theorem dX7_count_101 : decode cX7_count 101 = .ok (.ireturn, 1) := by decide +kernel
theorem dX7_count_102 : decode cX7_count 102 = .ok (.aload_n 0, 1) := by decide +kernel
theorem dX7_count_103 : decode cX7_count 103 = .ok (.getfield 10, 3) := by decide +kernel
theorem dX7_count_106 : decode cX7_count 106 = .ok (.getfield 132, 3) := by decide +kernel
theorem dX7_count_109 : decode cX7_count 109 = .ok (.iconst 3, 1) := by decide +kernel
theorem dX7_count_110 : decode cX7_count 110 = .ok (.iaload, 1) := by decide +kernel
theorem dX7_count_111 : decode cX7_count 111 = .ok (.ireturn, 1) := by decide +kernel
theorem dX7_count_112 : decode cX7_count 112 = .ok (.aload_n 0, 1) := by decide +kernel
theorem dX7_count_113 : decode cX7_count 113 = .ok (.getfield 10, 3) := by decide +kernel
theorem dX7_count_116 : decode cX7_count 116 = .ok (.getfield 199, 3) := by decide +kernel
theorem dX7_count_119 : decode cX7_count 119 = .ok (.getfield 286, 3) := by decide +kernel
theorem dX7_count_122 : decode cX7_count 122 = .ok (.ireturn, 1) := by decide +kernel
theorem dX7_count_123 : decode cX7_count 123 = .ok (.aload_n 0, 1) := by decide +kernel
theorem dX7_count_124 : decode cX7_count 124 = .ok (.getfield 57, 3) := by decide +kernel
theorem dX7_count_127 : decode cX7_count 127 = .ok (.ireturn, 1) := by decide +kernel
theorem dX7_count_128 : decode cX7_count 128 = .ok (.aload_n 0, 1) := by decide +kernel
theorem dX7_count_129 : decode cX7_count 129 = .ok (.getfield 37, 3) := by decide +kernel
theorem dX7_count_132 : decode cX7_count 132 = .ok (.ireturn, 1) := by decide +kernel
theorem dX7_count_133 : decode cX7_count 133 = .ok (.aload_n 0, 1) := by decide +kernel
theorem dX7_count_134 : decode cX7_count 134 = .ok (.getfield 10, 3) := by decide +kernel
theorem dX7_count_137 : decode cX7_count 137 = .ok (.getfield 143, 3) := by decide +kernel
theorem dX7_count_140 : decode cX7_count 140 = .ok (.ireturn, 1) := by decide +kernel
theorem dX7_count_141 : decode cX7_count 141 = .ok (.ldc 76, 2) := by decide +kernel
theorem dX7_count_143 : decode cX7_count 143 = .ok (.ireturn, 1) := by decide +kernel
theorem dX7_isGuard_0 : decode cX7_isGuard 0 = .ok (.iload_n 1, 1) := by decide +kernel
theorem dX7_isGuard_1 : decode cX7_isGuard 1 = .ok (.iconst 0, 1) := by decide +kernel
theorem dX7_isGuard_2 : decode cX7_isGuard 2 = .ok (.aload_n 0, 1) := by decide +kernel
theorem dX7_isGuard_3 : decode cX7_isGuard 3 = .ok (.getfield 10, 3) := by decide +kernel
theorem dX7_isGuard_6 : decode cX7_isGuard 6 = .ok (.getfield 83, 3) := by decide +kernel
theorem dX7_isGuard_9 : decode cX7_isGuard 9 = .ok (.iconst 1, 1) := by decide +kernel
theorem dX7_isGuard_10 : decode cX7_isGuard 10 = .ok (.isub, 1) := by decide +kernel
theorem dX7_isGuard_11 : decode cX7_isGuard 11 = .ok (.invokestatic 72, 3) := by decide +kernel
theorem dX7_isGuard_14 : decode cX7_isGuard 14 = .ok (.ireturn, 1) := by decide +kernel
theorem dX7_isKind_0 : decode cX7_isKind 0 = .ok (.iload_n 0, 1) := by decide +kernel
theorem dX7_isKind_1 : decode cX7_isKind 1 = .ok (.iconst 0, 1) := by decide +kernel
theorem dX7_isKind_2 : decode cX7_isKind 2 = .ok (.iconst 5, 1) := by decide +kernel
theorem dX7_isKind_3 : decode cX7_isKind 3 = .ok (.invokestatic 72, 3) := by decide +kernel
theorem dX7_isKind_6 : decode cX7_isKind 6 = .ok (.ireturn, 1) := by decide +kernel
theorem dX7_isPost_0 : decode cX7_isPost 0 = .ok (.iload_n 0, 1) := by decide +kernel
theorem dX7_isPost_1 : decode cX7_isPost 1 = .ok (.iconst 0, 1) := by decide +kernel
theorem dX7_isPost_2 : decode cX7_isPost 2 = .ok (.bipush 19, 2) := by decide +kernel
theorem dX7_isPost_4 : decode cX7_isPost 4 = .ok (.invokestatic 72, 3) := by decide +kernel
theorem dX7_isPost_7 : decode cX7_isPost 7 = .ok (.ireturn, 1) := by decide +kernel
theorem dX7_isSheet_0 : decode cX7_isSheet 0 = .ok (.iload_n 0, 1) := by decide +kernel
theorem dX7_isSheet_1 : decode cX7_isSheet 1 = .ok (.iconst 0, 1) := by decide +kernel
theorem dX7_isSheet_2 : decode cX7_isSheet 2 = .ok (.iconst 3, 1) := by decide +kernel
theorem dX7_isSheet_3 : decode cX7_isSheet 3 = .ok (.invokestatic 72, 3) := by decide +kernel
theorem dX7_isSheet_6 : decode cX7_isSheet 6 = .ok (.ireturn, 1) := by decide +kernel
theorem dX7_isSlot_0 : decode cX7_isSlot 0 = .ok (.iload_n 0, 1) := by decide +kernel
theorem dX7_isSlot_1 : decode cX7_isSlot 1 = .ok (.iconst 0, 1) := by decide +kernel
theorem dX7_isSlot_2 : decode cX7_isSlot 2 = .ok (.iconst 4, 1) := by decide +kernel
theorem dX7_isSlot_3 : decode cX7_isSlot 3 = .ok (.invokestatic 72, 3) := by decide +kernel
theorem dX7_isSlot_6 : decode cX7_isSlot 6 = .ok (.ireturn, 1) := by decide +kernel
theorem dX7_isWithin_0 : decode cX7_isWithin 0 = .ok (.iload_n 0, 1) := by decide +kernel
theorem dX7_isWithin_1 : decode cX7_isWithin 1 = .ok (.iload_n 1, 1) := by decide +kernel
theorem dX7_isWithin_2 : decode cX7_isWithin 2 = .ok (.if_icmp .lt 12, 3) := by decide +kernel
theorem dX7_isWithin_5 : decode cX7_isWithin 5 = .ok (.iload_n 0, 1) := by decide +kernel
theorem dX7_isWithin_6 : decode cX7_isWithin 6 = .ok (.iload_n 2, 1) := by decide +kernel
theorem dX7_isWithin_7 : decode cX7_isWithin 7 = .ok (.if_icmp .gt 7, 3) := by decide +kernel
theorem dX7_isWithin_10 : decode cX7_isWithin 10 = .ok (.iconst 1, 1) := by decide +kernel
theorem dX7_isWithin_11 : decode cX7_isWithin 11 = .ok (.goto 4, 3) := by decide +kernel
theorem dX7_isWithin_14 : decode cX7_isWithin 14 = .ok (.iconst 0, 1) := by decide +kernel
theorem dX7_isWithin_15 : decode cX7_isWithin 15 = .ok (.ireturn, 1) := by decide +kernel
theorem dX7_heldWithin99_0 : decode cX7_heldWithin99 0 = .ok (.iconst 0, 1) := by decide +kernel
theorem dX7_heldWithin99_1 : decode cX7_heldWithin99 1 = .ok (.bipush 99, 2) := by decide +kernel
theorem dX7_heldWithin99_3 : decode cX7_heldWithin99 3 = .ok (.iload_n 0, 1) := by decide +kernel
theorem dX7_heldWithin99_4 : decode cX7_heldWithin99 4 = .ok (.invokestatic 135, 3) := by decide +kernel
theorem dX7_heldWithin99_7 : decode cX7_heldWithin99 7 = .ok (.invokestatic 289, 3) := by decide +kernel
theorem dX7_heldWithin99_10 : decode cX7_heldWithin99 10 = .ok (.ireturn, 1) := by decide +kernel
theorem dX7_countedBehind_0 : decode cX7_countedBehind 0 = .ok (.iconst 0, 1) := by decide +kernel
theorem dX7_countedBehind_1 : decode cX7_countedBehind 1 = .ok (.istore_n 2, 1) := by decide +kernel
theorem dX7_countedBehind_2 : decode cX7_countedBehind 2 = .ok (.iload_n 2, 1) := by decide +kernel
theorem dX7_countedBehind_3 : decode cX7_countedBehind 3 = .ok (.iload_n 1, 1) := by decide +kernel
theorem dX7_countedBehind_4 : decode cX7_countedBehind 4 = .ok (.if_icmp .ge 17, 3) := by decide +kernel
theorem dX7_countedBehind_7 : decode cX7_countedBehind 7 = .ok (.aload_n 0, 1) := by decide +kernel
theorem dX7_countedBehind_8 : decode cX7_countedBehind 8 = .ok (.getfield 19, 3) := by decide +kernel
theorem dX7_countedBehind_11 : decode cX7_countedBehind 11 = .ok (.invokevirtual 152, 3) := by decide +kernel
theorem dX7_countedBehind_14 : decode cX7_countedBehind 14 = .ok (.pop, 1) := by decide +kernel
theorem dX7_countedBehind_15 : decode cX7_countedBehind 15 = .ok (.iinc 2 1, 3) := by decide +kernel
theorem dX7_countedBehind_18 : decode cX7_countedBehind 18 = .ok (.goto (-16), 3) := by decide +kernel
theorem dX7_countedBehind_21 : decode cX7_countedBehind 21 = .ok (.aload_n 0, 1) := by decide +kernel
theorem dX7_countedBehind_22 : decode cX7_countedBehind 22 = .ok (.getfield 19, 3) := by decide +kernel
theorem dX7_countedBehind_25 : decode cX7_countedBehind 25 = .ok (.invokevirtual 159, 3) := by decide +kernel
theorem dX7_countedBehind_28 : decode cX7_countedBehind 28 = .ok (.ireturn, 1) := by decide +kernel
theorem dX7_firstRaid_0 : decode cX7_firstRaid 0 = .ok (.iconst 1, 1) := by decide +kernel
theorem dX7_firstRaid_1 : decode cX7_firstRaid 1 = .ok (.istore_n 2, 1) := by decide +kernel
theorem dX7_firstRaid_2 : decode cX7_firstRaid 2 = .ok (.iload_n 2, 1) := by decide +kernel
theorem dX7_firstRaid_3 : decode cX7_firstRaid 3 = .ok (.iload_n 1, 1) := by decide +kernel
theorem dX7_firstRaid_4 : decode cX7_firstRaid 4 = .ok (.if_icmp .gt 21, 3) := by decide +kernel
theorem dX7_firstRaid_7 : decode cX7_firstRaid 7 = .ok (.aload_n 0, 1) := by decide +kernel
theorem dX7_firstRaid_8 : decode cX7_firstRaid 8 = .ok (.getfield 19, 3) := by decide +kernel
theorem dX7_firstRaid_11 : decode cX7_firstRaid 11 = .ok (.invokevirtual 152, 3) := by decide +kernel
theorem dX7_firstRaid_14 : decode cX7_firstRaid 14 = .ok (.ifCond .eq 5, 3) := by decide +kernel
theorem dX7_firstRaid_17 : decode cX7_firstRaid 17 = .ok (.iload_n 2, 1) := by decide +kernel
theorem dX7_firstRaid_18 : decode cX7_firstRaid 18 = .ok (.ireturn, 1) := by decide +kernel
theorem dX7_firstRaid_19 : decode cX7_firstRaid 19 = .ok (.iinc 2 1, 3) := by decide +kernel
theorem dX7_firstRaid_22 : decode cX7_firstRaid 22 = .ok (.goto (-20), 3) := by decide +kernel
theorem dX7_firstRaid_25 : decode cX7_firstRaid 25 = .ok (.iconst 0, 1) := by decide +kernel
theorem dX7_firstRaid_26 : decode cX7_firstRaid 26 = .ok (.ireturn, 1) := by decide +kernel
theorem dX7_sumDifferences_0 : decode cX7_sumDifferences 0 = .ok (.aload_n 0, 1) := by decide +kernel
theorem dX7_sumDifferences_1 : decode cX7_sumDifferences 1 = .ok (.getfield 60, 3) := by decide +kernel
theorem dX7_sumDifferences_4 : decode cX7_sumDifferences 4 = .ok (.iconst 0, 1) := by decide +kernel
theorem dX7_sumDifferences_5 : decode cX7_sumDifferences 5 = .ok (.invokestatic 292, 3) := by decide +kernel
theorem dX7_sumDifferences_8 : decode cX7_sumDifferences 8 = .ok (.aload_n 0, 1) := by decide +kernel
theorem dX7_sumDifferences_9 : decode cX7_sumDifferences 9 = .ok (.getfield 19, 3) := by decide +kernel
theorem dX7_sumDifferences_12 : decode cX7_sumDifferences 12 = .ok (.aload_n 0, 1) := by decide +kernel
theorem dX7_sumDifferences_13 : decode cX7_sumDifferences 13 = .ok (.getfield 10, 3) := by decide +kernel
theorem dX7_sumDifferences_16 : decode cX7_sumDifferences 16 = .ok (.invokevirtual 178, 3) := by decide +kernel
theorem dX7_sumDifferences_19 : decode cX7_sumDifferences 19 = .ok (.iconst 0, 1) := by decide +kernel
theorem dX7_sumDifferences_20 : decode cX7_sumDifferences 20 = .ok (.istore_n 2, 1) := by decide +kernel
theorem dX7_sumDifferences_21 : decode cX7_sumDifferences 21 = .ok (.iload_n 2, 1) := by decide +kernel
theorem dX7_sumDifferences_22 : decode cX7_sumDifferences 22 = .ok (.aload_n 1, 1) := by decide +kernel
theorem dX7_sumDifferences_23 : decode cX7_sumDifferences 23 = .ok (.getfield 243, 3) := by decide +kernel
theorem dX7_sumDifferences_26 : decode cX7_sumDifferences 26 = .ok (.if_icmp .ge 72, 3) := by decide +kernel
theorem dX7_sumDifferences_29 : decode cX7_sumDifferences 29 = .ok (.aload_n 1, 1) := by decide +kernel
theorem dX7_sumDifferences_30 : decode cX7_sumDifferences 30 = .ok (.iload_n 2, 1) := by decide +kernel
theorem dX7_sumDifferences_31 : decode cX7_sumDifferences 31 = .ok (.invokevirtual 252, 3) := by decide +kernel
theorem dX7_sumDifferences_34 : decode cX7_sumDifferences 34 = .ok (.ifCond .eq 50, 3) := by decide +kernel
theorem dX7_sumDifferences_37 : decode cX7_sumDifferences 37 = .ok (.iconst 0, 1) := by decide +kernel
theorem dX7_sumDifferences_38 : decode cX7_sumDifferences 38 = .ok (.istore_n 3, 1) := by decide +kernel
theorem dX7_sumDifferences_39 : decode cX7_sumDifferences 39 = .ok (.iload_n 3, 1) := by decide +kernel
theorem dX7_sumDifferences_40 : decode cX7_sumDifferences 40 = .ok (.aload_n 0, 1) := by decide +kernel
theorem dX7_sumDifferences_41 : decode cX7_sumDifferences 41 = .ok (.getfield 19, 3) := by decide +kernel
theorem dX7_sumDifferences_44 : decode cX7_sumDifferences 44 = .ok (.getfield 83, 3) := by decide +kernel
theorem dX7_sumDifferences_47 : decode cX7_sumDifferences 47 = .ok (.if_icmp .ge 37, 3) := by decide +kernel
theorem dX7_sumDifferences_50 : decode cX7_sumDifferences 50 = .ok (.aload_n 0, 1) := by decide +kernel
theorem dX7_sumDifferences_51 : decode cX7_sumDifferences 51 = .ok (.getfield 60, 3) := by decide +kernel
theorem dX7_sumDifferences_54 : decode cX7_sumDifferences 54 = .ok (.iload_n 3, 1) := by decide +kernel
theorem dX7_sumDifferences_55 : decode cX7_sumDifferences 55 = .ok (.dup2, 1) := by decide +kernel
theorem dX7_sumDifferences_56 : decode cX7_sumDifferences 56 = .ok (.iaload, 1) := by decide +kernel
theorem dX7_sumDifferences_57 : decode cX7_sumDifferences 57 = .ok (.aload_n 0, 1) := by decide +kernel
theorem dX7_sumDifferences_58 : decode cX7_sumDifferences 58 = .ok (.getfield 19, 3) := by decide +kernel
theorem dX7_sumDifferences_61 : decode cX7_sumDifferences 61 = .ok (.getfield 103, 3) := by decide +kernel
theorem dX7_sumDifferences_64 : decode cX7_sumDifferences 64 = .ok (.iload_n 3, 1) := by decide +kernel
theorem dX7_sumDifferences_65 : decode cX7_sumDifferences 65 = .ok (.iaload, 1) := by decide +kernel
theorem dX7_sumDifferences_66 : decode cX7_sumDifferences 66 = .ok (.aload_n 1, 1) := by decide +kernel
theorem dX7_sumDifferences_67 : decode cX7_sumDifferences 67 = .ok (.getfield 247, 3) := by decide +kernel
theorem dX7_sumDifferences_70 : decode cX7_sumDifferences 70 = .ok (.iload_n 2, 1) := by decide +kernel
theorem dX7_sumDifferences_71 : decode cX7_sumDifferences 71 = .ok (.iaload, 1) := by decide +kernel
theorem dX7_sumDifferences_72 : decode cX7_sumDifferences 72 = .ok (.isub, 1) := by decide +kernel
theorem dX7_sumDifferences_73 : decode cX7_sumDifferences 73 = .ok (.invokestatic 298, 3) := by decide +kernel
theorem dX7_sumDifferences_76 : decode cX7_sumDifferences 76 = .ok (.iadd, 1) := by decide +kernel
theorem dX7_sumDifferences_77 : decode cX7_sumDifferences 77 = .ok (.iastore, 1) := by decide +kernel
theorem dX7_sumDifferences_78 : decode cX7_sumDifferences 78 = .ok (.iinc 3 1, 3) := by decide +kernel
theorem dX7_sumDifferences_81 : decode cX7_sumDifferences 81 = .ok (.goto (-42), 3) := by decide +kernel
theorem dX7_sumDifferences_84 : decode cX7_sumDifferences 84 = .ok (.aload_n 0, 1) := by decide +kernel
theorem dX7_sumDifferences_85 : decode cX7_sumDifferences 85 = .ok (.getfield 19, 3) := by decide +kernel
theorem dX7_sumDifferences_88 : decode cX7_sumDifferences 88 = .ok (.invokevirtual 152, 3) := by decide +kernel
theorem dX7_sumDifferences_91 : decode cX7_sumDifferences 91 = .ok (.pop, 1) := by decide +kernel
theorem dX7_sumDifferences_92 : decode cX7_sumDifferences 92 = .ok (.iinc 2 1, 3) := by decide +kernel
theorem dX7_sumDifferences_95 : decode cX7_sumDifferences 95 = .ok (.goto (-74), 3) := by decide +kernel
theorem dX7_sumDifferences_98 : decode cX7_sumDifferences 98 = .ok (.return_, 1) := by decide +kernel
theorem dX7_tapeNumber_0 : decode cX7_tapeNumber 0 = .ok (.bipush 24, 2) := by decide +kernel
theorem dX7_tapeNumber_2 : decode cX7_tapeNumber 2 = .ok (.istore_n 2, 1) := by decide +kernel
theorem dX7_tapeNumber_3 : decode cX7_tapeNumber 3 = .ok (.iload_n 2, 1) := by decide +kernel
theorem dX7_tapeNumber_4 : decode cX7_tapeNumber 4 = .ok (.ifCond .lt 41, 3) := by decide +kernel
theorem dX7_tapeNumber_7 : decode cX7_tapeNumber 7 = .ok (.aload_n 0, 1) := by decide +kernel
theorem dX7_tapeNumber_8 : decode cX7_tapeNumber 8 = .ok (.getfield 37, 3) := by decide +kernel
theorem dX7_tapeNumber_11 : decode cX7_tapeNumber 11 = .ok (.bipush 96, 2) := by decide +kernel
theorem dX7_tapeNumber_13 : decode cX7_tapeNumber 13 = .ok (.if_icmp .ge 32, 3) := by decide +kernel
theorem dX7_tapeNumber_16 : decode cX7_tapeNumber 16 = .ok (.aload_n 0, 1) := by decide +kernel
theorem dX7_tapeNumber_17 : decode cX7_tapeNumber 17 = .ok (.getfield 33, 3) := by decide +kernel
theorem dX7_tapeNumber_20 : decode cX7_tapeNumber 20 = .ok (.aload_n 0, 1) := by decide +kernel
theorem dX7_tapeNumber_21 : decode cX7_tapeNumber 21 = .ok (.getfield 37, 3) := by decide +kernel
theorem dX7_tapeNumber_24 : decode cX7_tapeNumber 24 = .ok (.iload_n 1, 1) := by decide +kernel
theorem dX7_tapeNumber_25 : decode cX7_tapeNumber 25 = .ok (.iload_n 2, 1) := by decide +kernel
theorem dX7_tapeNumber_26 : decode cX7_tapeNumber 26 = .ok (.iushr, 1) := by decide +kernel
theorem dX7_tapeNumber_27 : decode cX7_tapeNumber 27 = .ok (.i2b, 1) := by decide +kernel
theorem dX7_tapeNumber_28 : decode cX7_tapeNumber 28 = .ok (.bastore, 1) := by decide +kernel
theorem dX7_tapeNumber_29 : decode cX7_tapeNumber 29 = .ok (.aload_n 0, 1) := by decide +kernel
theorem dX7_tapeNumber_30 : decode cX7_tapeNumber 30 = .ok (.dup, 1) := by decide +kernel
theorem dX7_tapeNumber_31 : decode cX7_tapeNumber 31 = .ok (.getfield 37, 3) := by decide +kernel
theorem dX7_tapeNumber_34 : decode cX7_tapeNumber 34 = .ok (.iconst 1, 1) := by decide +kernel
theorem dX7_tapeNumber_35 : decode cX7_tapeNumber 35 = .ok (.iadd, 1) := by decide +kernel
theorem dX7_tapeNumber_36 : decode cX7_tapeNumber 36 = .ok (.putfield 37, 3) := by decide +kernel
theorem dX7_tapeNumber_39 : decode cX7_tapeNumber 39 = .ok (.iinc 2 (-8), 3) := by decide +kernel
theorem dX7_tapeNumber_42 : decode cX7_tapeNumber 42 = .ok (.goto (-39), 3) := by decide +kernel
theorem dX7_tapeNumber_45 : decode cX7_tapeNumber 45 = .ok (.return_, 1) := by decide +kernel
theorem dX8_init_0 : decode cX8_init 0 = .ok (.aload_n 0, 1) := by decide +kernel
theorem dX8_init_1 : decode cX8_init 1 = .ok (.invokespecial 1, 3) := by decide +kernel
theorem dX8_init_4 : decode cX8_init 4 = .ok (.aload_n 0, 1) := by decide +kernel
theorem dX8_init_5 : decode cX8_init 5 = .ok (.sipush 3062, 3) := by decide +kernel
theorem dX8_init_8 : decode cX8_init 8 = .ok (.newarray .int, 2) := by decide +kernel
theorem dX8_init_10 : decode cX8_init 10 = .ok (.putfield 7, 3) := by decide +kernel
theorem dX8_init_13 : decode cX8_init 13 = .ok (.aload_n 0, 1) := by decide +kernel
theorem dX8_init_14 : decode cX8_init 14 = .ok (.sipush 3062, 3) := by decide +kernel
theorem dX8_init_17 : decode cX8_init 17 = .ok (.newarray .int, 2) := by decide +kernel
theorem dX8_init_19 : decode cX8_init 19 = .ok (.putfield 13, 3) := by decide +kernel
theorem dX8_init_22 : decode cX8_init 22 = .ok (.aload_n 0, 1) := by decide +kernel
theorem dX8_init_23 : decode cX8_init 23 = .ok (.sipush 3062, 3) := by decide +kernel
theorem dX8_init_26 : decode cX8_init 26 = .ok (.newarray .int, 2) := by decide +kernel
theorem dX8_init_28 : decode cX8_init 28 = .ok (.putfield 16, 3) := by decide +kernel
theorem dX8_init_31 : decode cX8_init 31 = .ok (.aload_n 0, 1) := by decide +kernel
theorem dX8_init_32 : decode cX8_init 32 = .ok (.iconst 4, 1) := by decide +kernel
theorem dX8_init_33 : decode cX8_init 33 = .ok (.newarray .int, 2) := by decide +kernel
theorem dX8_init_35 : decode cX8_init 35 = .ok (.putfield 19, 3) := by decide +kernel
theorem dX8_init_38 : decode cX8_init 38 = .ok (.aload_n 0, 1) := by decide +kernel
theorem dX8_init_39 : decode cX8_init 39 = .ok (.iconst 4, 1) := by decide +kernel
theorem dX8_init_40 : decode cX8_init 40 = .ok (.newarray .int, 2) := by decide +kernel
theorem dX8_init_42 : decode cX8_init 42 = .ok (.putfield 22, 3) := by decide +kernel
theorem dX8_init_45 : decode cX8_init 45 = .ok (.aload_n 0, 1) := by decide +kernel
theorem dX8_init_46 : decode cX8_init 46 = .ok (.bipush 96, 2) := by decide +kernel
theorem dX8_init_48 : decode cX8_init 48 = .ok (.newarray .int, 2) := by decide +kernel
theorem dX8_init_50 : decode cX8_init 50 = .ok (.putfield 25, 3) := by decide +kernel
theorem dX8_init_53 : decode cX8_init 53 = .ok (.aload_n 0, 1) := by decide +kernel
theorem dX8_init_54 : decode cX8_init 54 = .ok (.iconst 5, 1) := by decide +kernel
theorem dX8_init_55 : decode cX8_init 55 = .ok (.newarray .int, 2) := by decide +kernel
theorem dX8_init_57 : decode cX8_init 57 = .ok (.putfield 28, 3) := by decide +kernel
theorem dX8_init_60 : decode cX8_init 60 = .ok (.aload_n 0, 1) := by decide +kernel
theorem dX8_init_61 : decode cX8_init 61 = .ok (.iconst 5, 1) := by decide +kernel
theorem dX8_init_62 : decode cX8_init 62 = .ok (.newarray .int, 2) := by decide +kernel
theorem dX8_init_64 : decode cX8_init 64 = .ok (.putfield 31, 3) := by decide +kernel
theorem dX8_init_67 : decode cX8_init 67 = .ok (.aload_n 0, 1) := by decide +kernel
theorem dX8_init_68 : decode cX8_init 68 = .ok (.iconst 5, 1) := by decide +kernel
theorem dX8_init_69 : decode cX8_init 69 = .ok (.newarray .int, 2) := by decide +kernel
theorem dX8_init_71 : decode cX8_init 71 = .ok (.putfield 34, 3) := by decide +kernel
theorem dX8_init_74 : decode cX8_init 74 = .ok (.aload_n 0, 1) := by decide +kernel
theorem dX8_init_75 : decode cX8_init 75 = .ok (.iconst 5, 1) := by decide +kernel
theorem dX8_init_76 : decode cX8_init 76 = .ok (.newarray .int, 2) := by decide +kernel
theorem dX8_init_78 : decode cX8_init 78 = .ok (.putfield 37, 3) := by decide +kernel
theorem dX8_init_81 : decode cX8_init 81 = .ok (.aload_n 0, 1) := by decide +kernel
theorem dX8_init_82 : decode cX8_init 82 = .ok (.bipush 120, 2) := by decide +kernel
theorem dX8_init_84 : decode cX8_init 84 = .ok (.newarray .int, 2) := by decide +kernel
theorem dX8_init_86 : decode cX8_init 86 = .ok (.putfield 40, 3) := by decide +kernel
theorem dX8_init_89 : decode cX8_init 89 = .ok (.aload_n 0, 1) := by decide +kernel
theorem dX8_init_90 : decode cX8_init 90 = .ok (.bipush 62, 2) := by decide +kernel
theorem dX8_init_92 : decode cX8_init 92 = .ok (.newarray .int, 2) := by decide +kernel
theorem dX8_init_94 : decode cX8_init 94 = .ok (.putfield 43, 3) := by decide +kernel
theorem dX8_init_97 : decode cX8_init 97 = .ok (.aload_n 0, 1) := by decide +kernel
theorem dX8_init_98 : decode cX8_init 98 = .ok (.bipush 96, 2) := by decide +kernel
theorem dX8_init_100 : decode cX8_init 100 = .ok (.newarray .int, 2) := by decide +kernel
theorem dX8_init_102 : decode cX8_init 102 = .ok (.putfield 46, 3) := by decide +kernel
theorem dX8_init_105 : decode cX8_init 105 = .ok (.aload_n 0, 1) := by decide +kernel
theorem dX8_init_106 : decode cX8_init 106 = .ok (.sipush 128, 3) := by decide +kernel
theorem dX8_init_109 : decode cX8_init 109 = .ok (.newarray .int, 2) := by decide +kernel
theorem dX8_init_111 : decode cX8_init 111 = .ok (.putfield 49, 3) := by decide +kernel
theorem dX8_init_114 : decode cX8_init 114 = .ok (.aload_n 0, 1) := by decide +kernel
theorem dX8_init_115 : decode cX8_init 115 = .ok (.bipush 100, 2) := by decide +kernel
theorem dX8_init_117 : decode cX8_init 117 = .ok (.newarray .int, 2) := by decide +kernel
theorem dX8_init_119 : decode cX8_init 119 = .ok (.putfield 52, 3) := by decide +kernel
theorem dX8_init_122 : decode cX8_init 122 = .ok (.aload_n 0, 1) := by decide +kernel
theorem dX8_init_123 : decode cX8_init 123 = .ok (.bipush 24, 2) := by decide +kernel
theorem dX8_init_125 : decode cX8_init 125 = .ok (.newarray .int, 2) := by decide +kernel
theorem dX8_init_127 : decode cX8_init 127 = .ok (.putfield 55, 3) := by decide +kernel
theorem dX8_init_130 : decode cX8_init 130 = .ok (.aload_n 0, 1) := by decide +kernel
theorem dX8_init_131 : decode cX8_init 131 = .ok (.bipush 60, 2) := by decide +kernel
theorem dX8_init_133 : decode cX8_init 133 = .ok (.newarray .int, 2) := by decide +kernel
theorem dX8_init_135 : decode cX8_init 135 = .ok (.putfield 58, 3) := by decide +kernel
theorem dX8_init_138 : decode cX8_init 138 = .ok (.aload_n 0, 1) := by decide +kernel
theorem dX8_init_139 : decode cX8_init 139 = .ok (.bipush 60, 2) := by decide +kernel
theorem dX8_init_141 : decode cX8_init 141 = .ok (.newarray .int, 2) := by decide +kernel
theorem dX8_init_143 : decode cX8_init 143 = .ok (.putfield 61, 3) := by decide +kernel
theorem dX8_init_146 : decode cX8_init 146 = .ok (.aload_n 0, 1) := by decide +kernel
theorem dX8_init_147 : decode cX8_init 147 = .ok (.getfield 7, 3) := by decide +kernel
theorem dX8_init_150 : decode cX8_init 150 = .ok (.bipush 11, 2) := by decide +kernel
theorem dX8_init_152 : decode cX8_init 152 = .ok (.iconst 1, 1) := by decide +kernel
theorem dX8_init_153 : decode cX8_init 153 = .ok (.iastore, 1) := by decide +kernel
theorem dX8_init_154 : decode cX8_init 154 = .ok (.aload_n 0, 1) := by decide +kernel
theorem dX8_init_155 : decode cX8_init 155 = .ok (.getfield 7, 3) := by decide +kernel
theorem dX8_init_158 : decode cX8_init 158 = .ok (.iconst 3, 1) := by decide +kernel
theorem dX8_init_159 : decode cX8_init 159 = .ok (.iconst 3, 1) := by decide +kernel
theorem dX8_init_160 : decode cX8_init 160 = .ok (.iastore, 1) := by decide +kernel
theorem dX8_init_161 : decode cX8_init 161 = .ok (.aload_n 0, 1) := by decide +kernel
theorem dX8_init_162 : decode cX8_init 162 = .ok (.getfield 7, 3) := by decide +kernel
theorem dX8_init_165 : decode cX8_init 165 = .ok (.iconst 4, 1) := by decide +kernel
theorem dX8_init_166 : decode cX8_init 166 = .ok (.bipush 30, 2) := by decide +kernel
theorem dX8_init_168 : decode cX8_init 168 = .ok (.iastore, 1) := by decide +kernel
theorem dX8_init_169 : decode cX8_init 169 = .ok (.aload_n 0, 1) := by decide +kernel
theorem dX8_init_170 : decode cX8_init 170 = .ok (.getfield 7, 3) := by decide +kernel
theorem dX8_init_173 : decode cX8_init 173 = .ok (.iconst 5, 1) := by decide +kernel
theorem dX8_init_174 : decode cX8_init 174 = .ok (.sipush 200, 3) := by decide +kernel
theorem dX8_init_177 : decode cX8_init 177 = .ok (.iastore, 1) := by decide +kernel
theorem dX8_init_178 : decode cX8_init 178 = .ok (.aload_n 0, 1) := by decide +kernel
theorem dX8_init_179 : decode cX8_init 179 = .ok (.getfield 7, 3) := by decide +kernel
theorem dX8_init_182 : decode cX8_init 182 = .ok (.bipush 6, 2) := by decide +kernel
theorem dX8_init_184 : decode cX8_init 184 = .ok (.bipush 20, 2) := by decide +kernel
theorem dX8_init_186 : decode cX8_init 186 = .ok (.iastore, 1) := by decide +kernel
theorem dX8_init_187 : decode cX8_init 187 = .ok (.iconst 0, 1) := by decide +kernel
theorem dX8_init_188 : decode cX8_init 188 = .ok (.istore_n 1, 1) := by decide +kernel
theorem dX8_init_189 : decode cX8_init 189 = .ok (.iload_n 1, 1) := by decide +kernel
theorem dX8_init_190 : decode cX8_init 190 = .ok (.iconst 4, 1) := by decide +kernel
theorem dX8_init_191 : decode cX8_init 191 = .ok (.if_icmp .ge 16, 3) := by decide +kernel
theorem dX8_init_194 : decode cX8_init 194 = .ok (.aload_n 0, 1) := by decide +kernel
theorem dX8_init_195 : decode cX8_init 195 = .ok (.getfield 19, 3) := by decide +kernel
theorem dX8_init_198 : decode cX8_init 198 = .ok (.iload_n 1, 1) := by decide +kernel
theorem dX8_init_199 : decode cX8_init 199 = .ok (.iconst (-1), 1) := by decide +kernel
theorem dX8_init_200 : decode cX8_init 200 = .ok (.iastore, 1) := by decide +kernel
theorem dX8_init_201 : decode cX8_init 201 = .ok (.iinc 1 1, 3) := by decide +kernel
theorem dX8_init_204 : decode cX8_init 204 = .ok (.goto (-15), 3) := by decide +kernel
theorem dX8_init_207 : decode cX8_init 207 = .ok (.return_, 1) := by decide +kernel
theorem dX8_isIn_0 : decode cX8_isIn 0 = .ok (.lload_n 0, 1) := by decide +kernel
theorem dX8_isIn_1 : decode cX8_isIn 1 = .ok (.lload_n 2, 1) := by decide +kernel
theorem dX8_isIn_2 : decode cX8_isIn 2 = .ok (.lcmp, 1) := by decide +kernel
theorem dX8_isIn_3 : decode cX8_isIn 3 = .ok (.ifCond .lt 14, 3) := by decide +kernel
theorem dX8_isIn_6 : decode cX8_isIn 6 = .ok (.lload_n 0, 1) := by decide +kernel
theorem dX8_isIn_7 : decode cX8_isIn 7 = .ok (.lload 4, 2) := by decide +kernel
theorem dX8_isIn_9 : decode cX8_isIn 9 = .ok (.lcmp, 1) := by decide +kernel
theorem dX8_isIn_10 : decode cX8_isIn 10 = .ok (.ifCond .gt 7, 3) := by decide +kernel
theorem dX8_isIn_13 : decode cX8_isIn 13 = .ok (.iconst 1, 1) := by decide +kernel
theorem dX8_isIn_14 : decode cX8_isIn 14 = .ok (.goto 4, 3) := by decide +kernel
theorem dX8_isIn_17 : decode cX8_isIn 17 = .ok (.iconst 0, 1) := by decide +kernel
theorem dX8_isIn_18 : decode cX8_isIn 18 = .ok (.ireturn, 1) := by decide +kernel
theorem dX8_orNone_0 : decode cX8_orNone 0 = .ok (.iload_n 0, 1) := by decide +kernel
theorem dX8_orNone_1 : decode cX8_orNone 1 = .ok (.ifCond .ge 8, 3) := by decide +kernel
theorem dX8_orNone_4 : decode cX8_orNone 4 = .ok (.ldc 64, 2) := by decide +kernel
theorem dX8_orNone_6 : decode cX8_orNone 6 = .ok (.goto 4, 3) := by decide +kernel
theorem dX8_orNone_9 : decode cX8_orNone 9 = .ok (.iload_n 0, 1) := by decide +kernel
theorem dX8_orNone_10 : decode cX8_orNone 10 = .ok (.ireturn, 1) := by decide +kernel
theorem dX8_within_0 : decode cX8_within 0 = .ok (.iload_n 0, 1) := by decide +kernel
theorem dX8_within_1 : decode cX8_within 1 = .ok (.ifCond .ge 7, 3) := by decide +kernel
theorem dX8_within_4 : decode cX8_within 4 = .ok (.iconst 0, 1) := by decide +kernel
theorem dX8_within_5 : decode cX8_within 5 = .ok (.goto 13, 3) := by decide +kernel
theorem dX8_within_8 : decode cX8_within 8 = .ok (.iload_n 0, 1) := by decide +kernel
theorem dX8_within_9 : decode cX8_within 9 = .ok (.iload_n 1, 1) := by decide +kernel
theorem dX8_within_10 : decode cX8_within 10 = .ok (.if_icmp .le 7, 3) := by decide +kernel
theorem dX8_within_13 : decode cX8_within 13 = .ok (.iload_n 1, 1) := by decide +kernel
theorem dX8_within_14 : decode cX8_within 14 = .ok (.goto 4, 3) := by decide +kernel
theorem dX8_within_17 : decode cX8_within 17 = .ok (.iload_n 0, 1) := by decide +kernel
theorem dX8_within_18 : decode cX8_within 18 = .ok (.ireturn, 1) := by decide +kernel
theorem dX8_off_0 : decode cX8_off 0 = .ok (.iload_n 0, 1) := by decide +kernel
theorem dX8_off_1 : decode cX8_off 1 = .ok (.iload_n 1, 1) := by decide +kernel
theorem dX8_off_2 : decode cX8_off 2 = .ok (.if_icmp .ge 9, 3) := by decide +kernel
theorem dX8_off_5 : decode cX8_off 5 = .ok (.iload_n 1, 1) := by decide +kernel
theorem dX8_off_6 : decode cX8_off 6 = .ok (.iload_n 0, 1) := by decide +kernel
theorem dX8_off_7 : decode cX8_off 7 = .ok (.isub, 1) := by decide +kernel
theorem dX8_off_8 : decode cX8_off 8 = .ok (.goto 6, 3) := by decide +kernel
theorem dX8_off_11 : decode cX8_off 11 = .ok (.iload_n 0, 1) := by decide +kernel
theorem dX8_off_12 : decode cX8_off 12 = .ok (.iload_n 1, 1) := by decide +kernel
theorem dX8_off_13 : decode cX8_off 13 = .ok (.isub, 1) := by decide +kernel
theorem dX8_off_14 : decode cX8_off 14 = .ok (.ireturn, 1) := by decide +kernel
theorem dX8_changes_0 : decode cX8_changes 0 = .ok (.aload_n 0, 1) := by decide +kernel
theorem dX8_changes_1 : decode cX8_changes 1 = .ok (.getfield 7, 3) := by decide +kernel
theorem dX8_changes_4 : decode cX8_changes 4 = .ok (.iload_n 1, 1) := by decide +kernel
theorem dX8_changes_5 : decode cX8_changes 5 = .ok (.iaload, 1) := by decide +kernel
theorem dX8_changes_6 : decode cX8_changes 6 = .ok (.istore_n 3, 1) := by decide +kernel
theorem dX8_changes_7 : decode cX8_changes 7 = .ok (.aload_n 0, 1) := by decide +kernel
theorem dX8_changes_8 : decode cX8_changes 8 = .ok (.getfield 7, 3) := by decide +kernel
theorem dX8_changes_11 : decode cX8_changes 11 = .ok (.iload_n 1, 1) := by decide +kernel
theorem dX8_changes_12 : decode cX8_changes 12 = .ok (.iload_n 2, 1) := by decide +kernel
theorem dX8_changes_13 : decode cX8_changes 13 = .ok (.iastore, 1) := by decide +kernel
theorem dX8_changes_14 : decode cX8_changes 14 = .ok (.iload_n 3, 1) := by decide +kernel
theorem dX8_changes_15 : decode cX8_changes 15 = .ok (.ireturn, 1) := by decide +kernel
theorem dX8_textAt_0 : decode cX8_textAt 0 = .ok (.bipush 62, 2) := by decide +kernel
theorem dX8_textAt_2 : decode cX8_textAt 2 = .ok (.sipush 200, 3) := by decide +kernel
theorem dX8_textAt_5 : decode cX8_textAt 5 = .ok (.iload_n 1, 1) := by decide +kernel
theorem dX8_textAt_6 : decode cX8_textAt 6 = .ok (.imul, 1) := by decide +kernel
theorem dX8_textAt_7 : decode cX8_textAt 7 = .ok (.iadd, 1) := by decide +kernel
theorem dX8_textAt_8 : decode cX8_textAt 8 = .ok (.ireturn, 1) := by decide +kernel
theorem dX8_of_0 : decode cX8_of 0 = .ok (.aload_n 0, 1) := by decide +kernel
theorem dX8_of_1 : decode cX8_of 1 = .ok (.getfield 7, 3) := by decide +kernel
theorem dX8_of_4 : decode cX8_of 4 = .ok (.bipush 12, 2) := by decide +kernel
theorem dX8_of_6 : decode cX8_of 6 = .ok (.iconst 5, 1) := by decide +kernel
theorem dX8_of_7 : decode cX8_of 7 = .ok (.iload_n 1, 1) := by decide +kernel
theorem dX8_of_8 : decode cX8_of 8 = .ok (.imul, 1) := by decide +kernel
theorem dX8_of_9 : decode cX8_of 9 = .ok (.iadd, 1) := by decide +kernel
theorem dX8_of_10 : decode cX8_of 10 = .ok (.iload_n 2, 1) := by decide +kernel
theorem dX8_of_11 : decode cX8_of 11 = .ok (.iadd, 1) := by decide +kernel
theorem dX8_of_12 : decode cX8_of 12 = .ok (.iaload, 1) := by decide +kernel
theorem dX8_of_13 : decode cX8_of 13 = .ok (.ireturn, 1) := by decide +kernel
theorem dX8_sets_0 : decode cX8_sets 0 = .ok (.aload_n 0, 1) := by decide +kernel
theorem dX8_sets_1 : decode cX8_sets 1 = .ok (.getfield 7, 3) := by decide +kernel
theorem dX8_sets_4 : decode cX8_sets 4 = .ok (.bipush 12, 2) := by decide +kernel
theorem dX8_sets_6 : decode cX8_sets 6 = .ok (.iconst 5, 1) := by decide +kernel
theorem dX8_sets_7 : decode cX8_sets 7 = .ok (.iload_n 1, 1) := by decide +kernel
theorem dX8_sets_8 : decode cX8_sets 8 = .ok (.imul, 1) := by decide +kernel
theorem dX8_sets_9 : decode cX8_sets 9 = .ok (.iadd, 1) := by decide +kernel
theorem dX8_sets_10 : decode cX8_sets 10 = .ok (.iload_n 2, 1) := by decide +kernel
theorem dX8_sets_11 : decode cX8_sets 11 = .ok (.iadd, 1) := by decide +kernel
theorem dX8_sets_12 : decode cX8_sets 12 = .ok (.iload_n 3, 1) := by decide +kernel
theorem dX8_sets_13 : decode cX8_sets 13 = .ok (.iastore, 1) := by decide +kernel
theorem dX8_sets_14 : decode cX8_sets 14 = .ok (.return_, 1) := by decide +kernel
theorem dX8_isGuard_0 : decode cX8_isGuard 0 = .ok (.iload_n 1, 1) := by decide +kernel
theorem dX8_isGuard_1 : decode cX8_isGuard 1 = .ok (.i2l, 1) := by decide +kernel
theorem dX8_isGuard_2 : decode cX8_isGuard 2 = .ok (.lconst 0, 1) := by decide +kernel
theorem dX8_isGuard_3 : decode cX8_isGuard 3 = .ok (.aload_n 0, 1) := by decide +kernel
theorem dX8_isGuard_4 : decode cX8_isGuard 4 = .ok (.getfield 7, 3) := by decide +kernel
theorem dX8_isGuard_7 : decode cX8_isGuard 7 = .ok (.iconst 0, 1) := by decide +kernel
theorem dX8_isGuard_8 : decode cX8_isGuard 8 = .ok (.iaload, 1) := by decide +kernel
theorem dX8_isGuard_9 : decode cX8_isGuard 9 = .ok (.iconst 1, 1) := by decide +kernel
theorem dX8_isGuard_10 : decode cX8_isGuard 10 = .ok (.isub, 1) := by decide +kernel
theorem dX8_isGuard_11 : decode cX8_isGuard 11 = .ok (.i2l, 1) := by decide +kernel
theorem dX8_isGuard_12 : decode cX8_isGuard 12 = .ok (.invokestatic 65, 3) := by decide +kernel
theorem dX8_isGuard_15 : decode cX8_isGuard 15 = .ok (.ireturn, 1) := by decide +kernel
theorem dX8_isText_0 : decode cX8_isText 0 = .ok (.iload_n 1, 1) := by decide +kernel
theorem dX8_isText_1 : decode cX8_isText 1 = .ok (.i2l, 1) := by decide +kernel
theorem dX8_isText_2 : decode cX8_isText 2 = .ok (.lconst 0, 1) := by decide +kernel
theorem dX8_isText_3 : decode cX8_isText 3 = .ok (.aload_n 0, 1) := by decide +kernel
theorem dX8_isText_4 : decode cX8_isText 4 = .ok (.getfield 7, 3) := by decide +kernel
theorem dX8_isText_7 : decode cX8_isText 7 = .ok (.iconst 1, 1) := by decide +kernel
theorem dX8_isText_8 : decode cX8_isText 8 = .ok (.iaload, 1) := by decide +kernel
theorem dX8_isText_9 : decode cX8_isText 9 = .ok (.iconst 1, 1) := by decide +kernel
theorem dX8_isText_10 : decode cX8_isText 10 = .ok (.isub, 1) := by decide +kernel
theorem dX8_isText_11 : decode cX8_isText 11 = .ok (.i2l, 1) := by decide +kernel
theorem dX8_isText_12 : decode cX8_isText 12 = .ok (.invokestatic 65, 3) := by decide +kernel
theorem dX8_isText_15 : decode cX8_isText 15 = .ok (.ireturn, 1) := by decide +kernel
theorem dX8_drawn_0 : decode cX8_drawn 0 = .ok (.aload_n 0, 1) := by decide +kernel
theorem dX8_drawn_1 : decode cX8_drawn 1 = .ok (.getfield 7, 3) := by decide +kernel
theorem dX8_drawn_4 : decode cX8_drawn 4 = .ok (.bipush 11, 2) := by decide +kernel
theorem dX8_drawn_6 : decode cX8_drawn 6 = .ok (.aload_n 0, 1) := by decide +kernel
theorem dX8_drawn_7 : decode cX8_drawn 7 = .ok (.getfield 7, 3) := by decide +kernel
theorem dX8_drawn_10 : decode cX8_drawn 10 = .ok (.bipush 11, 2) := by decide +kernel
theorem dX8_drawn_12 : decode cX8_drawn 12 = .ok (.iaload, 1) := by decide +kernel
theorem dX8_drawn_13 : decode cX8_drawn 13 = .ok (.ldc 69, 2) := by decide +kernel
theorem dX8_drawn_15 : decode cX8_drawn 15 = .ok (.imul, 1) := by decide +kernel
theorem dX8_drawn_16 : decode cX8_drawn 16 = .ok (.sipush 12345, 3) := by decide +kernel
theorem dX8_drawn_19 : decode cX8_drawn 19 = .ok (.iadd, 1) := by decide +kernel
theorem dX8_drawn_20 : decode cX8_drawn 20 = .ok (.iastore, 1) := by decide +kernel
theorem dX8_drawn_21 : decode cX8_drawn 21 = .ok (.aload_n 0, 1) := by decide +kernel
theorem dX8_drawn_22 : decode cX8_drawn 22 = .ok (.getfield 7, 3) := by decide +kernel
theorem dX8_drawn_25 : decode cX8_drawn 25 = .ok (.bipush 11, 2) := by decide +kernel
theorem dX8_drawn_27 : decode cX8_drawn 27 = .ok (.iaload, 1) := by decide +kernel
theorem dX8_drawn_28 : decode cX8_drawn 28 = .ok (.bipush 8, 2) := by decide +kernel
theorem dX8_drawn_30 : decode cX8_drawn 30 = .ok (.iushr, 1) := by decide +kernel
theorem dX8_drawn_31 : decode cX8_drawn 31 = .ok (.ireturn, 1) := by decide +kernel
theorem dX8_isOf_0 : decode cX8_isOf 0 = .ok (.iload_n 0, 1) := by decide +kernel
theorem dX8_isOf_1 : decode cX8_isOf 1 = .ok (.iload_n 1, 1) := by decide +kernel
theorem dX8_isOf_2 : decode cX8_isOf 2 = .ok (.if_icmp .eq 27, 3) := by decide +kernel
theorem dX8_isOf_5 : decode cX8_isOf 5 = .ok (.iload_n 1, 1) := by decide +kernel
theorem dX8_isOf_6 : decode cX8_isOf 6 = .ok (.ifCond .eq 23, 3) := by decide +kernel
theorem dX8_isOf_9 : decode cX8_isOf 9 = .ok (.iload_n 1, 1) := by decide +kernel
theorem dX8_isOf_10 : decode cX8_isOf 10 = .ok (.iconst 1, 1) := by decide +kernel
theorem dX8_isOf_11 : decode cX8_isOf 11 = .ok (.if_icmp .ne 8, 3) := by decide +kernel
theorem dX8_isOf_14 : decode cX8_isOf 14 = .ok (.iload_n 0, 1) := by decide +kernel
theorem dX8_isOf_15 : decode cX8_isOf 15 = .ok (.iconst 3, 1) := by decide +kernel
theorem dX8_isOf_16 : decode cX8_isOf 16 = .ok (.if_icmp .eq 13, 3) := by decide +kernel
theorem dX8_isOf_19 : decode cX8_isOf 19 = .ok (.iload_n 1, 1) := by decide +kernel
theorem dX8_isOf_20 : decode cX8_isOf 20 = .ok (.iconst 2, 1) := by decide +kernel
theorem dX8_isOf_21 : decode cX8_isOf 21 = .ok (.if_icmp .ne 12, 3) := by decide +kernel
theorem dX8_isOf_24 : decode cX8_isOf 24 = .ok (.iload_n 0, 1) := by decide +kernel
theorem dX8_isOf_25 : decode cX8_isOf 25 = .ok (.iconst 4, 1) := by decide +kernel
theorem dX8_isOf_26 : decode cX8_isOf 26 = .ok (.if_icmp .ne 7, 3) := by decide +kernel
theorem dX8_isOf_29 : decode cX8_isOf 29 = .ok (.iconst 1, 1) := by decide +kernel
theorem dX8_isOf_30 : decode cX8_isOf 30 = .ok (.goto 4, 3) := by decide +kernel
theorem dX8_isOf_33 : decode cX8_isOf 33 = .ok (.iconst 0, 1) := by decide +kernel
theorem dX8_isOf_34 : decode cX8_isOf 34 = .ok (.ireturn, 1) := by decide +kernel
theorem dX8_isPost_0 : decode cX8_isPost 0 = .ok (.iload_n 0, 1) := by decide +kernel
theorem dX8_isPost_1 : decode cX8_isPost 1 = .ok (.i2l, 1) := by decide +kernel
theorem dX8_isPost_2 : decode cX8_isPost 2 = .ok (.lconst 0, 1) := by decide +kernel
theorem dX8_isPost_3 : decode cX8_isPost 3 = .ok (.ldc2_w 70, 3) := by decide +kernel
theorem dX8_isPost_6 : decode cX8_isPost 6 = .ok (.invokestatic 65, 3) := by decide +kernel
theorem dX8_isPost_9 : decode cX8_isPost 9 = .ok (.ireturn, 1) := by decide +kernel
theorem dX8_whose_0 : decode cX8_whose 0 = .ok (.iconst 0, 1) := by decide +kernel
theorem dX8_whose_1 : decode cX8_whose 1 = .ok (.istore_n 2, 1) := by decide +kernel
theorem dX8_whose_2 : decode cX8_whose 2 = .ok (.iload_n 2, 1) := by decide +kernel
theorem dX8_whose_3 : decode cX8_whose 3 = .ok (.aload_n 0, 1) := by decide +kernel
theorem dX8_whose_4 : decode cX8_whose 4 = .ok (.getfield 7, 3) := by decide +kernel
theorem dX8_whose_7 : decode cX8_whose 7 = .ok (.iconst 0, 1) := by decide +kernel
theorem dX8_whose_8 : decode cX8_whose 8 = .ok (.iaload, 1) := by decide +kernel
theorem dX8_whose_9 : decode cX8_whose 9 = .ok (.if_icmp .ge 19, 3) := by decide +kernel
theorem dX8_whose_12 : decode cX8_whose 12 = .ok (.aload_n 0, 1) := by decide +kernel
theorem dX8_whose_13 : decode cX8_whose 13 = .ok (.iload_n 2, 1) := by decide +kernel
theorem dX8_whose_14 : decode cX8_whose 14 = .ok (.iconst 1, 1) := by decide +kernel
theorem dX8_whose_15 : decode cX8_whose 15 = .ok (.invokevirtual 72, 3) := by decide +kernel
theorem dX8_whose_18 : decode cX8_whose 18 = .ok (.iload_n 1, 1) := by decide +kernel
theorem dX8_whose_19 : decode cX8_whose 19 = .ok (.if_icmp .eq 9, 3) := by decide +kernel
theorem dX8_whose_22 : decode cX8_whose 22 = .ok (.iinc 2 1, 3) := by decide +kernel
theorem dX8_whose_25 : decode cX8_whose 25 = .ok (.goto (-23), 3) := by decide +kernel
theorem dX8_whose_28 : decode cX8_whose 28 = .ok (.iload_n 2, 1) := by decide +kernel
theorem dX8_whose_29 : decode cX8_whose 29 = .ok (.aload_n 0, 1) := by decide +kernel
theorem dX8_whose_30 : decode cX8_whose 30 = .ok (.getfield 7, 3) := by decide +kernel
theorem dX8_whose_33 : decode cX8_whose 33 = .ok (.iconst 0, 1) := by decide +kernel
theorem dX8_whose_34 : decode cX8_whose 34 = .ok (.iaload, 1) := by decide +kernel
theorem dX8_whose_35 : decode cX8_whose 35 = .ok (.if_icmp .ge 7, 3) := by decide +kernel
theorem dX8_whose_38 : decode cX8_whose 38 = .ok (.iload_n 2, 1) := by decide +kernel
theorem dX8_whose_39 : decode cX8_whose 39 = .ok (.goto 4, 3) := by decide +kernel
theorem dX8_whose_42 : decode cX8_whose 42 = .ok (.iconst (-1), 1) := by decide +kernel
theorem dX8_whose_43 : decode cX8_whose 43 = .ok (.ireturn, 1) := by decide +kernel
theorem dX8_comes_0 : decode cX8_comes 0 = .ok (.aload_n 0, 1) := by decide +kernel
theorem dX8_comes_1 : decode cX8_comes 1 = .ok (.getfield 7, 3) := by decide +kernel
theorem dX8_comes_4 : decode cX8_comes 4 = .ok (.iconst 0, 1) := by decide +kernel
theorem dX8_comes_5 : decode cX8_comes 5 = .ok (.iaload, 1) := by decide +kernel
theorem dX8_comes_6 : decode cX8_comes 6 = .ok (.istore 4, 2) := by decide +kernel
theorem dX8_comes_8 : decode cX8_comes 8 = .ok (.aload_n 0, 1) := by decide +kernel
theorem dX8_comes_9 : decode cX8_comes 9 = .ok (.getfield 7, 3) := by decide +kernel
theorem dX8_comes_12 : decode cX8_comes 12 = .ok (.iconst 0, 1) := by decide +kernel
theorem dX8_comes_13 : decode cX8_comes 13 = .ok (.dup2, 1) := by decide +kernel
theorem dX8_comes_14 : decode cX8_comes 14 = .ok (.iaload, 1) := by decide +kernel
theorem dX8_comes_15 : decode cX8_comes 15 = .ok (.iconst 1, 1) := by decide +kernel
theorem dX8_comes_16 : decode cX8_comes 16 = .ok (.iadd, 1) := by decide +kernel
theorem dX8_comes_17 : decode cX8_comes 17 = .ok (.iastore, 1) := by decide +kernel
theorem dX8_comes_18 : decode cX8_comes 18 = .ok (.aload_n 0, 1) := by decide +kernel
theorem dX8_comes_19 : decode cX8_comes 19 = .ok (.iload 4, 2) := by decide +kernel
theorem dX8_comes_21 : decode cX8_comes 21 = .ok (.iconst 0, 1) := by decide +kernel
theorem dX8_comes_22 : decode cX8_comes 22 = .ok (.iload_n 1, 1) := by decide +kernel
theorem dX8_comes_23 : decode cX8_comes 23 = .ok (.invokevirtual 76, 3) := by decide +kernel
theorem dX8_comes_26 : decode cX8_comes 26 = .ok (.aload_n 0, 1) := by decide +kernel
theorem dX8_comes_27 : decode cX8_comes 27 = .ok (.iload 4, 2) := by decide +kernel
theorem dX8_comes_29 : decode cX8_comes 29 = .ok (.iconst 1, 1) := by decide +kernel
theorem dX8_comes_30 : decode cX8_comes 30 = .ok (.iload_n 2, 1) := by decide +kernel
theorem dX8_comes_31 : decode cX8_comes 31 = .ok (.invokevirtual 76, 3) := by decide +kernel
theorem dX8_comes_34 : decode cX8_comes 34 = .ok (.aload_n 0, 1) := by decide +kernel
theorem dX8_comes_35 : decode cX8_comes 35 = .ok (.iload 4, 2) := by decide +kernel
theorem dX8_comes_37 : decode cX8_comes 37 = .ok (.iconst 2, 1) := by decide +kernel
theorem dX8_comes_38 : decode cX8_comes 38 = .ok (.iload_n 3, 1) := by decide +kernel
theorem dX8_comes_39 : decode cX8_comes 39 = .ok (.invokevirtual 76, 3) := by decide +kernel
theorem dX8_comes_42 : decode cX8_comes 42 = .ok (.aload_n 0, 1) := by decide +kernel
theorem dX8_comes_43 : decode cX8_comes 43 = .ok (.iload 4, 2) := by decide +kernel
theorem dX8_comes_45 : decode cX8_comes 45 = .ok (.iconst 3, 1) := by decide +kernel
theorem dX8_comes_46 : decode cX8_comes 46 = .ok (.iconst 0, 1) := by decide +kernel
theorem dX8_comes_47 : decode cX8_comes 47 = .ok (.invokevirtual 76, 3) := by decide +kernel
theorem dX8_comes_50 : decode cX8_comes 50 = .ok (.aload_n 0, 1) := by decide +kernel
theorem dX8_comes_51 : decode cX8_comes 51 = .ok (.iload 4, 2) := by decide +kernel
theorem dX8_comes_53 : decode cX8_comes 53 = .ok (.iconst 4, 1) := by decide +kernel
theorem dX8_comes_54 : decode cX8_comes 54 = .ok (.iconst 1, 1) := by decide +kernel
theorem dX8_comes_55 : decode cX8_comes 55 = .ok (.invokevirtual 76, 3) := by decide +kernel
theorem dX8_comes_58 : decode cX8_comes 58 = .ok (.return_, 1) := by decide +kernel
theorem dX8_guard_0 : decode cX8_guard 0 = .ok (.iload_n 1, 1) := by decide +kernel
theorem dX8_guard_1 : decode cX8_guard 1 = .ok (.i2l, 1) := by decide +kernel
theorem dX8_guard_2 : decode cX8_guard 2 = .ok (.lconst 0, 1) := by decide +kernel
theorem dX8_guard_3 : decode cX8_guard 3 = .ok (.ldc2_w 80, 3) := by decide +kernel
theorem dX8_guard_6 : decode cX8_guard 6 = .ok (.invokestatic 65, 3) := by decide +kernel
theorem dX8_guard_9 : decode cX8_guard 9 = .ok (.ifCond .eq 22, 3) := by decide +kernel
theorem dX8_guard_12 : decode cX8_guard 12 = .ok (.iload_n 2, 1) := by decide +kernel
theorem dX8_guard_13 : decode cX8_guard 13 = .ok (.invokestatic 82, 3) := by decide +kernel
theorem dX8_guard_16 : decode cX8_guard 16 = .ok (.ifCond .eq 15, 3) := by decide +kernel
theorem dX8_guard_19 : decode cX8_guard 19 = .ok (.iload_n 3, 1) := by decide +kernel
theorem dX8_guard_20 : decode cX8_guard 20 = .ok (.i2l, 1) := by decide +kernel
theorem dX8_guard_21 : decode cX8_guard 21 = .ok (.lconst 0, 1) := by decide +kernel
theorem dX8_guard_22 : decode cX8_guard 22 = .ok (.ldc2_w 86, 3) := by decide +kernel
theorem dX8_guard_25 : decode cX8_guard 25 = .ok (.invokestatic 65, 3) := by decide +kernel
theorem dX8_guard_28 : decode cX8_guard 28 = .ok (.ifCond .ne 6, 3) := by decide +kernel
theorem dX8_guard_31 : decode cX8_guard 31 = .ok (.ldc 88, 2) := by decide +kernel
theorem dX8_guard_33 : decode cX8_guard 33 = .ok (.ireturn, 1) := by decide +kernel
theorem dX8_guard_34 : decode cX8_guard 34 = .ok (.aload_n 0, 1) := by decide +kernel
theorem dX8_guard_35 : decode cX8_guard 35 = .ok (.iload_n 2, 1) := by decide +kernel
theorem dX8_guard_36 : decode cX8_guard 36 = .ok (.invokevirtual 89, 3) := by decide +kernel
theorem dX8_guard_39 : decode cX8_guard 39 = .ok (.ifCond .lt 6, 3) := by decide +kernel
theorem dX8_guard_42 : decode cX8_guard 42 = .ok (.ldc 93, 2) := by decide +kernel
theorem dX8_guard_44 : decode cX8_guard 44 = .ok (.ireturn, 1) := by decide +kernel
theorem dX8_guard_45 : decode cX8_guard 45 = .ok (.aload_n 0, 1) := by decide +kernel
theorem dX8_guard_46 : decode cX8_guard 46 = .ok (.getfield 7, 3) := by decide +kernel
theorem dX8_guard_49 : decode cX8_guard 49 = .ok (.iconst 0, 1) := by decide +kernel
theorem dX8_guard_50 : decode cX8_guard 50 = .ok (.iaload, 1) := by decide +kernel
theorem dX8_guard_51 : decode cX8_guard 51 = .ok (.bipush 10, 2) := by decide +kernel
theorem dX8_guard_53 : decode cX8_guard 53 = .ok (.if_icmp .ne 6, 3) := by decide +kernel
theorem dX8_guard_56 : decode cX8_guard 56 = .ok (.ldc 94, 2) := by decide +kernel
theorem dX8_guard_58 : decode cX8_guard 58 = .ok (.ireturn, 1) := by decide +kernel
theorem dX8_guard_59 : decode cX8_guard 59 = .ok (.aload_n 0, 1) := by decide +kernel
theorem dX8_guard_60 : decode cX8_guard 60 = .ok (.iload_n 1, 1) := by decide +kernel
theorem dX8_guard_61 : decode cX8_guard 61 = .ok (.iload_n 2, 1) := by decide +kernel
theorem dX8_guard_62 : decode cX8_guard 62 = .ok (.iload_n 3, 1) := by decide +kernel
theorem dX8_guard_63 : decode cX8_guard 63 = .ok (.invokevirtual 95, 3) := by decide +kernel
theorem dX8_guard_66 : decode cX8_guard 66 = .ok (.aload_n 0, 1) := by decide +kernel
theorem dX8_guard_67 : decode cX8_guard 67 = .ok (.getfield 7, 3) := by decide +kernel
theorem dX8_guard_70 : decode cX8_guard 70 = .ok (.iconst 0, 1) := by decide +kernel
theorem dX8_guard_71 : decode cX8_guard 71 = .ok (.iaload, 1) := by decide +kernel
theorem dX8_guard_72 : decode cX8_guard 72 = .ok (.iconst 1, 1) := by decide +kernel
theorem dX8_guard_73 : decode cX8_guard 73 = .ok (.isub, 1) := by decide +kernel
theorem dX8_guard_74 : decode cX8_guard 74 = .ok (.ireturn, 1) := by decide +kernel
theorem dX8_plain_0 : decode cX8_plain 0 = .ok (.aload_n 0, 1) := by decide +kernel
theorem dX8_plain_1 : decode cX8_plain 1 = .ok (.iconst 0, 1) := by decide +kernel
theorem dX8_plain_2 : decode cX8_plain 2 = .ok (.invokevirtual 98, 3) := by decide +kernel
theorem dX8_plain_5 : decode cX8_plain 5 = .ok (.istore_n 2, 1) := by decide +kernel
theorem dX8_plain_6 : decode cX8_plain 6 = .ok (.iload_n 2, 1) := by decide +kernel
theorem dX8_plain_7 : decode cX8_plain 7 = .ok (.ifCond .ge 15, 3) := by decide +kernel
theorem dX8_plain_10 : decode cX8_plain 10 = .ok (.bipush 60, 2) := by decide +kernel
theorem dX8_plain_12 : decode cX8_plain 12 = .ok (.aload_n 0, 1) := by decide +kernel
theorem dX8_plain_13 : decode cX8_plain 13 = .ok (.iload_n 1, 1) := by decide +kernel
theorem dX8_plain_14 : decode cX8_plain 14 = .ok (.iconst 2, 1) := by decide +kernel
theorem dX8_plain_15 : decode cX8_plain 15 = .ok (.invokevirtual 72, 3) := by decide +kernel
theorem dX8_plain_18 : decode cX8_plain 18 = .ok (.iconst 2, 1) := by decide +kernel
theorem dX8_plain_19 : decode cX8_plain 19 = .ok (.idiv, 1) := by decide +kernel
theorem dX8_plain_20 : decode cX8_plain 20 = .ok (.isub, 1) := by decide +kernel
theorem dX8_plain_21 : decode cX8_plain 21 = .ok (.ireturn, 1) := by decide +kernel
theorem dX8_plain_22 : decode cX8_plain 22 = .ok (.aload_n 0, 1) := by decide +kernel
theorem dX8_plain_23 : decode cX8_plain 23 = .ok (.getfield 49, 3) := by decide +kernel
theorem dX8_plain_26 : decode cX8_plain 26 = .ok (.bipush 119, 2) := by decide +kernel
theorem dX8_plain_28 : decode cX8_plain 28 = .ok (.aload_n 0, 1) := by decide +kernel
theorem dX8_plain_29 : decode cX8_plain 29 = .ok (.iload_n 1, 1) := by decide +kernel
theorem dX8_plain_30 : decode cX8_plain 30 = .ok (.iconst 2, 1) := by decide +kernel
theorem dX8_plain_31 : decode cX8_plain 31 = .ok (.invokevirtual 72, 3) := by decide +kernel
theorem dX8_plain_34 : decode cX8_plain 34 = .ok (.iastore, 1) := by decide +kernel
theorem dX8_plain_35 : decode cX8_plain 35 = .ok (.aload_n 0, 1) := by decide +kernel
theorem dX8_plain_36 : decode cX8_plain 36 = .ok (.getfield 49, 3) := by decide +kernel
theorem dX8_plain_39 : decode cX8_plain 39 = .ok (.bipush 100, 2) := by decide +kernel
theorem dX8_plain_41 : decode cX8_plain 41 = .ok (.aload_n 0, 1) := by decide +kernel
theorem dX8_plain_42 : decode cX8_plain 42 = .ok (.iload_n 1, 1) := by decide +kernel
theorem dX8_plain_43 : decode cX8_plain 43 = .ok (.iconst 3, 1) := by decide +kernel
theorem dX8_plain_44 : decode cX8_plain 44 = .ok (.invokevirtual 72, 3) := by decide +kernel
theorem dX8_plain_47 : decode cX8_plain 47 = .ok (.iastore, 1) := by decide +kernel
theorem dX8_plain_48 : decode cX8_plain 48 = .ok (.aload_n 0, 1) := by decide +kernel
theorem dX8_plain_49 : decode cX8_plain 49 = .ok (.getfield 49, 3) := by decide +kernel
theorem dX8_plain_52 : decode cX8_plain 52 = .ok (.bipush 112, 2) := by decide +kernel
theorem dX8_plain_54 : decode cX8_plain 54 = .ok (.aload_n 0, 1) := by decide +kernel
theorem dX8_plain_55 : decode cX8_plain 55 = .ok (.iload_n 1, 1) := by decide +kernel
theorem dX8_plain_56 : decode cX8_plain 56 = .ok (.iconst 1, 1) := by decide +kernel
theorem dX8_plain_57 : decode cX8_plain 57 = .ok (.invokevirtual 72, 3) := by decide +kernel
theorem dX8_plain_60 : decode cX8_plain 60 = .ok (.iastore, 1) := by decide +kernel
theorem dX8_plain_61 : decode cX8_plain 61 = .ok (.aload_n 0, 1) := by decide +kernel
theorem dX8_plain_62 : decode cX8_plain 62 = .ok (.iload_n 2, 1) := by decide +kernel
theorem dX8_plain_63 : decode cX8_plain 63 = .ok (.invokevirtual 101, 3) := by decide +kernel
theorem dX8_plain_66 : decode cX8_plain 66 = .ok (.bipush 99, 2) := by decide +kernel
theorem dX8_plain_68 : decode cX8_plain 68 = .ok (.invokestatic 104, 3) := by decide +kernel
theorem dX8_plain_71 : decode cX8_plain 71 = .ok (.ireturn, 1) := by decide +kernel
theorem dX8_looks_0 : decode cX8_looks 0 = .ok (.aload_n 0, 1) := by decide +kernel
theorem dX8_looks_1 : decode cX8_looks 1 = .ok (.iload_n 1, 1) := by decide +kernel
theorem dX8_looks_2 : decode cX8_looks 2 = .ok (.iconst 0, 1) := by decide +kernel
theorem dX8_looks_3 : decode cX8_looks 3 = .ok (.invokevirtual 72, 3) := by decide +kernel
theorem dX8_looks_6 : decode cX8_looks 6 = .ok (.tableswitch 75 1 5 #[34, 54, 43, 54, 57], 34) := by decide +kernel
theorem dX8_looks_40 : decode cX8_looks 40 = .ok (.aload_n 0, 1) := by decide +kernel
theorem dX8_looks_41 : decode cX8_looks 41 = .ok (.iload_n 1, 1) := by decide +kernel
theorem dX8_looks_42 : decode cX8_looks 42 = .ok (.invokevirtual 107, 3) := by decide +kernel
theorem dX8_looks_45 : decode cX8_looks 45 = .ok (.bipush 12, 2) := by decide +kernel
theorem dX8_looks_47 : decode cX8_looks 47 = .ok (.iadd, 1) := by decide +kernel
theorem dX8_looks_48 : decode cX8_looks 48 = .ok (.ireturn, 1) := by decide +kernel
theorem dX8_looks_49 : decode cX8_looks 49 = .ok (.iconst 2, 1) := by decide +kernel
theorem dX8_looks_50 : decode cX8_looks 50 = .ok (.aload_n 0, 1) := by decide +kernel
theorem dX8_looks_51 : decode cX8_looks 51 = .ok (.iload_n 1, 1) := by decide +kernel
theorem dX8_looks_52 : decode cX8_looks 52 = .ok (.invokevirtual 107, 3) := by decide +kernel
theorem dX8_looks_55 : decode cX8_looks 55 = .ok (.bipush 12, 2) := by decide +kernel
theorem dX8_looks_57 : decode cX8_looks 57 = .ok (.iadd, 1) := by decide +kernel
theorem dX8_looks_58 : decode cX8_looks 58 = .ok (.imul, 1) := by decide +kernel
theorem dX8_looks_59 : decode cX8_looks 59 = .ok (.ireturn, 1) := by decide +kernel
theorem dX8_looks_60 : decode cX8_looks 60 = .ok (.bipush 99, 2) := by decide +kernel
theorem dX8_looks_62 : decode cX8_looks 62 = .ok (.ireturn, 1) := by decide +kernel
theorem dX8_looks_63 : decode cX8_looks 63 = .ok (.aload_n 0, 1) := by decide +kernel
theorem dX8_looks_64 : decode cX8_looks 64 = .ok (.iload_n 1, 1) := by decide +kernel
theorem dX8_looks_65 : decode cX8_looks 65 = .ok (.invokevirtual 107, 3) := by decide +kernel
theorem dX8_looks_68 : decode cX8_looks 68 = .ok (.bipush 20, 2) := by decide +kernel
theorem dX8_looks_70 : decode cX8_looks 70 = .ok (.aload_n 0, 1) := by decide +kernel
theorem dX8_looks_71 : decode cX8_looks 71 = .ok (.getfield 7, 3) := by decide +kernel
theorem dX8_looks_74 : decode cX8_looks 74 = .ok (.iconst 2, 1) := by decide +kernel
theorem dX8_looks_75 : decode cX8_looks 75 = .ok (.iaload, 1) := by decide +kernel
theorem dX8_looks_76 : decode cX8_looks 76 = .ok (.iconst 2, 1) := by decide +kernel
theorem dX8_looks_77 : decode cX8_looks 77 = .ok (.irem, 1) := by decide +kernel
theorem dX8_looks_78 : decode cX8_looks 78 = .ok (.imul, 1) := by decide +kernel
theorem dX8_looks_79 : decode cX8_looks 79 = .ok (.iadd, 1) := by decide +kernel
theorem dX8_looks_80 : decode cX8_looks 80 = .ok (.ireturn, 1) := by decide +kernel
theorem dX8_looks_81 : decode cX8_looks 81 = .ok (.aload_n 0, 1) := by decide +kernel
theorem dX8_looks_82 : decode cX8_looks 82 = .ok (.iload_n 1, 1) := by decide +kernel
theorem dX8_looks_83 : decode cX8_looks 83 = .ok (.invokevirtual 107, 3) := by decide +kernel
theorem dX8_looks_86 : decode cX8_looks 86 = .ok (.ireturn, 1) := by decide +kernel
theorem dX8_lives_0 : decode cX8_lives 0 = .ok (.aload_n 0, 1) := by decide +kernel
theorem dX8_lives_1 : decode cX8_lives 1 = .ok (.iload_n 1, 1) := by decide +kernel
theorem dX8_lives_2 : decode cX8_lives 2 = .ok (.iconst 0, 1) := by decide +kernel
theorem dX8_lives_3 : decode cX8_lives 3 = .ok (.invokevirtual 72, 3) := by decide +kernel
theorem dX8_lives_6 : decode cX8_lives 6 = .ok (.iconst 2, 1) := by decide +kernel
theorem dX8_lives_7 : decode cX8_lives 7 = .ok (.if_icmp .eq 13, 3) := by decide +kernel
theorem dX8_lives_10 : decode cX8_lives 10 = .ok (.aload_n 0, 1) := by decide +kernel
theorem dX8_lives_11 : decode cX8_lives 11 = .ok (.iload_n 1, 1) := by decide +kernel
theorem dX8_lives_12 : decode cX8_lives 12 = .ok (.iconst 0, 1) := by decide +kernel
theorem dX8_lives_13 : decode cX8_lives 13 = .ok (.invokevirtual 72, 3) := by decide +kernel
theorem dX8_lives_16 : decode cX8_lives 16 = .ok (.iconst 4, 1) := by decide +kernel
theorem dX8_lives_17 : decode cX8_lives 17 = .ok (.if_icmp .ne 7, 3) := by decide +kernel
theorem dX8_lives_20 : decode cX8_lives 20 = .ok (.iconst 1, 1) := by decide +kernel
theorem dX8_lives_21 : decode cX8_lives 21 = .ok (.goto 4, 3) := by decide +kernel
theorem dX8_lives_24 : decode cX8_lives 24 = .ok (.iconst 0, 1) := by decide +kernel
theorem dX8_lives_25 : decode cX8_lives 25 = .ok (.ireturn, 1) := by decide +kernel
theorem dX8_falls_0 : decode cX8_falls 0 = .ok (.aload_n 0, 1) := by decide +kernel
theorem dX8_falls_1 : decode cX8_falls 1 = .ok (.iload_n 1, 1) := by decide +kernel
theorem dX8_falls_2 : decode cX8_falls 2 = .ok (.iconst 2, 1) := by decide +kernel
theorem dX8_falls_3 : decode cX8_falls 3 = .ok (.invokevirtual 72, 3) := by decide +kernel
theorem dX8_falls_6 : decode cX8_falls 6 = .ok (.iconst 2, 1) := by decide +kernel
theorem dX8_falls_7 : decode cX8_falls 7 = .ok (.idiv, 1) := by decide +kernel
theorem dX8_falls_8 : decode cX8_falls 8 = .ok (.istore_n 2, 1) := by decide +kernel
theorem dX8_falls_9 : decode cX8_falls 9 = .ok (.aload_n 0, 1) := by decide +kernel
theorem dX8_falls_10 : decode cX8_falls 10 = .ok (.iload_n 1, 1) := by decide +kernel
theorem dX8_falls_11 : decode cX8_falls 11 = .ok (.iconst 0, 1) := by decide +kernel
theorem dX8_falls_12 : decode cX8_falls 12 = .ok (.invokevirtual 72, 3) := by decide +kernel
theorem dX8_falls_15 : decode cX8_falls 15 = .ok (.tableswitch 43 1 5 #[33, 37, 33, 37, 39], 33) := by decide +kernel
theorem dX8_falls_48 : decode cX8_falls 48 = .ok (.iload_n 2, 1) := by decide +kernel
theorem dX8_falls_49 : decode cX8_falls 49 = .ok (.iconst 4, 1) := by decide +kernel
theorem dX8_falls_50 : decode cX8_falls 50 = .ok (.iadd, 1) := by decide +kernel
theorem dX8_falls_51 : decode cX8_falls 51 = .ok (.ireturn, 1) := by decide +kernel
theorem dX8_falls_52 : decode cX8_falls 52 = .ok (.iconst 0, 1) := by decide +kernel
theorem dX8_falls_53 : decode cX8_falls 53 = .ok (.ireturn, 1) := by decide +kernel
theorem dX8_falls_54 : decode cX8_falls 54 = .ok (.iconst 2, 1) := by decide +kernel
theorem dX8_falls_55 : decode cX8_falls 55 = .ok (.iload_n 2, 1) := by decide +kernel
theorem dX8_falls_56 : decode cX8_falls 56 = .ok (.imul, 1) := by decide +kernel
theorem dX8_falls_57 : decode cX8_falls 57 = .ok (.ireturn, 1) := by decide +kernel
theorem dX8_falls_58 : decode cX8_falls 58 = .ok (.iload_n 2, 1) := by decide +kernel
theorem dX8_falls_59 : decode cX8_falls 59 = .ok (.ireturn, 1) := by decide +kernel
theorem dX8_fights_0 : decode cX8_fights 0 = .ok (.aload_n 0, 1) := by decide +kernel
theorem dX8_fights_1 : decode cX8_fights 1 = .ok (.iload_n 1, 1) := by decide +kernel
theorem dX8_fights_2 : decode cX8_fights 2 = .ok (.iconst 0, 1) := by decide +kernel
theorem dX8_fights_3 : decode cX8_fights 3 = .ok (.invokevirtual 72, 3) := by decide +kernel
theorem dX8_fights_6 : decode cX8_fights 6 = .ok (.iconst 2, 1) := by decide +kernel
theorem dX8_fights_7 : decode cX8_fights 7 = .ok (.if_icmp .ne 8, 3) := by decide +kernel
theorem dX8_fights_10 : decode cX8_fights 10 = .ok (.bipush 10, 2) := by decide +kernel
theorem dX8_fights_12 : decode cX8_fights 12 = .ok (.goto 19, 3) := by decide +kernel
theorem dX8_fights_15 : decode cX8_fights 15 = .ok (.aload_n 0, 1) := by decide +kernel
theorem dX8_fights_16 : decode cX8_fights 16 = .ok (.iload_n 1, 1) := by decide +kernel
theorem dX8_fights_17 : decode cX8_fights 17 = .ok (.iconst 0, 1) := by decide +kernel
theorem dX8_fights_18 : decode cX8_fights 18 = .ok (.invokevirtual 72, 3) := by decide +kernel
theorem dX8_fights_21 : decode cX8_fights 21 = .ok (.iconst 4, 1) := by decide +kernel
theorem dX8_fights_22 : decode cX8_fights 22 = .ok (.if_icmp .ne 8, 3) := by decide +kernel
theorem dX8_fights_25 : decode cX8_fights 25 = .ok (.bipush 15, 2) := by decide +kernel
theorem dX8_fights_27 : decode cX8_fights 27 = .ok (.goto 4, 3) := by decide +kernel
theorem dX8_fights_30 : decode cX8_fights 30 = .ok (.iconst 0, 1) := by decide +kernel
theorem dX8_fights_31 : decode cX8_fights 31 = .ok (.ireturn, 1) := by decide +kernel
theorem dX8_worth_0 : decode cX8_worth 0 = .ok (.aload_n 0, 1) := by decide +kernel
theorem dX8_worth_1 : decode cX8_worth 1 = .ok (.iload_n 1, 1) := by decide +kernel
theorem dX8_worth_2 : decode cX8_worth 2 = .ok (.iconst 2, 1) := by decide +kernel
theorem dX8_worth_3 : decode cX8_worth 3 = .ok (.invokevirtual 72, 3) := by decide +kernel
theorem dX8_worth_6 : decode cX8_worth 6 = .ok (.istore_n 2, 1) := by decide +kernel
theorem dX8_worth_7 : decode cX8_worth 7 = .ok (.aload_n 0, 1) := by decide +kernel
theorem dX8_worth_8 : decode cX8_worth 8 = .ok (.iload_n 1, 1) := by decide +kernel
theorem dX8_worth_9 : decode cX8_worth 9 = .ok (.iconst 0, 1) := by decide +kernel
theorem dX8_worth_10 : decode cX8_worth 10 = .ok (.invokevirtual 72, 3) := by decide +kernel
theorem dX8_worth_13 : decode cX8_worth 13 = .ok (.tableswitch 61 1 5 #[35, 45, 39, 50, 58], 35) := by decide +kernel
theorem dX8_worth_48 : decode cX8_worth 48 = .ok (.iload_n 2, 1) := by decide +kernel
theorem dX8_worth_49 : decode cX8_worth 49 = .ok (.iconst 5, 1) := by decide +kernel
theorem dX8_worth_50 : decode cX8_worth 50 = .ok (.iadd, 1) := by decide +kernel
theorem dX8_worth_51 : decode cX8_worth 51 = .ok (.ireturn, 1) := by decide +kernel
theorem dX8_worth_52 : decode cX8_worth 52 = .ok (.iconst 2, 1) := by decide +kernel
theorem dX8_worth_53 : decode cX8_worth 53 = .ok (.iload_n 2, 1) := by decide +kernel
theorem dX8_worth_54 : decode cX8_worth 54 = .ok (.iconst 5, 1) := by decide +kernel
theorem dX8_worth_55 : decode cX8_worth 55 = .ok (.iadd, 1) := by decide +kernel
theorem dX8_worth_56 : decode cX8_worth 56 = .ok (.imul, 1) := by decide +kernel
theorem dX8_worth_57 : decode cX8_worth 57 = .ok (.ireturn, 1) := by decide +kernel
theorem dX8_worth_58 : decode cX8_worth 58 = .ok (.bipush 99, 2) := by decide +kernel
theorem dX8_worth_60 : decode cX8_worth 60 = .ok (.iload_n 2, 1) := by decide +kernel
theorem dX8_worth_61 : decode cX8_worth 61 = .ok (.isub, 1) := by decide +kernel
theorem dX8_worth_62 : decode cX8_worth 62 = .ok (.ireturn, 1) := by decide +kernel
theorem dX8_worth_63 : decode cX8_worth 63 = .ok (.bipush 99, 2) := by decide +kernel
theorem dX8_worth_65 : decode cX8_worth 65 = .ok (.iload_n 2, 1) := by decide +kernel
theorem dX8_worth_66 : decode cX8_worth 66 = .ok (.isub, 1) := by decide +kernel
theorem dX8_worth_67 : decode cX8_worth 67 = .ok (.bipush 7, 2) := by decide +kernel
theorem dX8_worth_69 : decode cX8_worth 69 = .ok (.isub, 1) := by decide +kernel
theorem dX8_worth_70 : decode cX8_worth 70 = .ok (.ireturn, 1) := by decide +kernel
theorem dX8_worth_71 : decode cX8_worth 71 = .ok (.bipush 8, 2) := by decide +kernel
theorem dX8_worth_73 : decode cX8_worth 73 = .ok (.ireturn, 1) := by decide +kernel
theorem dX8_worth_74 : decode cX8_worth 74 = .ok (.iload_n 2, 1) := by decide +kernel
theorem dX8_worth_75 : decode cX8_worth 75 = .ok (.ireturn, 1) := by decide +kernel
theorem dX8_told_0 : decode cX8_told 0 = .ok (.aload_n 0, 1) := by decide +kernel
theorem dX8_told_1 : decode cX8_told 1 = .ok (.iload_n 1, 1) := by decide +kernel
theorem dX8_told_2 : decode cX8_told 2 = .ok (.invokevirtual 110, 3) := by decide +kernel
theorem dX8_told_5 : decode cX8_told 5 = .ok (.ifCond .eq 15, 3) := by decide +kernel
theorem dX8_told_8 : decode cX8_told 8 = .ok (.iload_n 2, 1) := by decide +kernel
theorem dX8_told_9 : decode cX8_told 9 = .ok (.i2l, 1) := by decide +kernel
theorem dX8_told_10 : decode cX8_told 10 = .ok (.lconst 0, 1) := by decide +kernel
theorem dX8_told_11 : decode cX8_told 11 = .ok (.ldc2_w 113, 3) := by decide +kernel
theorem dX8_told_14 : decode cX8_told 14 = .ok (.invokestatic 65, 3) := by decide +kernel
theorem dX8_told_17 : decode cX8_told 17 = .ok (.ifCond .ne 6, 3) := by decide +kernel
theorem dX8_told_20 : decode cX8_told 20 = .ok (.ldc 88, 2) := by decide +kernel
theorem dX8_told_22 : decode cX8_told 22 = .ok (.ireturn, 1) := by decide +kernel
theorem dX8_told_23 : decode cX8_told 23 = .ok (.iload_n 2, 1) := by decide +kernel
theorem dX8_told_24 : decode cX8_told 24 = .ok (.tableswitch 56 5 8 #[32, 38, 44, 50], 32) := by decide +kernel
theorem dX8_told_56 : decode cX8_told 56 = .ok (.aload_n 0, 1) := by decide +kernel
theorem dX8_told_57 : decode cX8_told 57 = .ok (.iload_n 1, 1) := by decide +kernel
theorem dX8_told_58 : decode cX8_told 58 = .ok (.invokevirtual 115, 3) := by decide +kernel
theorem dX8_told_61 : decode cX8_told 61 = .ok (.ireturn, 1) := by decide +kernel
theorem dX8_told_62 : decode cX8_told 62 = .ok (.aload_n 0, 1) := by decide +kernel
theorem dX8_told_63 : decode cX8_told 63 = .ok (.iload_n 1, 1) := by decide +kernel
theorem dX8_told_64 : decode cX8_told 64 = .ok (.invokevirtual 118, 3) := by decide +kernel
theorem dX8_told_67 : decode cX8_told 67 = .ok (.ireturn, 1) := by decide +kernel
theorem dX8_told_68 : decode cX8_told 68 = .ok (.aload_n 0, 1) := by decide +kernel
theorem dX8_told_69 : decode cX8_told 69 = .ok (.iload_n 1, 1) := by decide +kernel
theorem dX8_told_70 : decode cX8_told 70 = .ok (.invokevirtual 121, 3) := by decide +kernel
theorem dX8_told_73 : decode cX8_told 73 = .ok (.ireturn, 1) := by decide +kernel
theorem dX8_told_74 : decode cX8_told 74 = .ok (.aload_n 0, 1) := by decide +kernel
theorem dX8_told_75 : decode cX8_told 75 = .ok (.iload_n 1, 1) := by decide +kernel
theorem dX8_told_76 : decode cX8_told 76 = .ok (.invokevirtual 124, 3) := by decide +kernel
theorem dX8_told_79 : decode cX8_told 79 = .ok (.ireturn, 1) := by decide +kernel
theorem dX8_told_80 : decode cX8_told 80 = .ok (.aload_n 0, 1) := by decide +kernel
theorem dX8_told_81 : decode cX8_told 81 = .ok (.iload_n 1, 1) := by decide +kernel
theorem dX8_told_82 : decode cX8_told 82 = .ok (.iload_n 2, 1) := by decide +kernel
theorem dX8_told_83 : decode cX8_told 83 = .ok (.invokevirtual 72, 3) := by decide +kernel
theorem dX8_told_86 : decode cX8_told 86 = .ok (.ireturn, 1) := by decide +kernel
theorem dX8_as_0 : decode cX8_as 0 = .ok (.aload_n 0, 1) := by decide +kernel
theorem dX8_as_1 : decode cX8_as 1 = .ok (.iload_n 1, 1) := by decide +kernel
theorem dX8_as_2 : decode cX8_as 2 = .ok (.invokevirtual 110, 3) := by decide +kernel
theorem dX8_as_5 : decode cX8_as 5 = .ok (.ifCond .eq 15, 3) := by decide +kernel
theorem dX8_as_8 : decode cX8_as 8 = .ok (.iload_n 2, 1) := by decide +kernel
theorem dX8_as_9 : decode cX8_as 9 = .ok (.i2l, 1) := by decide +kernel
theorem dX8_as_10 : decode cX8_as 10 = .ok (.lconst 0, 1) := by decide +kernel
theorem dX8_as_11 : decode cX8_as 11 = .ok (.ldc2_w 80, 3) := by decide +kernel
theorem dX8_as_14 : decode cX8_as 14 = .ok (.invokestatic 65, 3) := by decide +kernel
theorem dX8_as_17 : decode cX8_as 17 = .ok (.ifCond .ne 6, 3) := by decide +kernel
theorem dX8_as_20 : decode cX8_as 20 = .ok (.ldc 88, 2) := by decide +kernel
theorem dX8_as_22 : decode cX8_as 22 = .ok (.ireturn, 1) := by decide +kernel
theorem dX8_as_23 : decode cX8_as 23 = .ok (.aload_n 0, 1) := by decide +kernel
theorem dX8_as_24 : decode cX8_as 24 = .ok (.iload_n 1, 1) := by decide +kernel
theorem dX8_as_25 : decode cX8_as 25 = .ok (.iconst 0, 1) := by decide +kernel
theorem dX8_as_26 : decode cX8_as 26 = .ok (.invokevirtual 72, 3) := by decide +kernel
theorem dX8_as_29 : decode cX8_as 29 = .ok (.iload_n 2, 1) := by decide +kernel
theorem dX8_as_30 : decode cX8_as 30 = .ok (.invokestatic 127, 3) := by decide +kernel
theorem dX8_as_33 : decode cX8_as 33 = .ok (.ifCond .eq 12, 3) := by decide +kernel
theorem dX8_as_36 : decode cX8_as 36 = .ok (.aload_n 0, 1) := by decide +kernel
theorem dX8_as_37 : decode cX8_as 37 = .ok (.iload_n 1, 1) := by decide +kernel
theorem dX8_as_38 : decode cX8_as 38 = .ok (.iconst 2, 1) := by decide +kernel
theorem dX8_as_39 : decode cX8_as 39 = .ok (.invokevirtual 72, 3) := by decide +kernel
theorem dX8_as_42 : decode cX8_as 42 = .ok (.goto 5, 3) := by decide +kernel
theorem dX8_as_45 : decode cX8_as 45 = .ok (.ldc 131, 2) := by decide +kernel
theorem dX8_as_47 : decode cX8_as 47 = .ok (.ireturn, 1) := by decide +kernel
theorem dX8_turns_0 : decode cX8_turns 0 = .ok (.aload_n 0, 1) := by decide +kernel
theorem dX8_turns_1 : decode cX8_turns 1 = .ok (.iload_n 1, 1) := by decide +kernel
theorem dX8_turns_2 : decode cX8_turns 2 = .ok (.invokevirtual 110, 3) := by decide +kernel
theorem dX8_turns_5 : decode cX8_turns 5 = .ok (.ifCond .eq 29, 3) := by decide +kernel
theorem dX8_turns_8 : decode cX8_turns 8 = .ok (.iload_n 2, 1) := by decide +kernel
theorem dX8_turns_9 : decode cX8_turns 9 = .ok (.i2l, 1) := by decide +kernel
theorem dX8_turns_10 : decode cX8_turns 10 = .ok (.lconst 0, 1) := by decide +kernel
theorem dX8_turns_11 : decode cX8_turns 11 = .ok (.ldc2_w 80, 3) := by decide +kernel
theorem dX8_turns_14 : decode cX8_turns 14 = .ok (.invokestatic 65, 3) := by decide +kernel
theorem dX8_turns_17 : decode cX8_turns 17 = .ok (.ifCond .eq 17, 3) := by decide +kernel
theorem dX8_turns_20 : decode cX8_turns 20 = .ok (.aload_n 0, 1) := by decide +kernel
theorem dX8_turns_21 : decode cX8_turns 21 = .ok (.bipush 12, 2) := by decide +kernel
theorem dX8_turns_23 : decode cX8_turns 23 = .ok (.iconst 5, 1) := by decide +kernel
theorem dX8_turns_24 : decode cX8_turns 24 = .ok (.iload_n 1, 1) := by decide +kernel
theorem dX8_turns_25 : decode cX8_turns 25 = .ok (.imul, 1) := by decide +kernel
theorem dX8_turns_26 : decode cX8_turns 26 = .ok (.iadd, 1) := by decide +kernel
theorem dX8_turns_27 : decode cX8_turns 27 = .ok (.iload_n 2, 1) := by decide +kernel
theorem dX8_turns_28 : decode cX8_turns 28 = .ok (.invokevirtual 132, 3) := by decide +kernel
theorem dX8_turns_31 : decode cX8_turns 31 = .ok (.goto 5, 3) := by decide +kernel
theorem dX8_turns_34 : decode cX8_turns 34 = .ok (.ldc 88, 2) := by decide +kernel
theorem dX8_turns_36 : decode cX8_turns 36 = .ok (.ireturn, 1) := by decide +kernel
theorem dX8_set_0 : decode cX8_set 0 = .ok (.aload_n 0, 1) := by decide +kernel
theorem dX8_set_1 : decode cX8_set 1 = .ok (.iload_n 1, 1) := by decide +kernel
theorem dX8_set_2 : decode cX8_set 2 = .ok (.invokevirtual 110, 3) := by decide +kernel
theorem dX8_set_5 : decode cX8_set 5 = .ok (.ifCond .eq 38, 3) := by decide +kernel
theorem dX8_set_8 : decode cX8_set 8 = .ok (.iload_n 2, 1) := by decide +kernel
theorem dX8_set_9 : decode cX8_set 9 = .ok (.i2l, 1) := by decide +kernel
theorem dX8_set_10 : decode cX8_set 10 = .ok (.ldc2_w 135, 3) := by decide +kernel
theorem dX8_set_13 : decode cX8_set 13 = .ok (.ldc2_w 137, 3) := by decide +kernel
theorem dX8_set_16 : decode cX8_set 16 = .ok (.invokestatic 65, 3) := by decide +kernel
theorem dX8_set_19 : decode cX8_set 19 = .ok (.ifCond .eq 24, 3) := by decide +kernel
theorem dX8_set_22 : decode cX8_set 22 = .ok (.iload_n 3, 1) := by decide +kernel
theorem dX8_set_23 : decode cX8_set 23 = .ok (.i2l, 1) := by decide +kernel
theorem dX8_set_24 : decode cX8_set 24 = .ok (.lconst 0, 1) := by decide +kernel
theorem dX8_set_25 : decode cX8_set 25 = .ok (.iload_n 2, 1) := by decide +kernel
theorem dX8_set_26 : decode cX8_set 26 = .ok (.iconst 4, 1) := by decide +kernel
theorem dX8_set_27 : decode cX8_set 27 = .ok (.if_icmp .ne 7, 3) := by decide +kernel
theorem dX8_set_30 : decode cX8_set 30 = .ok (.lconst 1, 1) := by decide +kernel
theorem dX8_set_31 : decode cX8_set 31 = .ok (.goto 6, 3) := by decide +kernel
theorem dX8_set_34 : decode cX8_set 34 = .ok (.ldc2_w 86, 3) := by decide +kernel
theorem dX8_set_37 : decode cX8_set 37 = .ok (.invokestatic 65, 3) := by decide +kernel
theorem dX8_set_40 : decode cX8_set 40 = .ok (.ifCond .ne 6, 3) := by decide +kernel
theorem dX8_set_43 : decode cX8_set 43 = .ok (.ldc 88, 2) := by decide +kernel
theorem dX8_set_45 : decode cX8_set 45 = .ok (.ireturn, 1) := by decide +kernel
theorem dX8_set_46 : decode cX8_set 46 = .ok (.aload_n 0, 1) := by decide +kernel
theorem dX8_set_47 : decode cX8_set 47 = .ok (.bipush 12, 2) := by decide +kernel
theorem dX8_set_49 : decode cX8_set 49 = .ok (.iconst 5, 1) := by decide +kernel
theorem dX8_set_50 : decode cX8_set 50 = .ok (.iload_n 1, 1) := by decide +kernel
theorem dX8_set_51 : decode cX8_set 51 = .ok (.imul, 1) := by decide +kernel
theorem dX8_set_52 : decode cX8_set 52 = .ok (.iadd, 1) := by decide +kernel
theorem dX8_set_53 : decode cX8_set 53 = .ok (.iload_n 2, 1) := by decide +kernel
theorem dX8_set_54 : decode cX8_set 54 = .ok (.iadd, 1) := by decide +kernel
theorem dX8_set_55 : decode cX8_set 55 = .ok (.iload_n 3, 1) := by decide +kernel
theorem dX8_set_56 : decode cX8_set 56 = .ok (.invokevirtual 132, 3) := by decide +kernel
theorem dX8_set_59 : decode cX8_set 59 = .ok (.ireturn, 1) := by decide +kernel
theorem dX8_moves_0 : decode cX8_moves 0 = .ok (.aload_n 0, 1) := by decide +kernel
theorem dX8_moves_1 : decode cX8_moves 1 = .ok (.iload_n 1, 1) := by decide +kernel
theorem dX8_moves_2 : decode cX8_moves 2 = .ok (.invokevirtual 110, 3) := by decide +kernel
theorem dX8_moves_5 : decode cX8_moves 5 = .ok (.ifCond .eq 10, 3) := by decide +kernel
theorem dX8_moves_8 : decode cX8_moves 8 = .ok (.iload_n 2, 1) := by decide +kernel
theorem dX8_moves_9 : decode cX8_moves 9 = .ok (.invokestatic 82, 3) := by decide +kernel
theorem dX8_moves_12 : decode cX8_moves 12 = .ok (.ifCond .ne 6, 3) := by decide +kernel
theorem dX8_moves_15 : decode cX8_moves 15 = .ok (.ldc 88, 2) := by decide +kernel
theorem dX8_moves_17 : decode cX8_moves 17 = .ok (.ireturn, 1) := by decide +kernel
theorem dX8_moves_18 : decode cX8_moves 18 = .ok (.aload_n 0, 1) := by decide +kernel
theorem dX8_moves_19 : decode cX8_moves 19 = .ok (.iload_n 2, 1) := by decide +kernel
theorem dX8_moves_20 : decode cX8_moves 20 = .ok (.invokevirtual 89, 3) := by decide +kernel
theorem dX8_moves_23 : decode cX8_moves 23 = .ok (.ifCond .ge 19, 3) := by decide +kernel
theorem dX8_moves_26 : decode cX8_moves 26 = .ok (.aload_n 0, 1) := by decide +kernel
theorem dX8_moves_27 : decode cX8_moves 27 = .ok (.bipush 12, 2) := by decide +kernel
theorem dX8_moves_29 : decode cX8_moves 29 = .ok (.iconst 5, 1) := by decide +kernel
theorem dX8_moves_30 : decode cX8_moves 30 = .ok (.iload_n 1, 1) := by decide +kernel
theorem dX8_moves_31 : decode cX8_moves 31 = .ok (.imul, 1) := by decide +kernel
theorem dX8_moves_32 : decode cX8_moves 32 = .ok (.iadd, 1) := by decide +kernel
theorem dX8_moves_33 : decode cX8_moves 33 = .ok (.iconst 1, 1) := by decide +kernel
theorem dX8_moves_34 : decode cX8_moves 34 = .ok (.iadd, 1) := by decide +kernel
theorem dX8_moves_35 : decode cX8_moves 35 = .ok (.iload_n 2, 1) := by decide +kernel
theorem dX8_moves_36 : decode cX8_moves 36 = .ok (.invokevirtual 132, 3) := by decide +kernel
theorem dX8_moves_39 : decode cX8_moves 39 = .ok (.goto 5, 3) := by decide +kernel
theorem dX8_moves_42 : decode cX8_moves 42 = .ok (.ldc 93, 2) := by decide +kernel
theorem dX8_moves_44 : decode cX8_moves 44 = .ok (.ireturn, 1) := by decide +kernel
theorem dX8_at_0 : decode cX8_at 0 = .ok (.iload_n 1, 1) := by decide +kernel
theorem dX8_at_1 : decode cX8_at 1 = .ok (.invokestatic 82, 3) := by decide +kernel
theorem dX8_at_4 : decode cX8_at 4 = .ok (.ifCond .eq 14, 3) := by decide +kernel
theorem dX8_at_7 : decode cX8_at 7 = .ok (.aload_n 0, 1) := by decide +kernel
theorem dX8_at_8 : decode cX8_at 8 = .ok (.iload_n 1, 1) := by decide +kernel
theorem dX8_at_9 : decode cX8_at 9 = .ok (.invokevirtual 89, 3) := by decide +kernel
theorem dX8_at_12 : decode cX8_at 12 = .ok (.invokestatic 139, 3) := by decide +kernel
theorem dX8_at_15 : decode cX8_at 15 = .ok (.goto 5, 3) := by decide +kernel
theorem dX8_at_18 : decode cX8_at 18 = .ok (.ldc 88, 2) := by decide +kernel
theorem dX8_at_20 : decode cX8_at 20 = .ok (.ireturn, 1) := by decide +kernel
theorem dX8_rule_0 : decode cX8_rule 0 = .ok (.iload_n 1, 1) := by decide +kernel
theorem dX8_rule_1 : decode cX8_rule 1 = .ok (.i2l, 1) := by decide +kernel
theorem dX8_rule_2 : decode cX8_rule 2 = .ok (.lconst 0, 1) := by decide +kernel
theorem dX8_rule_3 : decode cX8_rule 3 = .ok (.ldc2_w 142, 3) := by decide +kernel
theorem dX8_rule_6 : decode cX8_rule 6 = .ok (.invokestatic 65, 3) := by decide +kernel
theorem dX8_rule_9 : decode cX8_rule 9 = .ok (.ifCond .eq 36, 3) := by decide +kernel
theorem dX8_rule_12 : decode cX8_rule 12 = .ok (.iload_n 2, 1) := by decide +kernel
theorem dX8_rule_13 : decode cX8_rule 13 = .ok (.i2l, 1) := by decide +kernel
theorem dX8_rule_14 : decode cX8_rule 14 = .ok (.lconst 0, 1) := by decide +kernel
theorem dX8_rule_15 : decode cX8_rule 15 = .ok (.iload_n 1, 1) := by decide +kernel
theorem dX8_rule_16 : decode cX8_rule 16 = .ok (.ifCond .ne 9, 3) := by decide +kernel
theorem dX8_rule_19 : decode cX8_rule 19 = .ok (.ldc2_w 70, 3) := by decide +kernel
theorem dX8_rule_22 : decode cX8_rule 22 = .ok (.goto 17, 3) := by decide +kernel
theorem dX8_rule_25 : decode cX8_rule 25 = .ok (.iload_n 1, 1) := by decide +kernel
theorem dX8_rule_26 : decode cX8_rule 26 = .ok (.iconst 1, 1) := by decide +kernel
theorem dX8_rule_27 : decode cX8_rule 27 = .ok (.if_icmp .ne 9, 3) := by decide +kernel
theorem dX8_rule_30 : decode cX8_rule 30 = .ok (.ldc2_w 144, 3) := by decide +kernel
theorem dX8_rule_33 : decode cX8_rule 33 = .ok (.goto 6, 3) := by decide +kernel
theorem dX8_rule_36 : decode cX8_rule 36 = .ok (.ldc2_w 146, 3) := by decide +kernel
theorem dX8_rule_39 : decode cX8_rule 39 = .ok (.invokestatic 65, 3) := by decide +kernel
theorem dX8_rule_42 : decode cX8_rule 42 = .ok (.ifCond .ne 6, 3) := by decide +kernel
theorem dX8_rule_45 : decode cX8_rule 45 = .ok (.ldc 88, 2) := by decide +kernel
theorem dX8_rule_47 : decode cX8_rule 47 = .ok (.ireturn, 1) := by decide +kernel
theorem dX8_rule_48 : decode cX8_rule 48 = .ok (.aload_n 0, 1) := by decide +kernel
theorem dX8_rule_49 : decode cX8_rule 49 = .ok (.iconst 3, 1) := by decide +kernel
theorem dX8_rule_50 : decode cX8_rule 50 = .ok (.iload_n 1, 1) := by decide +kernel
theorem dX8_rule_51 : decode cX8_rule 51 = .ok (.iadd, 1) := by decide +kernel
theorem dX8_rule_52 : decode cX8_rule 52 = .ok (.iload_n 2, 1) := by decide +kernel
theorem dX8_rule_53 : decode cX8_rule 53 = .ok (.invokevirtual 132, 3) := by decide +kernel
theorem dX8_rule_56 : decode cX8_rule 56 = .ok (.ireturn, 1) := by decide +kernel
theorem dX8_deal_0 : decode cX8_deal 0 = .ok (.iload_n 1, 1) := by decide +kernel
theorem dX8_deal_1 : decode cX8_deal 1 = .ok (.i2l, 1) := by decide +kernel
theorem dX8_deal_2 : decode cX8_deal 2 = .ok (.lconst 1, 1) := by decide +kernel
theorem dX8_deal_3 : decode cX8_deal 3 = .ok (.ldc2_w 148, 3) := by decide +kernel
theorem dX8_deal_6 : decode cX8_deal 6 = .ok (.invokestatic 65, 3) := by decide +kernel
theorem dX8_deal_9 : decode cX8_deal 9 = .ok (.ifCond .ne 6, 3) := by decide +kernel
theorem dX8_deal_12 : decode cX8_deal 12 = .ok (.ldc 88, 2) := by decide +kernel
theorem dX8_deal_14 : decode cX8_deal 14 = .ok (.ireturn, 1) := by decide +kernel
theorem dX8_deal_15 : decode cX8_deal 15 = .ok (.iconst 0, 1) := by decide +kernel
theorem dX8_deal_16 : decode cX8_deal 16 = .ok (.istore_n 2, 1) := by decide +kernel
theorem dX8_deal_17 : decode cX8_deal 17 = .ok (.iload_n 2, 1) := by decide +kernel
theorem dX8_deal_18 : decode cX8_deal 18 = .ok (.iload_n 1, 1) := by decide +kernel
theorem dX8_deal_19 : decode cX8_deal 19 = .ok (.if_icmp .ge 72, 3) := by decide +kernel
theorem dX8_deal_22 : decode cX8_deal 22 = .ok (.aload_n 0, 1) := by decide +kernel
theorem dX8_deal_23 : decode cX8_deal 23 = .ok (.getfield 7, 3) := by decide +kernel
theorem dX8_deal_26 : decode cX8_deal 26 = .ok (.iconst 0, 1) := by decide +kernel
theorem dX8_deal_27 : decode cX8_deal 27 = .ok (.iaload, 1) := by decide +kernel
theorem dX8_deal_28 : decode cX8_deal 28 = .ok (.bipush 10, 2) := by decide +kernel
theorem dX8_deal_30 : decode cX8_deal 30 = .ok (.if_icmp .ge 61, 3) := by decide +kernel
theorem dX8_deal_33 : decode cX8_deal 33 = .ok (.aload_n 0, 1) := by decide +kernel
theorem dX8_deal_34 : decode cX8_deal 34 = .ok (.invokevirtual 150, 3) := by decide +kernel
theorem dX8_deal_37 : decode cX8_deal 37 = .ok (.bipush 6, 2) := by decide +kernel
theorem dX8_deal_39 : decode cX8_deal 39 = .ok (.irem, 1) := by decide +kernel
theorem dX8_deal_40 : decode cX8_deal 40 = .ok (.istore_n 3, 1) := by decide +kernel
theorem dX8_deal_41 : decode cX8_deal 41 = .ok (.aload_n 0, 1) := by decide +kernel
theorem dX8_deal_42 : decode cX8_deal 42 = .ok (.invokevirtual 150, 3) := by decide +kernel
theorem dX8_deal_45 : decode cX8_deal 45 = .ok (.bipush 20, 2) := by decide +kernel
theorem dX8_deal_47 : decode cX8_deal 47 = .ok (.irem, 1) := by decide +kernel
theorem dX8_deal_48 : decode cX8_deal 48 = .ok (.istore 4, 2) := by decide +kernel
theorem dX8_deal_50 : decode cX8_deal 50 = .ok (.aload_n 0, 1) := by decide +kernel
theorem dX8_deal_51 : decode cX8_deal 51 = .ok (.iload 4, 2) := by decide +kernel
theorem dX8_deal_53 : decode cX8_deal 53 = .ok (.invokevirtual 89, 3) := by decide +kernel
theorem dX8_deal_56 : decode cX8_deal 56 = .ok (.ifCond .lt 15, 3) := by decide +kernel
theorem dX8_deal_59 : decode cX8_deal 59 = .ok (.iload 4, 2) := by decide +kernel
theorem dX8_deal_61 : decode cX8_deal 61 = .ok (.iconst 1, 1) := by decide +kernel
theorem dX8_deal_62 : decode cX8_deal 62 = .ok (.iadd, 1) := by decide +kernel
theorem dX8_deal_63 : decode cX8_deal 63 = .ok (.bipush 20, 2) := by decide +kernel
theorem dX8_deal_65 : decode cX8_deal 65 = .ok (.irem, 1) := by decide +kernel
theorem dX8_deal_66 : decode cX8_deal 66 = .ok (.istore 4, 2) := by decide +kernel
theorem dX8_deal_68 : decode cX8_deal 68 = .ok (.goto (-18), 3) := by decide +kernel
theorem dX8_deal_71 : decode cX8_deal 71 = .ok (.aload_n 0, 1) := by decide +kernel
theorem dX8_deal_72 : decode cX8_deal 72 = .ok (.iload_n 3, 1) := by decide +kernel
theorem dX8_deal_73 : decode cX8_deal 73 = .ok (.iload 4, 2) := by decide +kernel
theorem dX8_deal_75 : decode cX8_deal 75 = .ok (.aload_n 0, 1) := by decide +kernel
theorem dX8_deal_76 : decode cX8_deal 76 = .ok (.invokevirtual 150, 3) := by decide +kernel
theorem dX8_deal_79 : decode cX8_deal 79 = .ok (.bipush 60, 2) := by decide +kernel
theorem dX8_deal_81 : decode cX8_deal 81 = .ok (.irem, 1) := by decide +kernel
theorem dX8_deal_82 : decode cX8_deal 82 = .ok (.invokevirtual 95, 3) := by decide +kernel
theorem dX8_deal_85 : decode cX8_deal 85 = .ok (.iinc 2 1, 3) := by decide +kernel
theorem dX8_deal_88 : decode cX8_deal 88 = .ok (.goto (-71), 3) := by decide +kernel
theorem dX8_deal_91 : decode cX8_deal 91 = .ok (.iload_n 2, 1) := by decide +kernel
theorem dX8_deal_92 : decode cX8_deal 92 = .ok (.ireturn, 1) := by decide +kernel
theorem dX8_seed_0 : decode cX8_seed 0 = .ok (.aload_n 0, 1) := by decide +kernel
theorem dX8_seed_1 : decode cX8_seed 1 = .ok (.bipush 11, 2) := by decide +kernel
theorem dX8_seed_3 : decode cX8_seed 3 = .ok (.iload_n 1, 1) := by decide +kernel
theorem dX8_seed_4 : decode cX8_seed 4 = .ok (.invokevirtual 132, 3) := by decide +kernel
theorem dX8_seed_7 : decode cX8_seed 7 = .ok (.ireturn, 1) := by decide +kernel
theorem dX8_counted_0 : decode cX8_counted 0 = .ok (.iconst 0, 1) := by decide +kernel
theorem dX8_counted_1 : decode cX8_counted 1 = .ok (.istore_n 1, 1) := by decide +kernel
theorem dX8_counted_2 : decode cX8_counted 2 = .ok (.iconst 0, 1) := by decide +kernel
theorem dX8_counted_3 : decode cX8_counted 3 = .ok (.istore_n 2, 1) := by decide +kernel
theorem dX8_counted_4 : decode cX8_counted 4 = .ok (.iload_n 2, 1) := by decide +kernel
theorem dX8_counted_5 : decode cX8_counted 5 = .ok (.aload_n 0, 1) := by decide +kernel
theorem dX8_counted_6 : decode cX8_counted 6 = .ok (.getfield 7, 3) := by decide +kernel
theorem dX8_counted_9 : decode cX8_counted 9 = .ok (.iconst 0, 1) := by decide +kernel
theorem dX8_counted_10 : decode cX8_counted 10 = .ok (.iaload, 1) := by decide +kernel
theorem dX8_counted_11 : decode cX8_counted 11 = .ok (.if_icmp .ge 42, 3) := by decide +kernel
theorem dX8_counted_14 : decode cX8_counted 14 = .ok (.iload_n 1, 1) := by decide +kernel
theorem dX8_counted_15 : decode cX8_counted 15 = .ok (.aload_n 0, 1) := by decide +kernel
theorem dX8_counted_16 : decode cX8_counted 16 = .ok (.iload_n 2, 1) := by decide +kernel
theorem dX8_counted_17 : decode cX8_counted 17 = .ok (.iconst 4, 1) := by decide +kernel
theorem dX8_counted_18 : decode cX8_counted 18 = .ok (.invokevirtual 72, 3) := by decide +kernel
theorem dX8_counted_21 : decode cX8_counted 21 = .ok (.iconst 1, 1) := by decide +kernel
theorem dX8_counted_22 : decode cX8_counted 22 = .ok (.if_icmp .ne 22, 3) := by decide +kernel
theorem dX8_counted_25 : decode cX8_counted 25 = .ok (.aload_n 0, 1) := by decide +kernel
theorem dX8_counted_26 : decode cX8_counted 26 = .ok (.iload_n 2, 1) := by decide +kernel
theorem dX8_counted_27 : decode cX8_counted 27 = .ok (.iconst 3, 1) := by decide +kernel
theorem dX8_counted_28 : decode cX8_counted 28 = .ok (.invokevirtual 72, 3) := by decide +kernel
theorem dX8_counted_31 : decode cX8_counted 31 = .ok (.bipush 50, 2) := by decide +kernel
theorem dX8_counted_33 : decode cX8_counted 33 = .ok (.if_icmp .ge 11, 3) := by decide +kernel
theorem dX8_counted_36 : decode cX8_counted 36 = .ok (.aload_n 0, 1) := by decide +kernel
theorem dX8_counted_37 : decode cX8_counted 37 = .ok (.iload_n 2, 1) := by decide +kernel
theorem dX8_counted_38 : decode cX8_counted 38 = .ok (.invokevirtual 115, 3) := by decide +kernel
theorem dX8_counted_41 : decode cX8_counted 41 = .ok (.goto 4, 3) := by decide +kernel
theorem dX8_counted_44 : decode cX8_counted 44 = .ok (.iconst 0, 1) := by decide +kernel
theorem dX8_counted_45 : decode cX8_counted 45 = .ok (.iadd, 1) := by decide +kernel
theorem dX8_counted_46 : decode cX8_counted 46 = .ok (.istore_n 1, 1) := by decide +kernel
theorem dX8_counted_47 : decode cX8_counted 47 = .ok (.iinc 2 1, 3) := by decide +kernel
theorem dX8_counted_50 : decode cX8_counted 50 = .ok (.goto (-46), 3) := by decide +kernel
theorem dX8_counted_53 : decode cX8_counted 53 = .ok (.iload_n 1, 1) := by decide +kernel
theorem dX8_counted_54 : decode cX8_counted 54 = .ok (.ireturn, 1) := by decide +kernel
theorem dX8_strength_0 : decode cX8_strength 0 = .ok (.iconst 0, 1) := by decide +kernel
theorem dX8_strength_1 : decode cX8_strength 1 = .ok (.istore_n 1, 1) := by decide +kernel
theorem dX8_strength_2 : decode cX8_strength 2 = .ok (.iconst 0, 1) := by decide +kernel
theorem dX8_strength_3 : decode cX8_strength 3 = .ok (.istore_n 2, 1) := by decide +kernel
theorem dX8_strength_4 : decode cX8_strength 4 = .ok (.iload_n 2, 1) := by decide +kernel
theorem dX8_strength_5 : decode cX8_strength 5 = .ok (.aload_n 0, 1) := by decide +kernel
theorem dX8_strength_6 : decode cX8_strength 6 = .ok (.getfield 7, 3) := by decide +kernel
theorem dX8_strength_9 : decode cX8_strength 9 = .ok (.iconst 0, 1) := by decide +kernel
theorem dX8_strength_10 : decode cX8_strength 10 = .ok (.iaload, 1) := by decide +kernel
theorem dX8_strength_11 : decode cX8_strength 11 = .ok (.if_icmp .ge 31, 3) := by decide +kernel
theorem dX8_strength_14 : decode cX8_strength 14 = .ok (.iload_n 1, 1) := by decide +kernel
theorem dX8_strength_15 : decode cX8_strength 15 = .ok (.aload_n 0, 1) := by decide +kernel
theorem dX8_strength_16 : decode cX8_strength 16 = .ok (.iload_n 2, 1) := by decide +kernel
theorem dX8_strength_17 : decode cX8_strength 17 = .ok (.iconst 4, 1) := by decide +kernel
theorem dX8_strength_18 : decode cX8_strength 18 = .ok (.invokevirtual 72, 3) := by decide +kernel
theorem dX8_strength_21 : decode cX8_strength 21 = .ok (.iconst 1, 1) := by decide +kernel
theorem dX8_strength_22 : decode cX8_strength 22 = .ok (.if_icmp .ne 11, 3) := by decide +kernel
theorem dX8_strength_25 : decode cX8_strength 25 = .ok (.aload_n 0, 1) := by decide +kernel
theorem dX8_strength_26 : decode cX8_strength 26 = .ok (.iload_n 2, 1) := by decide +kernel
theorem dX8_strength_27 : decode cX8_strength 27 = .ok (.invokevirtual 121, 3) := by decide +kernel
theorem dX8_strength_30 : decode cX8_strength 30 = .ok (.goto 4, 3) := by decide +kernel
theorem dX8_strength_33 : decode cX8_strength 33 = .ok (.iconst 0, 1) := by decide +kernel
theorem dX8_strength_34 : decode cX8_strength 34 = .ok (.iadd, 1) := by decide +kernel
theorem dX8_strength_35 : decode cX8_strength 35 = .ok (.istore_n 1, 1) := by decide +kernel
theorem dX8_strength_36 : decode cX8_strength 36 = .ok (.iinc 2 1, 3) := by decide +kernel
theorem dX8_strength_39 : decode cX8_strength 39 = .ok (.goto (-35), 3) := by decide +kernel
theorem dX8_strength_42 : decode cX8_strength 42 = .ok (.iload_n 1, 1) := by decide +kernel
theorem dX8_strength_43 : decode cX8_strength 43 = .ok (.ireturn, 1) := by decide +kernel
theorem dX8_blows_0 : decode cX8_blows 0 = .ok (.aload_n 0, 1) := by decide +kernel
theorem dX8_blows_1 : decode cX8_blows 1 = .ok (.invokevirtual 150, 3) := by decide +kernel
theorem dX8_blows_4 : decode cX8_blows 4 = .ok (.bipush 100, 2) := by decide +kernel
theorem dX8_blows_6 : decode cX8_blows 6 = .ok (.irem, 1) := by decide +kernel
theorem dX8_blows_7 : decode cX8_blows 7 = .ok (.istore_n 1, 1) := by decide +kernel
theorem dX8_blows_8 : decode cX8_blows 8 = .ok (.iconst 0, 1) := by decide +kernel
theorem dX8_blows_9 : decode cX8_blows 9 = .ok (.istore_n 2, 1) := by decide +kernel
theorem dX8_blows_10 : decode cX8_blows 10 = .ok (.iload_n 2, 1) := by decide +kernel
theorem dX8_blows_11 : decode cX8_blows 11 = .ok (.aload_n 0, 1) := by decide +kernel
theorem dX8_blows_12 : decode cX8_blows 12 = .ok (.getfield 7, 3) := by decide +kernel
theorem dX8_blows_15 : decode cX8_blows 15 = .ok (.iconst 0, 1) := by decide +kernel
theorem dX8_blows_16 : decode cX8_blows 16 = .ok (.iaload, 1) := by decide +kernel
theorem dX8_blows_17 : decode cX8_blows 17 = .ok (.if_icmp .ge 46, 3) := by decide +kernel
theorem dX8_blows_20 : decode cX8_blows 20 = .ok (.aload_n 0, 1) := by decide +kernel
theorem dX8_blows_21 : decode cX8_blows 21 = .ok (.iload_n 2, 1) := by decide +kernel
theorem dX8_blows_22 : decode cX8_blows 22 = .ok (.iconst 4, 1) := by decide +kernel
theorem dX8_blows_23 : decode cX8_blows 23 = .ok (.invokevirtual 72, 3) := by decide +kernel
theorem dX8_blows_26 : decode cX8_blows 26 = .ok (.iconst 1, 1) := by decide +kernel
theorem dX8_blows_27 : decode cX8_blows 27 = .ok (.if_icmp .ne 30, 3) := by decide +kernel
theorem dX8_blows_30 : decode cX8_blows 30 = .ok (.aload_n 0, 1) := by decide +kernel
theorem dX8_blows_31 : decode cX8_blows 31 = .ok (.iload_n 2, 1) := by decide +kernel
theorem dX8_blows_32 : decode cX8_blows 32 = .ok (.invokevirtual 118, 3) := by decide +kernel
theorem dX8_blows_35 : decode cX8_blows 35 = .ok (.iload_n 1, 1) := by decide +kernel
theorem dX8_blows_36 : decode cX8_blows 36 = .ok (.if_icmp .le 21, 3) := by decide +kernel
theorem dX8_blows_39 : decode cX8_blows 39 = .ok (.aload_n 0, 1) := by decide +kernel
theorem dX8_blows_40 : decode cX8_blows 40 = .ok (.iload_n 2, 1) := by decide +kernel
theorem dX8_blows_41 : decode cX8_blows 41 = .ok (.iconst 4, 1) := by decide +kernel
theorem dX8_blows_42 : decode cX8_blows 42 = .ok (.iconst 0, 1) := by decide +kernel
theorem dX8_blows_43 : decode cX8_blows 43 = .ok (.invokevirtual 76, 3) := by decide +kernel
theorem dX8_blows_46 : decode cX8_blows 46 = .ok (.aload_n 0, 1) := by decide +kernel
theorem dX8_blows_47 : decode cX8_blows 47 = .ok (.getfield 7, 3) := by decide +kernel
theorem dX8_blows_50 : decode cX8_blows 50 = .ok (.bipush 7, 2) := by decide +kernel
theorem dX8_blows_52 : decode cX8_blows 52 = .ok (.dup2, 1) := by decide +kernel
theorem dX8_blows_53 : decode cX8_blows 53 = .ok (.iaload, 1) := by decide +kernel
theorem dX8_blows_54 : decode cX8_blows 54 = .ok (.iconst 1, 1) := by decide +kernel
theorem dX8_blows_55 : decode cX8_blows 55 = .ok (.iadd, 1) := by decide +kernel
theorem dX8_blows_56 : decode cX8_blows 56 = .ok (.iastore, 1) := by decide +kernel
theorem dX8_blows_57 : decode cX8_blows 57 = .ok (.iinc 2 1, 3) := by decide +kernel
theorem dX8_blows_60 : decode cX8_blows 60 = .ok (.goto (-50), 3) := by decide +kernel
theorem dX8_blows_63 : decode cX8_blows 63 = .ok (.return_, 1) := by decide +kernel
theorem dX8_rises_0 : decode cX8_rises 0 = .ok (.iconst 0, 1) := by decide +kernel
theorem dX8_rises_1 : decode cX8_rises 1 = .ok (.istore_n 2, 1) := by decide +kernel
theorem dX8_rises_2 : decode cX8_rises 2 = .ok (.iload_n 2, 1) := by decide +kernel
theorem dX8_rises_3 : decode cX8_rises 3 = .ok (.aload_n 0, 1) := by decide +kernel
theorem dX8_rises_4 : decode cX8_rises 4 = .ok (.getfield 7, 3) := by decide +kernel
theorem dX8_rises_7 : decode cX8_rises 7 = .ok (.iconst 0, 1) := by decide +kernel
theorem dX8_rises_8 : decode cX8_rises 8 = .ok (.iaload, 1) := by decide +kernel
theorem dX8_rises_9 : decode cX8_rises 9 = .ok (.if_icmp .ge 38, 3) := by decide +kernel
theorem dX8_rises_12 : decode cX8_rises 12 = .ok (.aload_n 0, 1) := by decide +kernel
theorem dX8_rises_13 : decode cX8_rises 13 = .ok (.iload_n 2, 1) := by decide +kernel
theorem dX8_rises_14 : decode cX8_rises 14 = .ok (.iconst 4, 1) := by decide +kernel
theorem dX8_rises_15 : decode cX8_rises 15 = .ok (.invokevirtual 72, 3) := by decide +kernel
theorem dX8_rises_18 : decode cX8_rises 18 = .ok (.iconst 1, 1) := by decide +kernel
theorem dX8_rises_19 : decode cX8_rises 19 = .ok (.if_icmp .eq 22, 3) := by decide +kernel
theorem dX8_rises_22 : decode cX8_rises 22 = .ok (.aload_n 0, 1) := by decide +kernel
theorem dX8_rises_23 : decode cX8_rises 23 = .ok (.iload_n 2, 1) := by decide +kernel
theorem dX8_rises_24 : decode cX8_rises 24 = .ok (.iconst 1, 1) := by decide +kernel
theorem dX8_rises_25 : decode cX8_rises 25 = .ok (.invokevirtual 72, 3) := by decide +kernel
theorem dX8_rises_28 : decode cX8_rises 28 = .ok (.aload_n 0, 1) := by decide +kernel
theorem dX8_rises_29 : decode cX8_rises 29 = .ok (.iload_n 1, 1) := by decide +kernel
theorem dX8_rises_30 : decode cX8_rises 30 = .ok (.iconst 1, 1) := by decide +kernel
theorem dX8_rises_31 : decode cX8_rises 31 = .ok (.invokevirtual 72, 3) := by decide +kernel
theorem dX8_rises_34 : decode cX8_rises 34 = .ok (.invokestatic 154, 3) := by decide +kernel
theorem dX8_rises_37 : decode cX8_rises 37 = .ok (.iconst 2, 1) := by decide +kernel
theorem dX8_rises_38 : decode cX8_rises 38 = .ok (.if_icmp .le 9, 3) := by decide +kernel
theorem dX8_rises_41 : decode cX8_rises 41 = .ok (.iinc 2 1, 3) := by decide +kernel
theorem dX8_rises_44 : decode cX8_rises 44 = .ok (.goto (-42), 3) := by decide +kernel
theorem dX8_rises_47 : decode cX8_rises 47 = .ok (.iload_n 2, 1) := by decide +kernel
theorem dX8_rises_48 : decode cX8_rises 48 = .ok (.aload_n 0, 1) := by decide +kernel
theorem dX8_rises_49 : decode cX8_rises 49 = .ok (.getfield 7, 3) := by decide +kernel
theorem dX8_rises_52 : decode cX8_rises 52 = .ok (.iconst 0, 1) := by decide +kernel
theorem dX8_rises_53 : decode cX8_rises 53 = .ok (.iaload, 1) := by decide +kernel
theorem dX8_rises_54 : decode cX8_rises 54 = .ok (.if_icmp .ge 10, 3) := by decide +kernel
theorem dX8_rises_57 : decode cX8_rises 57 = .ok (.aload_n 0, 1) := by decide +kernel
theorem dX8_rises_58 : decode cX8_rises 58 = .ok (.iload_n 2, 1) := by decide +kernel
theorem dX8_rises_59 : decode cX8_rises 59 = .ok (.iconst 4, 1) := by decide +kernel
theorem dX8_rises_60 : decode cX8_rises 60 = .ok (.iconst 1, 1) := by decide +kernel
theorem dX8_rises_61 : decode cX8_rises 61 = .ok (.invokevirtual 76, 3) := by decide +kernel
theorem dX8_rises_64 : decode cX8_rises 64 = .ok (.return_, 1) := by decide +kernel
theorem dX8_watches_0 : decode cX8_watches 0 = .ok (.aload_n 0, 1) := by decide +kernel
theorem dX8_watches_1 : decode cX8_watches 1 = .ok (.invokevirtual 150, 3) := by decide +kernel
theorem dX8_watches_4 : decode cX8_watches 4 = .ok (.bipush 20, 2) := by decide +kernel
theorem dX8_watches_6 : decode cX8_watches 6 = .ok (.irem, 1) := by decide +kernel
theorem dX8_watches_7 : decode cX8_watches 7 = .ok (.istore_n 1, 1) := by decide +kernel
theorem dX8_watches_8 : decode cX8_watches 8 = .ok (.iconst 0, 1) := by decide +kernel
theorem dX8_watches_9 : decode cX8_watches 9 = .ok (.istore_n 2, 1) := by decide +kernel
theorem dX8_watches_10 : decode cX8_watches 10 = .ok (.iload_n 2, 1) := by decide +kernel
theorem dX8_watches_11 : decode cX8_watches 11 = .ok (.aload_n 0, 1) := by decide +kernel
theorem dX8_watches_12 : decode cX8_watches 12 = .ok (.getfield 7, 3) := by decide +kernel
theorem dX8_watches_15 : decode cX8_watches 15 = .ok (.iconst 0, 1) := by decide +kernel
theorem dX8_watches_16 : decode cX8_watches 16 = .ok (.iaload, 1) := by decide +kernel
theorem dX8_watches_17 : decode cX8_watches 17 = .ok (.if_icmp .ge 79, 3) := by decide +kernel
theorem dX8_watches_20 : decode cX8_watches 20 = .ok (.aload_n 0, 1) := by decide +kernel
theorem dX8_watches_21 : decode cX8_watches 21 = .ok (.iload_n 2, 1) := by decide +kernel
theorem dX8_watches_22 : decode cX8_watches 22 = .ok (.iconst 1, 1) := by decide +kernel
theorem dX8_watches_23 : decode cX8_watches 23 = .ok (.invokevirtual 72, 3) := by decide +kernel
theorem dX8_watches_26 : decode cX8_watches 26 = .ok (.iload_n 1, 1) := by decide +kernel
theorem dX8_watches_27 : decode cX8_watches 27 = .ok (.invokestatic 154, 3) := by decide +kernel
theorem dX8_watches_30 : decode cX8_watches 30 = .ok (.aload_n 0, 1) := by decide +kernel
theorem dX8_watches_31 : decode cX8_watches 31 = .ok (.getfield 7, 3) := by decide +kernel
theorem dX8_watches_34 : decode cX8_watches 34 = .ok (.iconst 3, 1) := by decide +kernel
theorem dX8_watches_35 : decode cX8_watches 35 = .ok (.iaload, 1) := by decide +kernel
theorem dX8_watches_36 : decode cX8_watches 36 = .ok (.if_icmp .gt 54, 3) := by decide +kernel
theorem dX8_watches_39 : decode cX8_watches 39 = .ok (.aload_n 0, 1) := by decide +kernel
theorem dX8_watches_40 : decode cX8_watches 40 = .ok (.iload_n 2, 1) := by decide +kernel
theorem dX8_watches_41 : decode cX8_watches 41 = .ok (.iconst 4, 1) := by decide +kernel
theorem dX8_watches_42 : decode cX8_watches 42 = .ok (.invokevirtual 72, 3) := by decide +kernel
theorem dX8_watches_45 : decode cX8_watches 45 = .ok (.ifCond .ne 8, 3) := by decide +kernel
theorem dX8_watches_48 : decode cX8_watches 48 = .ok (.bipush 20, 2) := by decide +kernel
theorem dX8_watches_50 : decode cX8_watches 50 = .ok (.goto 20, 3) := by decide +kernel
theorem dX8_watches_53 : decode cX8_watches 53 = .ok (.aload_n 0, 1) := by decide +kernel
theorem dX8_watches_54 : decode cX8_watches 54 = .ok (.iload_n 2, 1) := by decide +kernel
theorem dX8_watches_55 : decode cX8_watches 55 = .ok (.invokevirtual 115, 3) := by decide +kernel
theorem dX8_watches_58 : decode cX8_watches 58 = .ok (.bipush 40, 2) := by decide +kernel
theorem dX8_watches_60 : decode cX8_watches 60 = .ok (.if_icmp .ge 8, 3) := by decide +kernel
theorem dX8_watches_63 : decode cX8_watches 63 = .ok (.bipush 9, 2) := by decide +kernel
theorem dX8_watches_65 : decode cX8_watches 65 = .ok (.goto 5, 3) := by decide +kernel
theorem dX8_watches_68 : decode cX8_watches 68 = .ok (.bipush (-3), 2) := by decide +kernel
theorem dX8_watches_70 : decode cX8_watches 70 = .ok (.istore_n 3, 1) := by decide +kernel
theorem dX8_watches_71 : decode cX8_watches 71 = .ok (.aload_n 0, 1) := by decide +kernel
theorem dX8_watches_72 : decode cX8_watches 72 = .ok (.iload_n 2, 1) := by decide +kernel
theorem dX8_watches_73 : decode cX8_watches 73 = .ok (.iconst 3, 1) := by decide +kernel
theorem dX8_watches_74 : decode cX8_watches 74 = .ok (.aload_n 0, 1) := by decide +kernel
theorem dX8_watches_75 : decode cX8_watches 75 = .ok (.iload_n 2, 1) := by decide +kernel
theorem dX8_watches_76 : decode cX8_watches 76 = .ok (.iconst 3, 1) := by decide +kernel
theorem dX8_watches_77 : decode cX8_watches 77 = .ok (.invokevirtual 72, 3) := by decide +kernel
theorem dX8_watches_80 : decode cX8_watches 80 = .ok (.iload_n 3, 1) := by decide +kernel
theorem dX8_watches_81 : decode cX8_watches 81 = .ok (.iadd, 1) := by decide +kernel
theorem dX8_watches_82 : decode cX8_watches 82 = .ok (.bipush 99, 2) := by decide +kernel
theorem dX8_watches_84 : decode cX8_watches 84 = .ok (.invokestatic 104, 3) := by decide +kernel
theorem dX8_watches_87 : decode cX8_watches 87 = .ok (.invokevirtual 76, 3) := by decide +kernel
theorem dX8_watches_90 : decode cX8_watches 90 = .ok (.iinc 2 1, 3) := by decide +kernel
theorem dX8_watches_93 : decode cX8_watches 93 = .ok (.goto (-83), 3) := by decide +kernel
theorem dX8_watches_96 : decode cX8_watches 96 = .ok (.return_, 1) := by decide +kernel
theorem dX8_goesOn_0 : decode cX8_goesOn 0 = .ok (.aload_n 0, 1) := by decide +kernel
theorem dX8_goesOn_1 : decode cX8_goesOn 1 = .ok (.invokevirtual 157, 3) := by decide +kernel
theorem dX8_goesOn_4 : decode cX8_goesOn 4 = .ok (.iconst 0, 1) := by decide +kernel
theorem dX8_goesOn_5 : decode cX8_goesOn 5 = .ok (.istore_n 1, 1) := by decide +kernel
theorem dX8_goesOn_6 : decode cX8_goesOn 6 = .ok (.iload_n 1, 1) := by decide +kernel
theorem dX8_goesOn_7 : decode cX8_goesOn 7 = .ok (.aload_n 0, 1) := by decide +kernel
theorem dX8_goesOn_8 : decode cX8_goesOn 8 = .ok (.getfield 7, 3) := by decide +kernel
theorem dX8_goesOn_11 : decode cX8_goesOn 11 = .ok (.iconst 0, 1) := by decide +kernel
theorem dX8_goesOn_12 : decode cX8_goesOn 12 = .ok (.iaload, 1) := by decide +kernel
theorem dX8_goesOn_13 : decode cX8_goesOn 13 = .ok (.if_icmp .ge 32, 3) := by decide +kernel
theorem dX8_goesOn_16 : decode cX8_goesOn 16 = .ok (.aload_n 0, 1) := by decide +kernel
theorem dX8_goesOn_17 : decode cX8_goesOn 17 = .ok (.iload_n 1, 1) := by decide +kernel
theorem dX8_goesOn_18 : decode cX8_goesOn 18 = .ok (.invokevirtual 160, 3) := by decide +kernel
theorem dX8_goesOn_21 : decode cX8_goesOn 21 = .ok (.ifCond .eq 18, 3) := by decide +kernel
theorem dX8_goesOn_24 : decode cX8_goesOn 24 = .ok (.aload_n 0, 1) := by decide +kernel
theorem dX8_goesOn_25 : decode cX8_goesOn 25 = .ok (.iload_n 1, 1) := by decide +kernel
theorem dX8_goesOn_26 : decode cX8_goesOn 26 = .ok (.iconst 4, 1) := by decide +kernel
theorem dX8_goesOn_27 : decode cX8_goesOn 27 = .ok (.invokevirtual 72, 3) := by decide +kernel
theorem dX8_goesOn_30 : decode cX8_goesOn 30 = .ok (.iconst 1, 1) := by decide +kernel
theorem dX8_goesOn_31 : decode cX8_goesOn 31 = .ok (.if_icmp .ne 8, 3) := by decide +kernel
theorem dX8_goesOn_34 : decode cX8_goesOn 34 = .ok (.aload_n 0, 1) := by decide +kernel
theorem dX8_goesOn_35 : decode cX8_goesOn 35 = .ok (.iload_n 1, 1) := by decide +kernel
theorem dX8_goesOn_36 : decode cX8_goesOn 36 = .ok (.invokevirtual 163, 3) := by decide +kernel
theorem dX8_goesOn_39 : decode cX8_goesOn 39 = .ok (.iinc 1 1, 3) := by decide +kernel
theorem dX8_goesOn_42 : decode cX8_goesOn 42 = .ok (.goto (-36), 3) := by decide +kernel
theorem dX8_goesOn_45 : decode cX8_goesOn 45 = .ok (.aload_n 0, 1) := by decide +kernel
theorem dX8_goesOn_46 : decode cX8_goesOn 46 = .ok (.invokevirtual 167, 3) := by decide +kernel
theorem dX8_goesOn_49 : decode cX8_goesOn 49 = .ok (.aload_n 0, 1) := by decide +kernel
theorem dX8_goesOn_50 : decode cX8_goesOn 50 = .ok (.invokevirtual 150, 3) := by decide +kernel
theorem dX8_goesOn_53 : decode cX8_goesOn 53 = .ok (.bipush 100, 2) := by decide +kernel
theorem dX8_goesOn_55 : decode cX8_goesOn 55 = .ok (.irem, 1) := by decide +kernel
theorem dX8_goesOn_56 : decode cX8_goesOn 56 = .ok (.aload_n 0, 1) := by decide +kernel
theorem dX8_goesOn_57 : decode cX8_goesOn 57 = .ok (.getfield 7, 3) := by decide +kernel
theorem dX8_goesOn_60 : decode cX8_goesOn 60 = .ok (.iconst 4, 1) := by decide +kernel
theorem dX8_goesOn_61 : decode cX8_goesOn 61 = .ok (.iaload, 1) := by decide +kernel
theorem dX8_goesOn_62 : decode cX8_goesOn 62 = .ok (.if_icmp .ge 57, 3) := by decide +kernel
theorem dX8_goesOn_65 : decode cX8_goesOn 65 = .ok (.iconst 0, 1) := by decide +kernel
theorem dX8_goesOn_66 : decode cX8_goesOn 66 = .ok (.istore_n 1, 1) := by decide +kernel
theorem dX8_goesOn_67 : decode cX8_goesOn 67 = .ok (.iload_n 1, 1) := by decide +kernel
theorem dX8_goesOn_68 : decode cX8_goesOn 68 = .ok (.aload_n 0, 1) := by decide +kernel
theorem dX8_goesOn_69 : decode cX8_goesOn 69 = .ok (.getfield 7, 3) := by decide +kernel
theorem dX8_goesOn_72 : decode cX8_goesOn 72 = .ok (.iconst 0, 1) := by decide +kernel
theorem dX8_goesOn_73 : decode cX8_goesOn 73 = .ok (.iaload, 1) := by decide +kernel
theorem dX8_goesOn_74 : decode cX8_goesOn 74 = .ok (.if_icmp .ge 45, 3) := by decide +kernel
theorem dX8_goesOn_77 : decode cX8_goesOn 77 = .ok (.aload_n 0, 1) := by decide +kernel
theorem dX8_goesOn_78 : decode cX8_goesOn 78 = .ok (.iload_n 1, 1) := by decide +kernel
theorem dX8_goesOn_79 : decode cX8_goesOn 79 = .ok (.iconst 2, 1) := by decide +kernel
theorem dX8_goesOn_80 : decode cX8_goesOn 80 = .ok (.aload_n 0, 1) := by decide +kernel
theorem dX8_goesOn_81 : decode cX8_goesOn 81 = .ok (.iload_n 1, 1) := by decide +kernel
theorem dX8_goesOn_82 : decode cX8_goesOn 82 = .ok (.invokevirtual 160, 3) := by decide +kernel
theorem dX8_goesOn_85 : decode cX8_goesOn 85 = .ok (.ifCond .eq 12, 3) := by decide +kernel
theorem dX8_goesOn_88 : decode cX8_goesOn 88 = .ok (.aload_n 0, 1) := by decide +kernel
theorem dX8_goesOn_89 : decode cX8_goesOn 89 = .ok (.iload_n 1, 1) := by decide +kernel
theorem dX8_goesOn_90 : decode cX8_goesOn 90 = .ok (.iconst 2, 1) := by decide +kernel
theorem dX8_goesOn_91 : decode cX8_goesOn 91 = .ok (.invokevirtual 72, 3) := by decide +kernel
theorem dX8_goesOn_94 : decode cX8_goesOn 94 = .ok (.goto 16, 3) := by decide +kernel
theorem dX8_goesOn_97 : decode cX8_goesOn 97 = .ok (.aload_n 0, 1) := by decide +kernel
theorem dX8_goesOn_98 : decode cX8_goesOn 98 = .ok (.iload_n 1, 1) := by decide +kernel
theorem dX8_goesOn_99 : decode cX8_goesOn 99 = .ok (.iconst 2, 1) := by decide +kernel
theorem dX8_goesOn_100 : decode cX8_goesOn 100 = .ok (.invokevirtual 72, 3) := by decide +kernel
theorem dX8_goesOn_103 : decode cX8_goesOn 103 = .ok (.iconst 3, 1) := by decide +kernel
theorem dX8_goesOn_104 : decode cX8_goesOn 104 = .ok (.iadd, 1) := by decide +kernel
theorem dX8_goesOn_105 : decode cX8_goesOn 105 = .ok (.bipush 99, 2) := by decide +kernel
theorem dX8_goesOn_107 : decode cX8_goesOn 107 = .ok (.invokestatic 104, 3) := by decide +kernel
theorem dX8_goesOn_110 : decode cX8_goesOn 110 = .ok (.invokevirtual 76, 3) := by decide +kernel
theorem dX8_goesOn_113 : decode cX8_goesOn 113 = .ok (.iinc 1 1, 3) := by decide +kernel
theorem dX8_goesOn_116 : decode cX8_goesOn 116 = .ok (.goto (-49), 3) := by decide +kernel
theorem dX8_goesOn_119 : decode cX8_goesOn 119 = .ok (.aload_n 0, 1) := by decide +kernel
theorem dX8_goesOn_120 : decode cX8_goesOn 120 = .ok (.invokevirtual 170, 3) := by decide +kernel
theorem dX8_goesOn_123 : decode cX8_goesOn 123 = .ok (.aload_n 0, 1) := by decide +kernel
theorem dX8_goesOn_124 : decode cX8_goesOn 124 = .ok (.getfield 7, 3) := by decide +kernel
theorem dX8_goesOn_127 : decode cX8_goesOn 127 = .ok (.iconst 5, 1) := by decide +kernel
theorem dX8_goesOn_128 : decode cX8_goesOn 128 = .ok (.iaload, 1) := by decide +kernel
theorem dX8_goesOn_129 : decode cX8_goesOn 129 = .ok (.if_icmp .ge 33, 3) := by decide +kernel
theorem dX8_goesOn_132 : decode cX8_goesOn 132 = .ok (.aload_n 0, 1) := by decide +kernel
theorem dX8_goesOn_133 : decode cX8_goesOn 133 = .ok (.getfield 7, 3) := by decide +kernel
theorem dX8_goesOn_136 : decode cX8_goesOn 136 = .ok (.aload_n 0, 1) := by decide +kernel
theorem dX8_goesOn_137 : decode cX8_goesOn 137 = .ok (.invokevirtual 173, 3) := by decide +kernel
theorem dX8_goesOn_140 : decode cX8_goesOn 140 = .ok (.aload_n 0, 1) := by decide +kernel
theorem dX8_goesOn_141 : decode cX8_goesOn 141 = .ok (.getfield 7, 3) := by decide +kernel
theorem dX8_goesOn_144 : decode cX8_goesOn 144 = .ok (.bipush 6, 2) := by decide +kernel
theorem dX8_goesOn_146 : decode cX8_goesOn 146 = .ok (.iaload, 1) := by decide +kernel
theorem dX8_goesOn_147 : decode cX8_goesOn 147 = .ok (.if_icmp .lt 8, 3) := by decide +kernel
theorem dX8_goesOn_150 : decode cX8_goesOn 150 = .ok (.bipush 8, 2) := by decide +kernel
theorem dX8_goesOn_152 : decode cX8_goesOn 152 = .ok (.goto 5, 3) := by decide +kernel
theorem dX8_goesOn_155 : decode cX8_goesOn 155 = .ok (.bipush 9, 2) := by decide +kernel
theorem dX8_goesOn_157 : decode cX8_goesOn 157 = .ok (.dup2, 1) := by decide +kernel
theorem dX8_goesOn_158 : decode cX8_goesOn 158 = .ok (.iaload, 1) := by decide +kernel
theorem dX8_goesOn_159 : decode cX8_goesOn 159 = .ok (.iconst 1, 1) := by decide +kernel
theorem dX8_goesOn_160 : decode cX8_goesOn 160 = .ok (.iadd, 1) := by decide +kernel
theorem dX8_goesOn_161 : decode cX8_goesOn 161 = .ok (.iastore, 1) := by decide +kernel
theorem dX8_goesOn_162 : decode cX8_goesOn 162 = .ok (.aload_n 0, 1) := by decide +kernel
theorem dX8_goesOn_163 : decode cX8_goesOn 163 = .ok (.getfield 7, 3) := by decide +kernel
theorem dX8_goesOn_166 : decode cX8_goesOn 166 = .ok (.iconst 2, 1) := by decide +kernel
theorem dX8_goesOn_167 : decode cX8_goesOn 167 = .ok (.dup2, 1) := by decide +kernel
theorem dX8_goesOn_168 : decode cX8_goesOn 168 = .ok (.iaload, 1) := by decide +kernel
theorem dX8_goesOn_169 : decode cX8_goesOn 169 = .ok (.iconst 1, 1) := by decide +kernel
theorem dX8_goesOn_170 : decode cX8_goesOn 170 = .ok (.iadd, 1) := by decide +kernel
theorem dX8_goesOn_171 : decode cX8_goesOn 171 = .ok (.iastore, 1) := by decide +kernel
theorem dX8_goesOn_172 : decode cX8_goesOn 172 = .ok (.return_, 1) := by decide +kernel
theorem dX8_goesOnMany_0 : decode cX8_goesOnMany 0 = .ok (.iconst 0, 1) := by decide +kernel
theorem dX8_goesOnMany_1 : decode cX8_goesOnMany 1 = .ok (.istore_n 2, 1) := by decide +kernel
theorem dX8_goesOnMany_2 : decode cX8_goesOnMany 2 = .ok (.iload_n 2, 1) := by decide +kernel
theorem dX8_goesOnMany_3 : decode cX8_goesOnMany 3 = .ok (.iload_n 1, 1) := by decide +kernel
theorem dX8_goesOnMany_4 : decode cX8_goesOnMany 4 = .ok (.if_icmp .ge 13, 3) := by decide +kernel
theorem dX8_goesOnMany_7 : decode cX8_goesOnMany 7 = .ok (.aload_n 0, 1) := by decide +kernel
theorem dX8_goesOnMany_8 : decode cX8_goesOnMany 8 = .ok (.invokevirtual 176, 3) := by decide +kernel
theorem dX8_goesOnMany_11 : decode cX8_goesOnMany 11 = .ok (.iinc 2 1, 3) := by decide +kernel
theorem dX8_goesOnMany_14 : decode cX8_goesOnMany 14 = .ok (.goto (-12), 3) := by decide +kernel
theorem dX8_goesOnMany_17 : decode cX8_goesOnMany 17 = .ok (.return_, 1) := by decide +kernel
theorem dX8_raids_0 : decode cX8_raids 0 = .ok (.aload_n 0, 1) := by decide +kernel
theorem dX8_raids_1 : decode cX8_raids 1 = .ok (.getfield 7, 3) := by decide +kernel
theorem dX8_raids_4 : decode cX8_raids 4 = .ok (.bipush 8, 2) := by decide +kernel
theorem dX8_raids_6 : decode cX8_raids 6 = .ok (.iaload, 1) := by decide +kernel
theorem dX8_raids_7 : decode cX8_raids 7 = .ok (.aload_n 0, 1) := by decide +kernel
theorem dX8_raids_8 : decode cX8_raids 8 = .ok (.getfield 7, 3) := by decide +kernel
theorem dX8_raids_11 : decode cX8_raids 11 = .ok (.bipush 9, 2) := by decide +kernel
theorem dX8_raids_13 : decode cX8_raids 13 = .ok (.iaload, 1) := by decide +kernel
theorem dX8_raids_14 : decode cX8_raids 14 = .ok (.iadd, 1) := by decide +kernel
theorem dX8_raids_15 : decode cX8_raids 15 = .ok (.ireturn, 1) := by decide +kernel
theorem dX8_seen_0 : decode cX8_seen 0 = .ok (.iload_n 1, 1) := by decide +kernel
theorem dX8_seen_1 : decode cX8_seen 1 = .ok (.invokestatic 82, 3) := by decide +kernel
theorem dX8_seen_4 : decode cX8_seen 4 = .ok (.ifCond .ne 6, 3) := by decide +kernel
theorem dX8_seen_7 : decode cX8_seen 7 = .ok (.ldc 88, 2) := by decide +kernel
theorem dX8_seen_9 : decode cX8_seen 9 = .ok (.ireturn, 1) := by decide +kernel
theorem dX8_seen_10 : decode cX8_seen 10 = .ok (.iconst 0, 1) := by decide +kernel
theorem dX8_seen_11 : decode cX8_seen 11 = .ok (.istore_n 2, 1) := by decide +kernel
theorem dX8_seen_12 : decode cX8_seen 12 = .ok (.iconst 0, 1) := by decide +kernel
theorem dX8_seen_13 : decode cX8_seen 13 = .ok (.istore_n 3, 1) := by decide +kernel
theorem dX8_seen_14 : decode cX8_seen 14 = .ok (.iload_n 3, 1) := by decide +kernel
theorem dX8_seen_15 : decode cX8_seen 15 = .ok (.aload_n 0, 1) := by decide +kernel
theorem dX8_seen_16 : decode cX8_seen 16 = .ok (.getfield 7, 3) := by decide +kernel
theorem dX8_seen_19 : decode cX8_seen 19 = .ok (.iconst 0, 1) := by decide +kernel
theorem dX8_seen_20 : decode cX8_seen 20 = .ok (.iaload, 1) := by decide +kernel
theorem dX8_seen_21 : decode cX8_seen 21 = .ok (.if_icmp .ge 38, 3) := by decide +kernel
theorem dX8_seen_24 : decode cX8_seen 24 = .ok (.iload_n 2, 1) := by decide +kernel
theorem dX8_seen_25 : decode cX8_seen 25 = .ok (.aload_n 0, 1) := by decide +kernel
theorem dX8_seen_26 : decode cX8_seen 26 = .ok (.iload_n 3, 1) := by decide +kernel
theorem dX8_seen_27 : decode cX8_seen 27 = .ok (.iconst 1, 1) := by decide +kernel
theorem dX8_seen_28 : decode cX8_seen 28 = .ok (.invokevirtual 72, 3) := by decide +kernel
theorem dX8_seen_31 : decode cX8_seen 31 = .ok (.iload_n 1, 1) := by decide +kernel
theorem dX8_seen_32 : decode cX8_seen 32 = .ok (.invokestatic 154, 3) := by decide +kernel
theorem dX8_seen_35 : decode cX8_seen 35 = .ok (.aload_n 0, 1) := by decide +kernel
theorem dX8_seen_36 : decode cX8_seen 36 = .ok (.getfield 7, 3) := by decide +kernel
theorem dX8_seen_39 : decode cX8_seen 39 = .ok (.iconst 3, 1) := by decide +kernel
theorem dX8_seen_40 : decode cX8_seen 40 = .ok (.iaload, 1) := by decide +kernel
theorem dX8_seen_41 : decode cX8_seen 41 = .ok (.if_icmp .gt 9, 3) := by decide +kernel
theorem dX8_seen_44 : decode cX8_seen 44 = .ok (.iconst 1, 1) := by decide +kernel
theorem dX8_seen_45 : decode cX8_seen 45 = .ok (.iload_n 3, 1) := by decide +kernel
theorem dX8_seen_46 : decode cX8_seen 46 = .ok (.ishl, 1) := by decide +kernel
theorem dX8_seen_47 : decode cX8_seen 47 = .ok (.goto 4, 3) := by decide +kernel
theorem dX8_seen_50 : decode cX8_seen 50 = .ok (.iconst 0, 1) := by decide +kernel
theorem dX8_seen_51 : decode cX8_seen 51 = .ok (.ior, 1) := by decide +kernel
theorem dX8_seen_52 : decode cX8_seen 52 = .ok (.istore_n 2, 1) := by decide +kernel
theorem dX8_seen_53 : decode cX8_seen 53 = .ok (.iinc 3 1, 3) := by decide +kernel
theorem dX8_seen_56 : decode cX8_seen 56 = .ok (.goto (-42), 3) := by decide +kernel
theorem dX8_seen_59 : decode cX8_seen 59 = .ok (.iload_n 2, 1) := by decide +kernel
theorem dX8_seen_60 : decode cX8_seen 60 = .ok (.ireturn, 1) := by decide +kernel
theorem dX8_nights_0 : decode cX8_nights 0 = .ok (.iload_n 1, 1) := by decide +kernel
theorem dX8_nights_1 : decode cX8_nights 1 = .ok (.i2l, 1) := by decide +kernel
theorem dX8_nights_2 : decode cX8_nights 2 = .ok (.lconst 1, 1) := by decide +kernel
theorem dX8_nights_3 : decode cX8_nights 3 = .ok (.ldc2_w 144, 3) := by decide +kernel
theorem dX8_nights_6 : decode cX8_nights 6 = .ok (.invokestatic 65, 3) := by decide +kernel
theorem dX8_nights_9 : decode cX8_nights 9 = .ok (.ifCond .ne 6, 3) := by decide +kernel
theorem dX8_nights_12 : decode cX8_nights 12 = .ok (.ldc 88, 2) := by decide +kernel
theorem dX8_nights_14 : decode cX8_nights 14 = .ok (.ireturn, 1) := by decide +kernel
theorem dX8_nights_15 : decode cX8_nights 15 = .ok (.aload_n 0, 1) := by decide +kernel
theorem dX8_nights_16 : decode cX8_nights 16 = .ok (.invokevirtual 179, 3) := by decide +kernel
theorem dX8_nights_19 : decode cX8_nights 19 = .ok (.istore_n 2, 1) := by decide +kernel
theorem dX8_nights_20 : decode cX8_nights 20 = .ok (.sipush 9999, 3) := by decide +kernel
theorem dX8_nights_23 : decode cX8_nights 23 = .ok (.aload_n 0, 1) := by decide +kernel
theorem dX8_nights_24 : decode cX8_nights 24 = .ok (.getfield 7, 3) := by decide +kernel
theorem dX8_nights_27 : decode cX8_nights 27 = .ok (.iconst 2, 1) := by decide +kernel
theorem dX8_nights_28 : decode cX8_nights 28 = .ok (.iaload, 1) := by decide +kernel
theorem dX8_nights_29 : decode cX8_nights 29 = .ok (.isub, 1) := by decide +kernel
theorem dX8_nights_30 : decode cX8_nights 30 = .ok (.istore_n 3, 1) := by decide +kernel
theorem dX8_nights_31 : decode cX8_nights 31 = .ok (.aload_n 0, 1) := by decide +kernel
theorem dX8_nights_32 : decode cX8_nights 32 = .ok (.iload_n 1, 1) := by decide +kernel
theorem dX8_nights_33 : decode cX8_nights 33 = .ok (.iload_n 3, 1) := by decide +kernel
theorem dX8_nights_34 : decode cX8_nights 34 = .ok (.if_icmp .ge 7, 3) := by decide +kernel
theorem dX8_nights_37 : decode cX8_nights 37 = .ok (.iload_n 1, 1) := by decide +kernel
theorem dX8_nights_38 : decode cX8_nights 38 = .ok (.goto 4, 3) := by decide +kernel
theorem dX8_nights_41 : decode cX8_nights 41 = .ok (.iload_n 3, 1) := by decide +kernel
theorem dX8_nights_42 : decode cX8_nights 42 = .ok (.invokevirtual 182, 3) := by decide +kernel
theorem dX8_nights_45 : decode cX8_nights 45 = .ok (.aload_n 0, 1) := by decide +kernel
theorem dX8_nights_46 : decode cX8_nights 46 = .ok (.invokevirtual 179, 3) := by decide +kernel
theorem dX8_nights_49 : decode cX8_nights 49 = .ok (.iload_n 2, 1) := by decide +kernel
theorem dX8_nights_50 : decode cX8_nights 50 = .ok (.isub, 1) := by decide +kernel
theorem dX8_nights_51 : decode cX8_nights 51 = .ok (.ireturn, 1) := by decide +kernel
theorem dX8_doubts_0 : decode cX8_doubts 0 = .ok (.iconst 0, 1) := by decide +kernel
theorem dX8_doubts_1 : decode cX8_doubts 1 = .ok (.istore_n 1, 1) := by decide +kernel
theorem dX8_doubts_2 : decode cX8_doubts 2 = .ok (.iconst 0, 1) := by decide +kernel
theorem dX8_doubts_3 : decode cX8_doubts 3 = .ok (.istore_n 2, 1) := by decide +kernel
theorem dX8_doubts_4 : decode cX8_doubts 4 = .ok (.iload_n 2, 1) := by decide +kernel
theorem dX8_doubts_5 : decode cX8_doubts 5 = .ok (.aload_n 0, 1) := by decide +kernel
theorem dX8_doubts_6 : decode cX8_doubts 6 = .ok (.getfield 7, 3) := by decide +kernel
theorem dX8_doubts_9 : decode cX8_doubts 9 = .ok (.iconst 0, 1) := by decide +kernel
theorem dX8_doubts_10 : decode cX8_doubts 10 = .ok (.iaload, 1) := by decide +kernel
theorem dX8_doubts_11 : decode cX8_doubts 11 = .ok (.if_icmp .ge 18, 3) := by decide +kernel
theorem dX8_doubts_14 : decode cX8_doubts 14 = .ok (.iload_n 1, 1) := by decide +kernel
theorem dX8_doubts_15 : decode cX8_doubts 15 = .ok (.aload_n 0, 1) := by decide +kernel
theorem dX8_doubts_16 : decode cX8_doubts 16 = .ok (.iload_n 2, 1) := by decide +kernel
theorem dX8_doubts_17 : decode cX8_doubts 17 = .ok (.iconst 3, 1) := by decide +kernel
theorem dX8_doubts_18 : decode cX8_doubts 18 = .ok (.invokevirtual 72, 3) := by decide +kernel
theorem dX8_doubts_21 : decode cX8_doubts 21 = .ok (.iadd, 1) := by decide +kernel
theorem dX8_doubts_22 : decode cX8_doubts 22 = .ok (.istore_n 1, 1) := by decide +kernel
theorem dX8_doubts_23 : decode cX8_doubts 23 = .ok (.iinc 2 1, 3) := by decide +kernel
theorem dX8_doubts_26 : decode cX8_doubts 26 = .ok (.goto (-22), 3) := by decide +kernel
theorem dX8_doubts_29 : decode cX8_doubts 29 = .ok (.iload_n 1, 1) := by decide +kernel
theorem dX8_doubts_30 : decode cX8_doubts 30 = .ok (.ireturn, 1) := by decide +kernel
theorem dX8_downs_0 : decode cX8_downs 0 = .ok (.iconst 0, 1) := by decide +kernel
theorem dX8_downs_1 : decode cX8_downs 1 = .ok (.istore_n 1, 1) := by decide +kernel
theorem dX8_downs_2 : decode cX8_downs 2 = .ok (.iconst 0, 1) := by decide +kernel
theorem dX8_downs_3 : decode cX8_downs 3 = .ok (.istore_n 2, 1) := by decide +kernel
theorem dX8_downs_4 : decode cX8_downs 4 = .ok (.iload_n 2, 1) := by decide +kernel
theorem dX8_downs_5 : decode cX8_downs 5 = .ok (.aload_n 0, 1) := by decide +kernel
theorem dX8_downs_6 : decode cX8_downs 6 = .ok (.getfield 7, 3) := by decide +kernel
theorem dX8_downs_9 : decode cX8_downs 9 = .ok (.iconst 0, 1) := by decide +kernel
theorem dX8_downs_10 : decode cX8_downs 10 = .ok (.iaload, 1) := by decide +kernel
theorem dX8_downs_11 : decode cX8_downs 11 = .ok (.if_icmp .ge 28, 3) := by decide +kernel
theorem dX8_downs_14 : decode cX8_downs 14 = .ok (.iload_n 1, 1) := by decide +kernel
theorem dX8_downs_15 : decode cX8_downs 15 = .ok (.aload_n 0, 1) := by decide +kernel
theorem dX8_downs_16 : decode cX8_downs 16 = .ok (.iload_n 2, 1) := by decide +kernel
theorem dX8_downs_17 : decode cX8_downs 17 = .ok (.iconst 4, 1) := by decide +kernel
theorem dX8_downs_18 : decode cX8_downs 18 = .ok (.invokevirtual 72, 3) := by decide +kernel
theorem dX8_downs_21 : decode cX8_downs 21 = .ok (.ifCond .ne 9, 3) := by decide +kernel
theorem dX8_downs_24 : decode cX8_downs 24 = .ok (.iconst 1, 1) := by decide +kernel
theorem dX8_downs_25 : decode cX8_downs 25 = .ok (.iload_n 2, 1) := by decide +kernel
theorem dX8_downs_26 : decode cX8_downs 26 = .ok (.ishl, 1) := by decide +kernel
theorem dX8_downs_27 : decode cX8_downs 27 = .ok (.goto 4, 3) := by decide +kernel
theorem dX8_downs_30 : decode cX8_downs 30 = .ok (.iconst 0, 1) := by decide +kernel
theorem dX8_downs_31 : decode cX8_downs 31 = .ok (.ior, 1) := by decide +kernel
theorem dX8_downs_32 : decode cX8_downs 32 = .ok (.istore_n 1, 1) := by decide +kernel
theorem dX8_downs_33 : decode cX8_downs 33 = .ok (.iinc 2 1, 3) := by decide +kernel
theorem dX8_downs_36 : decode cX8_downs 36 = .ok (.goto (-32), 3) := by decide +kernel
theorem dX8_downs_39 : decode cX8_downs 39 = .ok (.iload_n 1, 1) := by decide +kernel
theorem dX8_downs_40 : decode cX8_downs 40 = .ok (.ireturn, 1) := by decide +kernel
theorem dX8_border_0 : decode cX8_border 0 = .ok (.iload_n 1, 1) := by decide +kernel
theorem dX8_border_1 : decode cX8_border 1 = .ok (.i2l, 1) := by decide +kernel
theorem dX8_border_2 : decode cX8_border 2 = .ok (.lconst 0, 1) := by decide +kernel
theorem dX8_border_3 : decode cX8_border 3 = .ok (.ldc2_w 185, 3) := by decide +kernel
theorem dX8_border_6 : decode cX8_border 6 = .ok (.invokestatic 65, 3) := by decide +kernel
theorem dX8_border_9 : decode cX8_border 9 = .ok (.ifCond .ne 6, 3) := by decide +kernel
theorem dX8_border_12 : decode cX8_border 12 = .ok (.ldc 88, 2) := by decide +kernel
theorem dX8_border_14 : decode cX8_border 14 = .ok (.ireturn, 1) := by decide +kernel
theorem dX8_border_15 : decode cX8_border 15 = .ok (.iload_n 1, 1) := by decide +kernel
theorem dX8_border_16 : decode cX8_border 16 = .ok (.iconst 3, 1) := by decide +kernel
theorem dX8_border_17 : decode cX8_border 17 = .ok (.if_icmp .ge 15, 3) := by decide +kernel
theorem dX8_border_20 : decode cX8_border 20 = .ok (.aload_n 0, 1) := by decide +kernel
theorem dX8_border_21 : decode cX8_border 21 = .ok (.getfield 7, 3) := by decide +kernel
theorem dX8_border_24 : decode cX8_border 24 = .ok (.bipush 7, 2) := by decide +kernel
theorem dX8_border_26 : decode cX8_border 26 = .ok (.iload_n 1, 1) := by decide +kernel
theorem dX8_border_27 : decode cX8_border 27 = .ok (.iadd, 1) := by decide +kernel
theorem dX8_border_28 : decode cX8_border 28 = .ok (.iaload, 1) := by decide +kernel
theorem dX8_border_29 : decode cX8_border 29 = .ok (.goto 43, 3) := by decide +kernel
theorem dX8_border_32 : decode cX8_border 32 = .ok (.iload_n 1, 1) := by decide +kernel
theorem dX8_border_33 : decode cX8_border 33 = .ok (.iconst 3, 1) := by decide +kernel
theorem dX8_border_34 : decode cX8_border 34 = .ok (.if_icmp .ne 10, 3) := by decide +kernel
theorem dX8_border_37 : decode cX8_border 37 = .ok (.aload_n 0, 1) := by decide +kernel
theorem dX8_border_38 : decode cX8_border 38 = .ok (.invokevirtual 170, 3) := by decide +kernel
theorem dX8_border_41 : decode cX8_border 41 = .ok (.goto 31, 3) := by decide +kernel
theorem dX8_border_44 : decode cX8_border 44 = .ok (.iload_n 1, 1) := by decide +kernel
theorem dX8_border_45 : decode cX8_border 45 = .ok (.iconst 4, 1) := by decide +kernel
theorem dX8_border_46 : decode cX8_border 46 = .ok (.if_icmp .ne 10, 3) := by decide +kernel
theorem dX8_border_49 : decode cX8_border 49 = .ok (.aload_n 0, 1) := by decide +kernel
theorem dX8_border_50 : decode cX8_border 50 = .ok (.invokevirtual 173, 3) := by decide +kernel
theorem dX8_border_53 : decode cX8_border 53 = .ok (.goto 19, 3) := by decide +kernel
theorem dX8_border_56 : decode cX8_border 56 = .ok (.iload_n 1, 1) := by decide +kernel
theorem dX8_border_57 : decode cX8_border 57 = .ok (.iconst 5, 1) := by decide +kernel
theorem dX8_border_58 : decode cX8_border 58 = .ok (.if_icmp .ne 10, 3) := by decide +kernel
theorem dX8_border_61 : decode cX8_border 61 = .ok (.aload_n 0, 1) := by decide +kernel
theorem dX8_border_62 : decode cX8_border 62 = .ok (.invokevirtual 187, 3) := by decide +kernel
theorem dX8_border_65 : decode cX8_border 65 = .ok (.goto 7, 3) := by decide +kernel
theorem dX8_border_68 : decode cX8_border 68 = .ok (.aload_n 0, 1) := by decide +kernel
theorem dX8_border_69 : decode cX8_border 69 = .ok (.invokevirtual 190, 3) := by decide +kernel
theorem dX8_border_72 : decode cX8_border 72 = .ok (.ireturn, 1) := by decide +kernel
theorem dX8_reached_0 : decode cX8_reached 0 = .ok (.iconst 0, 1) := by decide +kernel
theorem dX8_reached_1 : decode cX8_reached 1 = .ok (.istore_n 3, 1) := by decide +kernel
theorem dX8_reached_2 : decode cX8_reached 2 = .ok (.iconst 0, 1) := by decide +kernel
theorem dX8_reached_3 : decode cX8_reached 3 = .ok (.istore 4, 2) := by decide +kernel
theorem dX8_reached_5 : decode cX8_reached 5 = .ok (.iload 4, 2) := by decide +kernel
theorem dX8_reached_7 : decode cX8_reached 7 = .ok (.aload_n 0, 1) := by decide +kernel
theorem dX8_reached_8 : decode cX8_reached 8 = .ok (.getfield 7, 3) := by decide +kernel
theorem dX8_reached_11 : decode cX8_reached 11 = .ok (.iconst 0, 1) := by decide +kernel
theorem dX8_reached_12 : decode cX8_reached 12 = .ok (.iaload, 1) := by decide +kernel
theorem dX8_reached_13 : decode cX8_reached 13 = .ok (.if_icmp .ge 47, 3) := by decide +kernel
theorem dX8_reached_16 : decode cX8_reached 16 = .ok (.iload_n 3, 1) := by decide +kernel
theorem dX8_reached_17 : decode cX8_reached 17 = .ok (.iload 4, 2) := by decide +kernel
theorem dX8_reached_19 : decode cX8_reached 19 = .ok (.iload_n 1, 1) := by decide +kernel
theorem dX8_reached_20 : decode cX8_reached 20 = .ok (.if_icmp .eq 31, 3) := by decide +kernel
theorem dX8_reached_23 : decode cX8_reached 23 = .ok (.aload_n 0, 1) := by decide +kernel
theorem dX8_reached_24 : decode cX8_reached 24 = .ok (.iload 4, 2) := by decide +kernel
theorem dX8_reached_26 : decode cX8_reached 26 = .ok (.invokevirtual 160, 3) := by decide +kernel
theorem dX8_reached_29 : decode cX8_reached 29 = .ok (.ifCond .ne 22, 3) := by decide +kernel
theorem dX8_reached_32 : decode cX8_reached 32 = .ok (.aload_n 0, 1) := by decide +kernel
theorem dX8_reached_33 : decode cX8_reached 33 = .ok (.iload 4, 2) := by decide +kernel
theorem dX8_reached_35 : decode cX8_reached 35 = .ok (.iconst 1, 1) := by decide +kernel
theorem dX8_reached_36 : decode cX8_reached 36 = .ok (.invokevirtual 72, 3) := by decide +kernel
theorem dX8_reached_39 : decode cX8_reached 39 = .ok (.iload_n 2, 1) := by decide +kernel
theorem dX8_reached_40 : decode cX8_reached 40 = .ok (.invokestatic 154, 3) := by decide +kernel
theorem dX8_reached_43 : decode cX8_reached 43 = .ok (.iconst 3, 1) := by decide +kernel
theorem dX8_reached_44 : decode cX8_reached 44 = .ok (.if_icmp .ge 7, 3) := by decide +kernel
theorem dX8_reached_47 : decode cX8_reached 47 = .ok (.iconst 1, 1) := by decide +kernel
theorem dX8_reached_48 : decode cX8_reached 48 = .ok (.goto 4, 3) := by decide +kernel
theorem dX8_reached_51 : decode cX8_reached 51 = .ok (.iconst 0, 1) := by decide +kernel
theorem dX8_reached_52 : decode cX8_reached 52 = .ok (.iadd, 1) := by decide +kernel
theorem dX8_reached_53 : decode cX8_reached 53 = .ok (.istore_n 3, 1) := by decide +kernel
theorem dX8_reached_54 : decode cX8_reached 54 = .ok (.iinc 4 1, 3) := by decide +kernel
theorem dX8_reached_57 : decode cX8_reached 57 = .ok (.goto (-52), 3) := by decide +kernel
theorem dX8_reached_60 : decode cX8_reached 60 = .ok (.iload_n 3, 1) := by decide +kernel
theorem dX8_reached_61 : decode cX8_reached 61 = .ok (.ireturn, 1) := by decide +kernel
theorem dX8_covers_0 : decode cX8_covers 0 = .ok (.aload_n 0, 1) := by decide +kernel
theorem dX8_covers_1 : decode cX8_covers 1 = .ok (.iload_n 1, 1) := by decide +kernel
theorem dX8_covers_2 : decode cX8_covers 2 = .ok (.invokevirtual 110, 3) := by decide +kernel
theorem dX8_covers_5 : decode cX8_covers 5 = .ok (.ifCond .eq 13, 3) := by decide +kernel
theorem dX8_covers_8 : decode cX8_covers 8 = .ok (.iload_n 2, 1) := by decide +kernel
theorem dX8_covers_9 : decode cX8_covers 9 = .ok (.i2l, 1) := by decide +kernel
theorem dX8_covers_10 : decode cX8_covers 10 = .ok (.lconst 0, 1) := by decide +kernel
theorem dX8_covers_11 : decode cX8_covers 11 = .ok (.lconst 1, 1) := by decide +kernel
theorem dX8_covers_12 : decode cX8_covers 12 = .ok (.invokestatic 65, 3) := by decide +kernel
theorem dX8_covers_15 : decode cX8_covers 15 = .ok (.ifCond .ne 6, 3) := by decide +kernel
theorem dX8_covers_18 : decode cX8_covers 18 = .ok (.ldc 88, 2) := by decide +kernel
theorem dX8_covers_20 : decode cX8_covers 20 = .ok (.ireturn, 1) := by decide +kernel
theorem dX8_covers_21 : decode cX8_covers 21 = .ok (.iconst (-1), 1) := by decide +kernel
theorem dX8_covers_22 : decode cX8_covers 22 = .ok (.istore_n 3, 1) := by decide +kernel
theorem dX8_covers_23 : decode cX8_covers 23 = .ok (.iconst (-1), 1) := by decide +kernel
theorem dX8_covers_24 : decode cX8_covers 24 = .ok (.istore 4, 2) := by decide +kernel
theorem dX8_covers_26 : decode cX8_covers 26 = .ok (.iconst 0, 1) := by decide +kernel
theorem dX8_covers_27 : decode cX8_covers 27 = .ok (.istore 5, 2) := by decide +kernel
theorem dX8_covers_29 : decode cX8_covers 29 = .ok (.iload 5, 2) := by decide +kernel
theorem dX8_covers_31 : decode cX8_covers 31 = .ok (.bipush 20, 2) := by decide +kernel
theorem dX8_covers_33 : decode cX8_covers 33 = .ok (.if_icmp .ge 71, 3) := by decide +kernel
theorem dX8_covers_36 : decode cX8_covers 36 = .ok (.aload_n 0, 1) := by decide +kernel
theorem dX8_covers_37 : decode cX8_covers 37 = .ok (.iload 5, 2) := by decide +kernel
theorem dX8_covers_39 : decode cX8_covers 39 = .ok (.invokevirtual 89, 3) := by decide +kernel
theorem dX8_covers_42 : decode cX8_covers 42 = .ok (.istore 6, 2) := by decide +kernel
theorem dX8_covers_44 : decode cX8_covers 44 = .ok (.iload 6, 2) := by decide +kernel
theorem dX8_covers_46 : decode cX8_covers 46 = .ok (.ifCond .lt 9, 3) := by decide +kernel
theorem dX8_covers_49 : decode cX8_covers 49 = .ok (.iload 6, 2) := by decide +kernel
theorem dX8_covers_51 : decode cX8_covers 51 = .ok (.iload_n 1, 1) := by decide +kernel
theorem dX8_covers_52 : decode cX8_covers 52 = .ok (.if_icmp .ne 13, 3) := by decide +kernel
theorem dX8_covers_55 : decode cX8_covers 55 = .ok (.aload_n 0, 1) := by decide +kernel
theorem dX8_covers_56 : decode cX8_covers 56 = .ok (.iload_n 1, 1) := by decide +kernel
theorem dX8_covers_57 : decode cX8_covers 57 = .ok (.iload 5, 2) := by decide +kernel
theorem dX8_covers_59 : decode cX8_covers 59 = .ok (.invokevirtual 193, 3) := by decide +kernel
theorem dX8_covers_62 : decode cX8_covers 62 = .ok (.goto 4, 3) := by decide +kernel
theorem dX8_covers_65 : decode cX8_covers 65 = .ok (.iconst (-1), 1) := by decide +kernel
theorem dX8_covers_66 : decode cX8_covers 66 = .ok (.istore 7, 2) := by decide +kernel
theorem dX8_covers_68 : decode cX8_covers 68 = .ok (.iload 7, 2) := by decide +kernel
theorem dX8_covers_70 : decode cX8_covers 70 = .ok (.iload 4, 2) := by decide +kernel
theorem dX8_covers_72 : decode cX8_covers 72 = .ok (.if_icmp .le 8, 3) := by decide +kernel
theorem dX8_covers_75 : decode cX8_covers 75 = .ok (.iload 5, 2) := by decide +kernel
theorem dX8_covers_77 : decode cX8_covers 77 = .ok (.goto 4, 3) := by decide +kernel
theorem dX8_covers_80 : decode cX8_covers 80 = .ok (.iload_n 3, 1) := by decide +kernel
theorem dX8_covers_81 : decode cX8_covers 81 = .ok (.istore_n 3, 1) := by decide +kernel
theorem dX8_covers_82 : decode cX8_covers 82 = .ok (.iload 7, 2) := by decide +kernel
theorem dX8_covers_84 : decode cX8_covers 84 = .ok (.iload 4, 2) := by decide +kernel
theorem dX8_covers_86 : decode cX8_covers 86 = .ok (.if_icmp .le 8, 3) := by decide +kernel
theorem dX8_covers_89 : decode cX8_covers 89 = .ok (.iload 7, 2) := by decide +kernel
theorem dX8_covers_91 : decode cX8_covers 91 = .ok (.goto 5, 3) := by decide +kernel
theorem dX8_covers_94 : decode cX8_covers 94 = .ok (.iload 4, 2) := by decide +kernel
theorem dX8_covers_96 : decode cX8_covers 96 = .ok (.istore 4, 2) := by decide +kernel
theorem dX8_covers_98 : decode cX8_covers 98 = .ok (.iinc 5 1, 3) := by decide +kernel
theorem dX8_covers_101 : decode cX8_covers 101 = .ok (.goto (-72), 3) := by decide +kernel
theorem dX8_covers_104 : decode cX8_covers 104 = .ok (.iload_n 2, 1) := by decide +kernel
theorem dX8_covers_105 : decode cX8_covers 105 = .ok (.ifCond .ne 7, 3) := by decide +kernel
theorem dX8_covers_108 : decode cX8_covers 108 = .ok (.iload_n 3, 1) := by decide +kernel
theorem dX8_covers_109 : decode cX8_covers 109 = .ok (.goto 5, 3) := by decide +kernel
theorem dX8_covers_112 : decode cX8_covers 112 = .ok (.iload 4, 2) := by decide +kernel
theorem dX8_covers_114 : decode cX8_covers 114 = .ok (.ireturn, 1) := by decide +kernel
theorem dX8_fewest_0 : decode cX8_fewest 0 = .ok (.iconst 0, 1) := by decide +kernel
theorem dX8_fewest_1 : decode cX8_fewest 1 = .ok (.istore_n 1, 1) := by decide +kernel
theorem dX8_fewest_2 : decode cX8_fewest 2 = .ok (.iconst 0, 1) := by decide +kernel
theorem dX8_fewest_3 : decode cX8_fewest 3 = .ok (.istore_n 2, 1) := by decide +kernel
theorem dX8_fewest_4 : decode cX8_fewest 4 = .ok (.iload_n 2, 1) := by decide +kernel
theorem dX8_fewest_5 : decode cX8_fewest 5 = .ok (.bipush 20, 2) := by decide +kernel
theorem dX8_fewest_7 : decode cX8_fewest 7 = .ok (.if_icmp .ge 57, 3) := by decide +kernel
theorem dX8_fewest_10 : decode cX8_fewest 10 = .ok (.aload_n 0, 1) := by decide +kernel
theorem dX8_fewest_11 : decode cX8_fewest 11 = .ok (.iload_n 2, 1) := by decide +kernel
theorem dX8_fewest_12 : decode cX8_fewest 12 = .ok (.invokevirtual 89, 3) := by decide +kernel
theorem dX8_fewest_15 : decode cX8_fewest 15 = .ok (.istore_n 3, 1) := by decide +kernel
theorem dX8_fewest_16 : decode cX8_fewest 16 = .ok (.iload_n 3, 1) := by decide +kernel
theorem dX8_fewest_17 : decode cX8_fewest 17 = .ok (.ifCond .lt 15, 3) := by decide +kernel
theorem dX8_fewest_20 : decode cX8_fewest 20 = .ok (.aload_n 0, 1) := by decide +kernel
theorem dX8_fewest_21 : decode cX8_fewest 21 = .ok (.iload_n 3, 1) := by decide +kernel
theorem dX8_fewest_22 : decode cX8_fewest 22 = .ok (.invokevirtual 160, 3) := by decide +kernel
theorem dX8_fewest_25 : decode cX8_fewest 25 = .ok (.ifCond .ne 7, 3) := by decide +kernel
theorem dX8_fewest_28 : decode cX8_fewest 28 = .ok (.iconst 1, 1) := by decide +kernel
theorem dX8_fewest_29 : decode cX8_fewest 29 = .ok (.goto 4, 3) := by decide +kernel
theorem dX8_fewest_32 : decode cX8_fewest 32 = .ok (.iconst 0, 1) := by decide +kernel
theorem dX8_fewest_33 : decode cX8_fewest 33 = .ok (.istore 4, 2) := by decide +kernel
theorem dX8_fewest_35 : decode cX8_fewest 35 = .ok (.iload_n 1, 1) := by decide +kernel
theorem dX8_fewest_36 : decode cX8_fewest 36 = .ok (.iload 4, 2) := by decide +kernel
theorem dX8_fewest_38 : decode cX8_fewest 38 = .ok (.ifCond .eq 7, 3) := by decide +kernel
theorem dX8_fewest_41 : decode cX8_fewest 41 = .ok (.iconst 1, 1) := by decide +kernel
theorem dX8_fewest_42 : decode cX8_fewest 42 = .ok (.goto 4, 3) := by decide +kernel
theorem dX8_fewest_45 : decode cX8_fewest 45 = .ok (.iconst 0, 1) := by decide +kernel
theorem dX8_fewest_46 : decode cX8_fewest 46 = .ok (.iadd, 1) := by decide +kernel
theorem dX8_fewest_47 : decode cX8_fewest 47 = .ok (.istore_n 1, 1) := by decide +kernel
theorem dX8_fewest_48 : decode cX8_fewest 48 = .ok (.iload_n 2, 1) := by decide +kernel
theorem dX8_fewest_49 : decode cX8_fewest 49 = .ok (.iload 4, 2) := by decide +kernel
theorem dX8_fewest_51 : decode cX8_fewest 51 = .ok (.ifCond .eq 7, 3) := by decide +kernel
theorem dX8_fewest_54 : decode cX8_fewest 54 = .ok (.iconst 5, 1) := by decide +kernel
theorem dX8_fewest_55 : decode cX8_fewest 55 = .ok (.goto 4, 3) := by decide +kernel
theorem dX8_fewest_58 : decode cX8_fewest 58 = .ok (.iconst 1, 1) := by decide +kernel
theorem dX8_fewest_59 : decode cX8_fewest 59 = .ok (.iadd, 1) := by decide +kernel
theorem dX8_fewest_60 : decode cX8_fewest 60 = .ok (.istore_n 2, 1) := by decide +kernel
theorem dX8_fewest_61 : decode cX8_fewest 61 = .ok (.goto (-57), 3) := by decide +kernel
theorem dX8_fewest_64 : decode cX8_fewest 64 = .ok (.iload_n 1, 1) := by decide +kernel
theorem dX8_fewest_65 : decode cX8_fewest 65 = .ok (.ireturn, 1) := by decide +kernel
theorem dX8_laysBy_0 : decode cX8_laysBy 0 = .ok (.iconst 0, 1) := by decide +kernel
theorem dX8_laysBy_1 : decode cX8_laysBy 1 = .ok (.istore_n 1, 1) := by decide +kernel
theorem dX8_laysBy_2 : decode cX8_laysBy 2 = .ok (.iload_n 1, 1) := by decide +kernel
theorem dX8_laysBy_3 : decode cX8_laysBy 3 = .ok (.bipush 62, 2) := by decide +kernel
theorem dX8_laysBy_5 : decode cX8_laysBy 5 = .ok (.if_icmp .ge 21, 3) := by decide +kernel
theorem dX8_laysBy_8 : decode cX8_laysBy 8 = .ok (.aload_n 0, 1) := by decide +kernel
theorem dX8_laysBy_9 : decode cX8_laysBy 9 = .ok (.getfield 43, 3) := by decide +kernel
theorem dX8_laysBy_12 : decode cX8_laysBy 12 = .ok (.iload_n 1, 1) := by decide +kernel
theorem dX8_laysBy_13 : decode cX8_laysBy 13 = .ok (.aload_n 0, 1) := by decide +kernel
theorem dX8_laysBy_14 : decode cX8_laysBy 14 = .ok (.getfield 7, 3) := by decide +kernel
theorem dX8_laysBy_17 : decode cX8_laysBy 17 = .ok (.iload_n 1, 1) := by decide +kernel
theorem dX8_laysBy_18 : decode cX8_laysBy 18 = .ok (.iaload, 1) := by decide +kernel
theorem dX8_laysBy_19 : decode cX8_laysBy 19 = .ok (.iastore, 1) := by decide +kernel
theorem dX8_laysBy_20 : decode cX8_laysBy 20 = .ok (.iinc 1 1, 3) := by decide +kernel
theorem dX8_laysBy_23 : decode cX8_laysBy 23 = .ok (.goto (-21), 3) := by decide +kernel
theorem dX8_laysBy_26 : decode cX8_laysBy 26 = .ok (.return_, 1) := by decide +kernel
theorem dX8_laysBack_0 : decode cX8_laysBack 0 = .ok (.iconst 0, 1) := by decide +kernel
theorem dX8_laysBack_1 : decode cX8_laysBack 1 = .ok (.istore_n 1, 1) := by decide +kernel
theorem dX8_laysBack_2 : decode cX8_laysBack 2 = .ok (.iload_n 1, 1) := by decide +kernel
theorem dX8_laysBack_3 : decode cX8_laysBack 3 = .ok (.bipush 62, 2) := by decide +kernel
theorem dX8_laysBack_5 : decode cX8_laysBack 5 = .ok (.if_icmp .ge 21, 3) := by decide +kernel
theorem dX8_laysBack_8 : decode cX8_laysBack 8 = .ok (.aload_n 0, 1) := by decide +kernel
theorem dX8_laysBack_9 : decode cX8_laysBack 9 = .ok (.getfield 7, 3) := by decide +kernel
theorem dX8_laysBack_12 : decode cX8_laysBack 12 = .ok (.iload_n 1, 1) := by decide +kernel
theorem dX8_laysBack_13 : decode cX8_laysBack 13 = .ok (.aload_n 0, 1) := by decide +kernel
theorem dX8_laysBack_14 : decode cX8_laysBack 14 = .ok (.getfield 43, 3) := by decide +kernel
theorem dX8_laysBack_17 : decode cX8_laysBack 17 = .ok (.iload_n 1, 1) := by decide +kernel
theorem dX8_laysBack_18 : decode cX8_laysBack 18 = .ok (.iaload, 1) := by decide +kernel
theorem dX8_laysBack_19 : decode cX8_laysBack 19 = .ok (.iastore, 1) := by decide +kernel
theorem dX8_laysBack_20 : decode cX8_laysBack 20 = .ok (.iinc 1 1, 3) := by decide +kernel
theorem dX8_laysBack_23 : decode cX8_laysBack 23 = .ok (.goto (-21), 3) := by decide +kernel
theorem dX8_laysBack_26 : decode cX8_laysBack 26 = .ok (.return_, 1) := by decide +kernel
theorem dX8_behind_0 : decode cX8_behind 0 = .ok (.iload_n 1, 1) := by decide +kernel
theorem dX8_behind_1 : decode cX8_behind 1 = .ok (.i2l, 1) := by decide +kernel
theorem dX8_behind_2 : decode cX8_behind 2 = .ok (.lconst 0, 1) := by decide +kernel
theorem dX8_behind_3 : decode cX8_behind 3 = .ok (.ldc2_w 144, 3) := by decide +kernel
theorem dX8_behind_6 : decode cX8_behind 6 = .ok (.invokestatic 65, 3) := by decide +kernel
theorem dX8_behind_9 : decode cX8_behind 9 = .ok (.ifCond .eq 22, 3) := by decide +kernel
theorem dX8_behind_12 : decode cX8_behind 12 = .ok (.iload_n 2, 1) := by decide +kernel
theorem dX8_behind_13 : decode cX8_behind 13 = .ok (.ifCond .lt 18, 3) := by decide +kernel
theorem dX8_behind_16 : decode cX8_behind 16 = .ok (.iload_n 2, 1) := by decide +kernel
theorem dX8_behind_17 : decode cX8_behind 17 = .ok (.iconst 3, 1) := by decide +kernel
theorem dX8_behind_18 : decode cX8_behind 18 = .ok (.if_icmp .le 16, 3) := by decide +kernel
theorem dX8_behind_21 : decode cX8_behind 21 = .ok (.aload_n 0, 1) := by decide +kernel
theorem dX8_behind_22 : decode cX8_behind 22 = .ok (.iload_n 2, 1) := by decide +kernel
theorem dX8_behind_23 : decode cX8_behind 23 = .ok (.iconst 4, 1) := by decide +kernel
theorem dX8_behind_24 : decode cX8_behind 24 = .ok (.isub, 1) := by decide +kernel
theorem dX8_behind_25 : decode cX8_behind 25 = .ok (.invokevirtual 110, 3) := by decide +kernel
theorem dX8_behind_28 : decode cX8_behind 28 = .ok (.ifCond .ne 6, 3) := by decide +kernel
theorem dX8_behind_31 : decode cX8_behind 31 = .ok (.ldc 88, 2) := by decide +kernel
theorem dX8_behind_33 : decode cX8_behind 33 = .ok (.ireturn, 1) := by decide +kernel
theorem dX8_behind_34 : decode cX8_behind 34 = .ok (.aload_n 0, 1) := by decide +kernel
theorem dX8_behind_35 : decode cX8_behind 35 = .ok (.invokevirtual 196, 3) := by decide +kernel
theorem dX8_behind_38 : decode cX8_behind 38 = .ok (.aload_n 0, 1) := by decide +kernel
theorem dX8_behind_39 : decode cX8_behind 39 = .ok (.iload_n 1, 1) := by decide +kernel
theorem dX8_behind_40 : decode cX8_behind 40 = .ok (.invokevirtual 182, 3) := by decide +kernel
theorem dX8_behind_43 : decode cX8_behind 43 = .ok (.iload_n 2, 1) := by decide +kernel
theorem dX8_behind_44 : decode cX8_behind 44 = .ok (.iconst 3, 1) := by decide +kernel
theorem dX8_behind_45 : decode cX8_behind 45 = .ok (.if_icmp .ge 15, 3) := by decide +kernel
theorem dX8_behind_48 : decode cX8_behind 48 = .ok (.aload_n 0, 1) := by decide +kernel
theorem dX8_behind_49 : decode cX8_behind 49 = .ok (.getfield 7, 3) := by decide +kernel
theorem dX8_behind_52 : decode cX8_behind 52 = .ok (.bipush 7, 2) := by decide +kernel
theorem dX8_behind_54 : decode cX8_behind 54 = .ok (.iload_n 2, 1) := by decide +kernel
theorem dX8_behind_55 : decode cX8_behind 55 = .ok (.iadd, 1) := by decide +kernel
theorem dX8_behind_56 : decode cX8_behind 56 = .ok (.iaload, 1) := by decide +kernel
theorem dX8_behind_57 : decode cX8_behind 57 = .ok (.goto 23, 3) := by decide +kernel
theorem dX8_behind_60 : decode cX8_behind 60 = .ok (.iload_n 2, 1) := by decide +kernel
theorem dX8_behind_61 : decode cX8_behind 61 = .ok (.iconst 3, 1) := by decide +kernel
theorem dX8_behind_62 : decode cX8_behind 62 = .ok (.if_icmp .ne 10, 3) := by decide +kernel
theorem dX8_behind_65 : decode cX8_behind 65 = .ok (.aload_n 0, 1) := by decide +kernel
theorem dX8_behind_66 : decode cX8_behind 66 = .ok (.invokevirtual 170, 3) := by decide +kernel
theorem dX8_behind_69 : decode cX8_behind 69 = .ok (.goto 11, 3) := by decide +kernel
theorem dX8_behind_72 : decode cX8_behind 72 = .ok (.aload_n 0, 1) := by decide +kernel
theorem dX8_behind_73 : decode cX8_behind 73 = .ok (.iload_n 2, 1) := by decide +kernel
theorem dX8_behind_74 : decode cX8_behind 74 = .ok (.iconst 4, 1) := by decide +kernel
theorem dX8_behind_75 : decode cX8_behind 75 = .ok (.isub, 1) := by decide +kernel
theorem dX8_behind_76 : decode cX8_behind 76 = .ok (.iconst 3, 1) := by decide +kernel
theorem dX8_behind_77 : decode cX8_behind 77 = .ok (.invokevirtual 72, 3) := by decide +kernel
theorem dX8_behind_80 : decode cX8_behind 80 = .ok (.istore_n 3, 1) := by decide +kernel
theorem dX8_behind_81 : decode cX8_behind 81 = .ok (.aload_n 0, 1) := by decide +kernel
theorem dX8_behind_82 : decode cX8_behind 82 = .ok (.invokevirtual 199, 3) := by decide +kernel
theorem dX8_behind_85 : decode cX8_behind 85 = .ok (.iload_n 3, 1) := by decide +kernel
theorem dX8_behind_86 : decode cX8_behind 86 = .ok (.ireturn, 1) := by decide +kernel
theorem dX8_bluff_0 : decode cX8_bluff 0 = .ok (.aload_n 0, 1) := by decide +kernel
theorem dX8_bluff_1 : decode cX8_bluff 1 = .ok (.invokevirtual 196, 3) := by decide +kernel
theorem dX8_bluff_4 : decode cX8_bluff 4 = .ok (.aload_n 0, 1) := by decide +kernel
theorem dX8_bluff_5 : decode cX8_bluff 5 = .ok (.invokevirtual 179, 3) := by decide +kernel
theorem dX8_bluff_8 : decode cX8_bluff 8 = .ok (.istore_n 1, 1) := by decide +kernel
theorem dX8_bluff_9 : decode cX8_bluff 9 = .ok (.iconst 0, 1) := by decide +kernel
theorem dX8_bluff_10 : decode cX8_bluff 10 = .ok (.istore_n 2, 1) := by decide +kernel
theorem dX8_bluff_11 : decode cX8_bluff 11 = .ok (.iload_n 2, 1) := by decide +kernel
theorem dX8_bluff_12 : decode cX8_bluff 12 = .ok (.sipush 200, 3) := by decide +kernel
theorem dX8_bluff_15 : decode cX8_bluff 15 = .ok (.if_icmp .ge 21, 3) := by decide +kernel
theorem dX8_bluff_18 : decode cX8_bluff 18 = .ok (.aload_n 0, 1) := by decide +kernel
theorem dX8_bluff_19 : decode cX8_bluff 19 = .ok (.invokevirtual 179, 3) := by decide +kernel
theorem dX8_bluff_22 : decode cX8_bluff 22 = .ok (.iload_n 1, 1) := by decide +kernel
theorem dX8_bluff_23 : decode cX8_bluff 23 = .ok (.if_icmp .ne 13, 3) := by decide +kernel
theorem dX8_bluff_26 : decode cX8_bluff 26 = .ok (.aload_n 0, 1) := by decide +kernel
theorem dX8_bluff_27 : decode cX8_bluff 27 = .ok (.invokevirtual 176, 3) := by decide +kernel
theorem dX8_bluff_30 : decode cX8_bluff 30 = .ok (.iinc 2 1, 3) := by decide +kernel
theorem dX8_bluff_33 : decode cX8_bluff 33 = .ok (.goto (-22), 3) := by decide +kernel
theorem dX8_bluff_36 : decode cX8_bluff 36 = .ok (.aload_n 0, 1) := by decide +kernel
theorem dX8_bluff_37 : decode cX8_bluff 37 = .ok (.invokevirtual 179, 3) := by decide +kernel
theorem dX8_bluff_40 : decode cX8_bluff 40 = .ok (.iload_n 1, 1) := by decide +kernel
theorem dX8_bluff_41 : decode cX8_bluff 41 = .ok (.if_icmp .le 7, 3) := by decide +kernel
theorem dX8_bluff_44 : decode cX8_bluff 44 = .ok (.iconst 1, 1) := by decide +kernel
theorem dX8_bluff_45 : decode cX8_bluff 45 = .ok (.goto 4, 3) := by decide +kernel
theorem dX8_bluff_48 : decode cX8_bluff 48 = .ok (.iconst 0, 1) := by decide +kernel
theorem dX8_bluff_49 : decode cX8_bluff 49 = .ok (.istore_n 3, 1) := by decide +kernel
theorem dX8_bluff_50 : decode cX8_bluff 50 = .ok (.aload_n 0, 1) := by decide +kernel
theorem dX8_bluff_51 : decode cX8_bluff 51 = .ok (.invokevirtual 199, 3) := by decide +kernel
theorem dX8_bluff_54 : decode cX8_bluff 54 = .ok (.iload_n 3, 1) := by decide +kernel
theorem dX8_bluff_55 : decode cX8_bluff 55 = .ok (.ifCond .eq 7, 3) := by decide +kernel
theorem dX8_bluff_58 : decode cX8_bluff 58 = .ok (.iload_n 2, 1) := by decide +kernel
theorem dX8_bluff_59 : decode cX8_bluff 59 = .ok (.goto 5, 3) := by decide +kernel
theorem dX8_bluff_62 : decode cX8_bluff 62 = .ok (.ldc 64, 2) := by decide +kernel
theorem dX8_bluff_64 : decode cX8_bluff 64 = .ok (.ireturn, 1) := by decide +kernel
theorem dX8_isAsked_0 : decode cX8_isAsked 0 = .ok (.iload_n 0, 1) := by decide +kernel
theorem dX8_isAsked_1 : decode cX8_isAsked 1 = .ok (.i2l, 1) := by decide +kernel
theorem dX8_isAsked_2 : decode cX8_isAsked 2 = .ok (.lconst 1, 1) := by decide +kernel
theorem dX8_isAsked_3 : decode cX8_isAsked 3 = .ok (.ldc2_w 202, 3) := by decide +kernel
theorem dX8_isAsked_6 : decode cX8_isAsked 6 = .ok (.invokestatic 65, 3) := by decide +kernel
theorem dX8_isAsked_9 : decode cX8_isAsked 9 = .ok (.ifCond .eq 17, 3) := by decide +kernel
theorem dX8_isAsked_12 : decode cX8_isAsked 12 = .ok (.iload_n 1, 1) := by decide +kernel
theorem dX8_isAsked_13 : decode cX8_isAsked 13 = .ok (.i2l, 1) := by decide +kernel
theorem dX8_isAsked_14 : decode cX8_isAsked 14 = .ok (.lconst 0, 1) := by decide +kernel
theorem dX8_isAsked_15 : decode cX8_isAsked 15 = .ok (.lconst 1, 1) := by decide +kernel
theorem dX8_isAsked_16 : decode cX8_isAsked 16 = .ok (.invokestatic 65, 3) := by decide +kernel
theorem dX8_isAsked_19 : decode cX8_isAsked 19 = .ok (.ifCond .eq 7, 3) := by decide +kernel
theorem dX8_isAsked_22 : decode cX8_isAsked 22 = .ok (.iconst 1, 1) := by decide +kernel
theorem dX8_isAsked_23 : decode cX8_isAsked 23 = .ok (.goto 4, 3) := by decide +kernel
theorem dX8_isAsked_26 : decode cX8_isAsked 26 = .ok (.iconst 0, 1) := by decide +kernel
theorem dX8_isAsked_27 : decode cX8_isAsked 27 = .ok (.ireturn, 1) := by decide +kernel
theorem dX8_washed_0 : decode cX8_washed 0 = .ok (.iload_n 1, 1) := by decide +kernel
theorem dX8_washed_1 : decode cX8_washed 1 = .ok (.iload_n 2, 1) := by decide +kernel
theorem dX8_washed_2 : decode cX8_washed 2 = .ok (.invokestatic 204, 3) := by decide +kernel
theorem dX8_washed_5 : decode cX8_washed 5 = .ok (.ifCond .ne 6, 3) := by decide +kernel
theorem dX8_washed_8 : decode cX8_washed 8 = .ok (.ldc 88, 2) := by decide +kernel
theorem dX8_washed_10 : decode cX8_washed 10 = .ok (.ireturn, 1) := by decide +kernel
theorem dX8_washed_11 : decode cX8_washed 11 = .ok (.aload_n 0, 1) := by decide +kernel
theorem dX8_washed_12 : decode cX8_washed 12 = .ok (.invokevirtual 196, 3) := by decide +kernel
theorem dX8_washed_15 : decode cX8_washed 15 = .ok (.iconst (-1), 1) := by decide +kernel
theorem dX8_washed_16 : decode cX8_washed 16 = .ok (.istore_n 3, 1) := by decide +kernel
theorem dX8_washed_17 : decode cX8_washed 17 = .ok (.iconst (-1), 1) := by decide +kernel
theorem dX8_washed_18 : decode cX8_washed 18 = .ok (.istore 4, 2) := by decide +kernel
theorem dX8_washed_20 : decode cX8_washed 20 = .ok (.iconst 0, 1) := by decide +kernel
theorem dX8_washed_21 : decode cX8_washed 21 = .ok (.istore 5, 2) := by decide +kernel
theorem dX8_washed_23 : decode cX8_washed 23 = .ok (.iload 5, 2) := by decide +kernel
theorem dX8_washed_25 : decode cX8_washed 25 = .ok (.aload_n 0, 1) := by decide +kernel
theorem dX8_washed_26 : decode cX8_washed 26 = .ok (.getfield 7, 3) := by decide +kernel
theorem dX8_washed_29 : decode cX8_washed 29 = .ok (.iconst 0, 1) := by decide +kernel
theorem dX8_washed_30 : decode cX8_washed 30 = .ok (.iaload, 1) := by decide +kernel
theorem dX8_washed_31 : decode cX8_washed 31 = .ok (.if_icmp .ge 62, 3) := by decide +kernel
theorem dX8_washed_34 : decode cX8_washed 34 = .ok (.aload_n 0, 1) := by decide +kernel
theorem dX8_washed_35 : decode cX8_washed 35 = .ok (.iload 5, 2) := by decide +kernel
theorem dX8_washed_37 : decode cX8_washed 37 = .ok (.iconst 2, 1) := by decide +kernel
theorem dX8_washed_38 : decode cX8_washed 38 = .ok (.iconst 0, 1) := by decide +kernel
theorem dX8_washed_39 : decode cX8_washed 39 = .ok (.invokevirtual 76, 3) := by decide +kernel
theorem dX8_washed_42 : decode cX8_washed 42 = .ok (.aload_n 0, 1) := by decide +kernel
theorem dX8_washed_43 : decode cX8_washed 43 = .ok (.iload_n 1, 1) := by decide +kernel
theorem dX8_washed_44 : decode cX8_washed 44 = .ok (.invokevirtual 182, 3) := by decide +kernel
theorem dX8_washed_47 : decode cX8_washed 47 = .ok (.aload_n 0, 1) := by decide +kernel
theorem dX8_washed_48 : decode cX8_washed 48 = .ok (.invokevirtual 170, 3) := by decide +kernel
theorem dX8_washed_51 : decode cX8_washed 51 = .ok (.istore 6, 2) := by decide +kernel
theorem dX8_washed_53 : decode cX8_washed 53 = .ok (.aload_n 0, 1) := by decide +kernel
theorem dX8_washed_54 : decode cX8_washed 54 = .ok (.invokevirtual 199, 3) := by decide +kernel
theorem dX8_washed_57 : decode cX8_washed 57 = .ok (.iload 6, 2) := by decide +kernel
theorem dX8_washed_59 : decode cX8_washed 59 = .ok (.iload 4, 2) := by decide +kernel
theorem dX8_washed_61 : decode cX8_washed 61 = .ok (.if_icmp .le 8, 3) := by decide +kernel
theorem dX8_washed_64 : decode cX8_washed 64 = .ok (.iload 5, 2) := by decide +kernel
theorem dX8_washed_66 : decode cX8_washed 66 = .ok (.goto 4, 3) := by decide +kernel
theorem dX8_washed_69 : decode cX8_washed 69 = .ok (.iload_n 3, 1) := by decide +kernel
theorem dX8_washed_70 : decode cX8_washed 70 = .ok (.istore_n 3, 1) := by decide +kernel
theorem dX8_washed_71 : decode cX8_washed 71 = .ok (.iload 6, 2) := by decide +kernel
theorem dX8_washed_73 : decode cX8_washed 73 = .ok (.iload 4, 2) := by decide +kernel
theorem dX8_washed_75 : decode cX8_washed 75 = .ok (.if_icmp .le 8, 3) := by decide +kernel
theorem dX8_washed_78 : decode cX8_washed 78 = .ok (.iload 6, 2) := by decide +kernel
theorem dX8_washed_80 : decode cX8_washed 80 = .ok (.goto 5, 3) := by decide +kernel
theorem dX8_washed_83 : decode cX8_washed 83 = .ok (.iload 4, 2) := by decide +kernel
theorem dX8_washed_85 : decode cX8_washed 85 = .ok (.istore 4, 2) := by decide +kernel
theorem dX8_washed_87 : decode cX8_washed 87 = .ok (.iinc 5 1, 3) := by decide +kernel
theorem dX8_washed_90 : decode cX8_washed 90 = .ok (.goto (-67), 3) := by decide +kernel
theorem dX8_washed_93 : decode cX8_washed 93 = .ok (.iload_n 3, 1) := by decide +kernel
theorem dX8_washed_94 : decode cX8_washed 94 = .ok (.ifCond .ge 8, 3) := by decide +kernel
theorem dX8_washed_97 : decode cX8_washed 97 = .ok (.ldc 64, 2) := by decide +kernel
theorem dX8_washed_99 : decode cX8_washed 99 = .ok (.goto 13, 3) := by decide +kernel
theorem dX8_washed_102 : decode cX8_washed 102 = .ok (.iload_n 2, 1) := by decide +kernel
theorem dX8_washed_103 : decode cX8_washed 103 = .ok (.ifCond .ne 7, 3) := by decide +kernel
theorem dX8_washed_106 : decode cX8_washed 106 = .ok (.iload_n 3, 1) := by decide +kernel
theorem dX8_washed_107 : decode cX8_washed 107 = .ok (.goto 5, 3) := by decide +kernel
theorem dX8_washed_110 : decode cX8_washed 110 = .ok (.iload 4, 2) := by decide +kernel
theorem dX8_washed_112 : decode cX8_washed 112 = .ok (.ireturn, 1) := by decide +kernel
theorem dX8_needed_0 : decode cX8_needed 0 = .ok (.iload_n 1, 1) := by decide +kernel
theorem dX8_needed_1 : decode cX8_needed 1 = .ok (.i2l, 1) := by decide +kernel
theorem dX8_needed_2 : decode cX8_needed 2 = .ok (.lconst 1, 1) := by decide +kernel
theorem dX8_needed_3 : decode cX8_needed 3 = .ok (.ldc2_w 202, 3) := by decide +kernel
theorem dX8_needed_6 : decode cX8_needed 6 = .ok (.invokestatic 65, 3) := by decide +kernel
theorem dX8_needed_9 : decode cX8_needed 9 = .ok (.ifCond .ne 6, 3) := by decide +kernel
theorem dX8_needed_12 : decode cX8_needed 12 = .ok (.ldc 88, 2) := by decide +kernel
theorem dX8_needed_14 : decode cX8_needed 14 = .ok (.ireturn, 1) := by decide +kernel
theorem dX8_needed_15 : decode cX8_needed 15 = .ok (.aload_n 0, 1) := by decide +kernel
theorem dX8_needed_16 : decode cX8_needed 16 = .ok (.invokevirtual 196, 3) := by decide +kernel
theorem dX8_needed_19 : decode cX8_needed 19 = .ok (.aload_n 0, 1) := by decide +kernel
theorem dX8_needed_20 : decode cX8_needed 20 = .ok (.invokevirtual 179, 3) := by decide +kernel
theorem dX8_needed_23 : decode cX8_needed 23 = .ok (.istore_n 2, 1) := by decide +kernel
theorem dX8_needed_24 : decode cX8_needed 24 = .ok (.iconst 0, 1) := by decide +kernel
theorem dX8_needed_25 : decode cX8_needed 25 = .ok (.istore_n 3, 1) := by decide +kernel
theorem dX8_needed_26 : decode cX8_needed 26 = .ok (.iconst 0, 1) := by decide +kernel
theorem dX8_needed_27 : decode cX8_needed 27 = .ok (.istore 4, 2) := by decide +kernel
theorem dX8_needed_29 : decode cX8_needed 29 = .ok (.iload_n 3, 1) := by decide +kernel
theorem dX8_needed_30 : decode cX8_needed 30 = .ok (.bipush 20, 2) := by decide +kernel
theorem dX8_needed_32 : decode cX8_needed 32 = .ok (.if_icmp .ge 45, 3) := by decide +kernel
theorem dX8_needed_35 : decode cX8_needed 35 = .ok (.iload 4, 2) := by decide +kernel
theorem dX8_needed_37 : decode cX8_needed 37 = .ok (.ifCond .ne 40, 3) := by decide +kernel
theorem dX8_needed_40 : decode cX8_needed 40 = .ok (.aload_n 0, 1) := by decide +kernel
theorem dX8_needed_41 : decode cX8_needed 41 = .ok (.getfield 7, 3) := by decide +kernel
theorem dX8_needed_44 : decode cX8_needed 44 = .ok (.iconst 3, 1) := by decide +kernel
theorem dX8_needed_45 : decode cX8_needed 45 = .ok (.iload_n 3, 1) := by decide +kernel
theorem dX8_needed_46 : decode cX8_needed 46 = .ok (.iastore, 1) := by decide +kernel
theorem dX8_needed_47 : decode cX8_needed 47 = .ok (.aload_n 0, 1) := by decide +kernel
theorem dX8_needed_48 : decode cX8_needed 48 = .ok (.iload_n 1, 1) := by decide +kernel
theorem dX8_needed_49 : decode cX8_needed 49 = .ok (.invokevirtual 182, 3) := by decide +kernel
theorem dX8_needed_52 : decode cX8_needed 52 = .ok (.aload_n 0, 1) := by decide +kernel
theorem dX8_needed_53 : decode cX8_needed 53 = .ok (.invokevirtual 179, 3) := by decide +kernel
theorem dX8_needed_56 : decode cX8_needed 56 = .ok (.iload_n 2, 1) := by decide +kernel
theorem dX8_needed_57 : decode cX8_needed 57 = .ok (.if_icmp .ne 7, 3) := by decide +kernel
theorem dX8_needed_60 : decode cX8_needed 60 = .ok (.iconst 1, 1) := by decide +kernel
theorem dX8_needed_61 : decode cX8_needed 61 = .ok (.goto 4, 3) := by decide +kernel
theorem dX8_needed_64 : decode cX8_needed 64 = .ok (.iconst 0, 1) := by decide +kernel
theorem dX8_needed_65 : decode cX8_needed 65 = .ok (.istore 4, 2) := by decide +kernel
theorem dX8_needed_67 : decode cX8_needed 67 = .ok (.aload_n 0, 1) := by decide +kernel
theorem dX8_needed_68 : decode cX8_needed 68 = .ok (.invokevirtual 199, 3) := by decide +kernel
theorem dX8_needed_71 : decode cX8_needed 71 = .ok (.iinc 3 1, 3) := by decide +kernel
theorem dX8_needed_74 : decode cX8_needed 74 = .ok (.goto (-45), 3) := by decide +kernel
theorem dX8_needed_77 : decode cX8_needed 77 = .ok (.iload 4, 2) := by decide +kernel
theorem dX8_needed_79 : decode cX8_needed 79 = .ok (.ifCond .eq 9, 3) := by decide +kernel
theorem dX8_needed_82 : decode cX8_needed 82 = .ok (.iload_n 3, 1) := by decide +kernel
theorem dX8_needed_83 : decode cX8_needed 83 = .ok (.iconst 1, 1) := by decide +kernel
theorem dX8_needed_84 : decode cX8_needed 84 = .ok (.isub, 1) := by decide +kernel
theorem dX8_needed_85 : decode cX8_needed 85 = .ok (.goto 5, 3) := by decide +kernel
theorem dX8_needed_88 : decode cX8_needed 88 = .ok (.ldc 64, 2) := by decide +kernel
theorem dX8_needed_90 : decode cX8_needed 90 = .ok (.ireturn, 1) := by decide +kernel
theorem dX8_becomes_0 : decode cX8_becomes 0 = .ok (.aload_n 0, 1) := by decide +kernel
theorem dX8_becomes_1 : decode cX8_becomes 1 = .ok (.iload_n 1, 1) := by decide +kernel
theorem dX8_becomes_2 : decode cX8_becomes 2 = .ok (.invokevirtual 110, 3) := by decide +kernel
theorem dX8_becomes_5 : decode cX8_becomes 5 = .ok (.ifCond .eq 11, 3) := by decide +kernel
theorem dX8_becomes_8 : decode cX8_becomes 8 = .ok (.iload_n 2, 1) := by decide +kernel
theorem dX8_becomes_9 : decode cX8_becomes 9 = .ok (.iload_n 3, 1) := by decide +kernel
theorem dX8_becomes_10 : decode cX8_becomes 10 = .ok (.invokestatic 204, 3) := by decide +kernel
theorem dX8_becomes_13 : decode cX8_becomes 13 = .ok (.ifCond .ne 6, 3) := by decide +kernel
theorem dX8_becomes_16 : decode cX8_becomes 16 = .ok (.ldc 88, 2) := by decide +kernel
theorem dX8_becomes_18 : decode cX8_becomes 18 = .ok (.ireturn, 1) := by decide +kernel
theorem dX8_becomes_19 : decode cX8_becomes 19 = .ok (.aload_n 0, 1) := by decide +kernel
theorem dX8_becomes_20 : decode cX8_becomes 20 = .ok (.invokevirtual 196, 3) := by decide +kernel
theorem dX8_becomes_23 : decode cX8_becomes 23 = .ok (.iconst 0, 1) := by decide +kernel
theorem dX8_becomes_24 : decode cX8_becomes 24 = .ok (.istore 4, 2) := by decide +kernel
theorem dX8_becomes_26 : decode cX8_becomes 26 = .ok (.iconst (-1), 1) := by decide +kernel
theorem dX8_becomes_27 : decode cX8_becomes 27 = .ok (.istore 5, 2) := by decide +kernel
theorem dX8_becomes_29 : decode cX8_becomes 29 = .ok (.iconst 0, 1) := by decide +kernel
theorem dX8_becomes_30 : decode cX8_becomes 30 = .ok (.istore 6, 2) := by decide +kernel
theorem dX8_becomes_32 : decode cX8_becomes 32 = .ok (.iload 6, 2) := by decide +kernel
theorem dX8_becomes_34 : decode cX8_becomes 34 = .ok (.bipush 6, 2) := by decide +kernel
theorem dX8_becomes_36 : decode cX8_becomes 36 = .ok (.if_icmp .ge 64, 3) := by decide +kernel
theorem dX8_becomes_39 : decode cX8_becomes 39 = .ok (.aload_n 0, 1) := by decide +kernel
theorem dX8_becomes_40 : decode cX8_becomes 40 = .ok (.iload_n 1, 1) := by decide +kernel
theorem dX8_becomes_41 : decode cX8_becomes 41 = .ok (.iconst 0, 1) := by decide +kernel
theorem dX8_becomes_42 : decode cX8_becomes 42 = .ok (.iload 6, 2) := by decide +kernel
theorem dX8_becomes_44 : decode cX8_becomes 44 = .ok (.invokevirtual 76, 3) := by decide +kernel
theorem dX8_becomes_47 : decode cX8_becomes 47 = .ok (.aload_n 0, 1) := by decide +kernel
theorem dX8_becomes_48 : decode cX8_becomes 48 = .ok (.iload_n 2, 1) := by decide +kernel
theorem dX8_becomes_49 : decode cX8_becomes 49 = .ok (.invokevirtual 182, 3) := by decide +kernel
theorem dX8_becomes_52 : decode cX8_becomes 52 = .ok (.aload_n 0, 1) := by decide +kernel
theorem dX8_becomes_53 : decode cX8_becomes 53 = .ok (.invokevirtual 170, 3) := by decide +kernel
theorem dX8_becomes_56 : decode cX8_becomes 56 = .ok (.istore 7, 2) := by decide +kernel
theorem dX8_becomes_58 : decode cX8_becomes 58 = .ok (.aload_n 0, 1) := by decide +kernel
theorem dX8_becomes_59 : decode cX8_becomes 59 = .ok (.invokevirtual 199, 3) := by decide +kernel
theorem dX8_becomes_62 : decode cX8_becomes 62 = .ok (.iload 7, 2) := by decide +kernel
theorem dX8_becomes_64 : decode cX8_becomes 64 = .ok (.iload 5, 2) := by decide +kernel
theorem dX8_becomes_66 : decode cX8_becomes 66 = .ok (.if_icmp .le 8, 3) := by decide +kernel
theorem dX8_becomes_69 : decode cX8_becomes 69 = .ok (.iload 6, 2) := by decide +kernel
theorem dX8_becomes_71 : decode cX8_becomes 71 = .ok (.goto 5, 3) := by decide +kernel
theorem dX8_becomes_74 : decode cX8_becomes 74 = .ok (.iload 4, 2) := by decide +kernel
theorem dX8_becomes_76 : decode cX8_becomes 76 = .ok (.istore 4, 2) := by decide +kernel
theorem dX8_becomes_78 : decode cX8_becomes 78 = .ok (.iload 7, 2) := by decide +kernel
theorem dX8_becomes_80 : decode cX8_becomes 80 = .ok (.iload 5, 2) := by decide +kernel
theorem dX8_becomes_82 : decode cX8_becomes 82 = .ok (.if_icmp .le 8, 3) := by decide +kernel
theorem dX8_becomes_85 : decode cX8_becomes 85 = .ok (.iload 7, 2) := by decide +kernel
theorem dX8_becomes_87 : decode cX8_becomes 87 = .ok (.goto 5, 3) := by decide +kernel
theorem dX8_becomes_90 : decode cX8_becomes 90 = .ok (.iload 5, 2) := by decide +kernel
theorem dX8_becomes_92 : decode cX8_becomes 92 = .ok (.istore 5, 2) := by decide +kernel
theorem dX8_becomes_94 : decode cX8_becomes 94 = .ok (.iinc 6 1, 3) := by decide +kernel
theorem dX8_becomes_97 : decode cX8_becomes 97 = .ok (.goto (-65), 3) := by decide +kernel
theorem dX8_becomes_100 : decode cX8_becomes 100 = .ok (.iload_n 3, 1) := by decide +kernel
theorem dX8_becomes_101 : decode cX8_becomes 101 = .ok (.ifCond .ne 8, 3) := by decide +kernel
theorem dX8_becomes_104 : decode cX8_becomes 104 = .ok (.iload 4, 2) := by decide +kernel
theorem dX8_becomes_106 : decode cX8_becomes 106 = .ok (.goto 5, 3) := by decide +kernel
theorem dX8_becomes_109 : decode cX8_becomes 109 = .ok (.iload 5, 2) := by decide +kernel
theorem dX8_becomes_111 : decode cX8_becomes 111 = .ok (.ireturn, 1) := by decide +kernel
theorem dX8_fee_0 : decode cX8_fee 0 = .ok (.aload_n 0, 1) := by decide +kernel
theorem dX8_fee_1 : decode cX8_fee 1 = .ok (.iconst 1, 1) := by decide +kernel
theorem dX8_fee_2 : decode cX8_fee 2 = .ok (.invokevirtual 98, 3) := by decide +kernel
theorem dX8_fee_5 : decode cX8_fee 5 = .ok (.istore_n 1, 1) := by decide +kernel
theorem dX8_fee_6 : decode cX8_fee 6 = .ok (.iload_n 1, 1) := by decide +kernel
theorem dX8_fee_7 : decode cX8_fee 7 = .ok (.ifCond .ge 11, 3) := by decide +kernel
theorem dX8_fee_10 : decode cX8_fee 10 = .ok (.aload_n 0, 1) := by decide +kernel
theorem dX8_fee_11 : decode cX8_fee 11 = .ok (.getfield 7, 3) := by decide +kernel
theorem dX8_fee_14 : decode cX8_fee 14 = .ok (.bipush 8, 2) := by decide +kernel
theorem dX8_fee_16 : decode cX8_fee 16 = .ok (.iaload, 1) := by decide +kernel
theorem dX8_fee_17 : decode cX8_fee 17 = .ok (.ireturn, 1) := by decide +kernel
theorem dX8_fee_18 : decode cX8_fee 18 = .ok (.aload_n 0, 1) := by decide +kernel
theorem dX8_fee_19 : decode cX8_fee 19 = .ok (.getfield 49, 3) := by decide +kernel
theorem dX8_fee_22 : decode cX8_fee 22 = .ok (.bipush 104, 2) := by decide +kernel
theorem dX8_fee_24 : decode cX8_fee 24 = .ok (.aload_n 0, 1) := by decide +kernel
theorem dX8_fee_25 : decode cX8_fee 25 = .ok (.getfield 7, 3) := by decide +kernel
theorem dX8_fee_28 : decode cX8_fee 28 = .ok (.bipush 8, 2) := by decide +kernel
theorem dX8_fee_30 : decode cX8_fee 30 = .ok (.iaload, 1) := by decide +kernel
theorem dX8_fee_31 : decode cX8_fee 31 = .ok (.iastore, 1) := by decide +kernel
theorem dX8_fee_32 : decode cX8_fee 32 = .ok (.aload_n 0, 1) := by decide +kernel
theorem dX8_fee_33 : decode cX8_fee 33 = .ok (.getfield 49, 3) := by decide +kernel
theorem dX8_fee_36 : decode cX8_fee 36 = .ok (.bipush 108, 2) := by decide +kernel
theorem dX8_fee_38 : decode cX8_fee 38 = .ok (.aload_n 0, 1) := by decide +kernel
theorem dX8_fee_39 : decode cX8_fee 39 = .ok (.getfield 7, 3) := by decide +kernel
theorem dX8_fee_42 : decode cX8_fee 42 = .ok (.bipush 9, 2) := by decide +kernel
theorem dX8_fee_44 : decode cX8_fee 44 = .ok (.iaload, 1) := by decide +kernel
theorem dX8_fee_45 : decode cX8_fee 45 = .ok (.iastore, 1) := by decide +kernel
theorem dX8_fee_46 : decode cX8_fee 46 = .ok (.aload_n 0, 1) := by decide +kernel
theorem dX8_fee_47 : decode cX8_fee 47 = .ok (.iload_n 1, 1) := by decide +kernel
theorem dX8_fee_48 : decode cX8_fee 48 = .ok (.invokevirtual 101, 3) := by decide +kernel
theorem dX8_fee_51 : decode cX8_fee 51 = .ok (.ireturn, 1) := by decide +kernel
theorem dX8_fine_0 : decode cX8_fine 0 = .ok (.aload_n 0, 1) := by decide +kernel
theorem dX8_fine_1 : decode cX8_fine 1 = .ok (.iload_n 1, 1) := by decide +kernel
theorem dX8_fine_2 : decode cX8_fine 2 = .ok (.invokevirtual 110, 3) := by decide +kernel
theorem dX8_fine_5 : decode cX8_fine 5 = .ok (.ifCond .ne 6, 3) := by decide +kernel
theorem dX8_fine_8 : decode cX8_fine 8 = .ok (.ldc 88, 2) := by decide +kernel
theorem dX8_fine_10 : decode cX8_fine 10 = .ok (.ireturn, 1) := by decide +kernel
theorem dX8_fine_11 : decode cX8_fine 11 = .ok (.aload_n 0, 1) := by decide +kernel
theorem dX8_fine_12 : decode cX8_fine 12 = .ok (.iconst 2, 1) := by decide +kernel
theorem dX8_fine_13 : decode cX8_fine 13 = .ok (.invokevirtual 98, 3) := by decide +kernel
theorem dX8_fine_16 : decode cX8_fine 16 = .ok (.istore_n 2, 1) := by decide +kernel
theorem dX8_fine_17 : decode cX8_fine 17 = .ok (.iload_n 2, 1) := by decide +kernel
theorem dX8_fine_18 : decode cX8_fine 18 = .ok (.ifCond .ge 10, 3) := by decide +kernel
theorem dX8_fine_21 : decode cX8_fine 21 = .ok (.aload_n 0, 1) := by decide +kernel
theorem dX8_fine_22 : decode cX8_fine 22 = .ok (.iload_n 1, 1) := by decide +kernel
theorem dX8_fine_23 : decode cX8_fine 23 = .ok (.iconst 3, 1) := by decide +kernel
theorem dX8_fine_24 : decode cX8_fine 24 = .ok (.invokevirtual 72, 3) := by decide +kernel
theorem dX8_fine_27 : decode cX8_fine 27 = .ok (.ireturn, 1) := by decide +kernel
theorem dX8_fine_28 : decode cX8_fine 28 = .ok (.aload_n 0, 1) := by decide +kernel
theorem dX8_fine_29 : decode cX8_fine 29 = .ok (.getfield 49, 3) := by decide +kernel
theorem dX8_fine_32 : decode cX8_fine 32 = .ok (.bipush 119, 2) := by decide +kernel
theorem dX8_fine_34 : decode cX8_fine 34 = .ok (.aload_n 0, 1) := by decide +kernel
theorem dX8_fine_35 : decode cX8_fine 35 = .ok (.iload_n 1, 1) := by decide +kernel
theorem dX8_fine_36 : decode cX8_fine 36 = .ok (.iconst 2, 1) := by decide +kernel
theorem dX8_fine_37 : decode cX8_fine 37 = .ok (.invokevirtual 72, 3) := by decide +kernel
theorem dX8_fine_40 : decode cX8_fine 40 = .ok (.iastore, 1) := by decide +kernel
theorem dX8_fine_41 : decode cX8_fine 41 = .ok (.aload_n 0, 1) := by decide +kernel
theorem dX8_fine_42 : decode cX8_fine 42 = .ok (.getfield 49, 3) := by decide +kernel
theorem dX8_fine_45 : decode cX8_fine 45 = .ok (.bipush 100, 2) := by decide +kernel
theorem dX8_fine_47 : decode cX8_fine 47 = .ok (.aload_n 0, 1) := by decide +kernel
theorem dX8_fine_48 : decode cX8_fine 48 = .ok (.iload_n 1, 1) := by decide +kernel
theorem dX8_fine_49 : decode cX8_fine 49 = .ok (.iconst 3, 1) := by decide +kernel
theorem dX8_fine_50 : decode cX8_fine 50 = .ok (.invokevirtual 72, 3) := by decide +kernel
theorem dX8_fine_53 : decode cX8_fine 53 = .ok (.iastore, 1) := by decide +kernel
theorem dX8_fine_54 : decode cX8_fine 54 = .ok (.aload_n 0, 1) := by decide +kernel
theorem dX8_fine_55 : decode cX8_fine 55 = .ok (.iload_n 2, 1) := by decide +kernel
theorem dX8_fine_56 : decode cX8_fine 56 = .ok (.invokevirtual 101, 3) := by decide +kernel
theorem dX8_fine_59 : decode cX8_fine 59 = .ok (.ireturn, 1) := by decide +kernel
theorem dX8_feed_0 : decode cX8_feed 0 = .ok (.aload_n 0, 1) := by decide +kernel
theorem dX8_feed_1 : decode cX8_feed 1 = .ok (.getfield 207, 3) := by decide +kernel
theorem dX8_feed_4 : decode cX8_feed 4 = .ok (.bipush 12, 2) := by decide +kernel
theorem dX8_feed_6 : decode cX8_feed 6 = .ok (.iadd, 1) := by decide +kernel
theorem dX8_feed_7 : decode cX8_feed 7 = .ok (.bipush 96, 2) := by decide +kernel
theorem dX8_feed_9 : decode cX8_feed 9 = .ok (.if_icmp .le 6, 3) := by decide +kernel
theorem dX8_feed_12 : decode cX8_feed 12 = .ok (.ldc 94, 2) := by decide +kernel
theorem dX8_feed_14 : decode cX8_feed 14 = .ok (.ireturn, 1) := by decide +kernel
theorem dX8_feed_15 : decode cX8_feed 15 = .ok (.iconst 0, 1) := by decide +kernel
theorem dX8_feed_16 : decode cX8_feed 16 = .ok (.istore 4, 2) := by decide +kernel
theorem dX8_feed_18 : decode cX8_feed 18 = .ok (.iload 4, 2) := by decide +kernel
theorem dX8_feed_20 : decode cX8_feed 20 = .ok (.bipush 12, 2) := by decide +kernel
theorem dX8_feed_22 : decode cX8_feed 22 = .ok (.if_icmp .ge 69, 3) := by decide +kernel
theorem dX8_feed_25 : decode cX8_feed 25 = .ok (.iload 4, 2) := by decide +kernel
theorem dX8_feed_27 : decode cX8_feed 27 = .ok (.iconst 4, 1) := by decide +kernel
theorem dX8_feed_28 : decode cX8_feed 28 = .ok (.if_icmp .ge 7, 3) := by decide +kernel
theorem dX8_feed_31 : decode cX8_feed 31 = .ok (.iload_n 1, 1) := by decide +kernel
theorem dX8_feed_32 : decode cX8_feed 32 = .ok (.goto 15, 3) := by decide +kernel
theorem dX8_feed_35 : decode cX8_feed 35 = .ok (.iload 4, 2) := by decide +kernel
theorem dX8_feed_37 : decode cX8_feed 37 = .ok (.bipush 8, 2) := by decide +kernel
theorem dX8_feed_39 : decode cX8_feed 39 = .ok (.if_icmp .ge 7, 3) := by decide +kernel
theorem dX8_feed_42 : decode cX8_feed 42 = .ok (.iload_n 2, 1) := by decide +kernel
theorem dX8_feed_43 : decode cX8_feed 43 = .ok (.goto 4, 3) := by decide +kernel
theorem dX8_feed_46 : decode cX8_feed 46 = .ok (.iload_n 3, 1) := by decide +kernel
theorem dX8_feed_47 : decode cX8_feed 47 = .ok (.istore 5, 2) := by decide +kernel
theorem dX8_feed_49 : decode cX8_feed 49 = .ok (.aload_n 0, 1) := by decide +kernel
theorem dX8_feed_50 : decode cX8_feed 50 = .ok (.getfield 46, 3) := by decide +kernel
theorem dX8_feed_53 : decode cX8_feed 53 = .ok (.aload_n 0, 1) := by decide +kernel
theorem dX8_feed_54 : decode cX8_feed 54 = .ok (.getfield 207, 3) := by decide +kernel
theorem dX8_feed_57 : decode cX8_feed 57 = .ok (.iload 5, 2) := by decide +kernel
theorem dX8_feed_59 : decode cX8_feed 59 = .ok (.bipush 24, 2) := by decide +kernel
theorem dX8_feed_61 : decode cX8_feed 61 = .ok (.bipush 8, 2) := by decide +kernel
theorem dX8_feed_63 : decode cX8_feed 63 = .ok (.iload 4, 2) := by decide +kernel
theorem dX8_feed_65 : decode cX8_feed 65 = .ok (.iconst 4, 1) := by decide +kernel
theorem dX8_feed_66 : decode cX8_feed 66 = .ok (.irem, 1) := by decide +kernel
theorem dX8_feed_67 : decode cX8_feed 67 = .ok (.imul, 1) := by decide +kernel
theorem dX8_feed_68 : decode cX8_feed 68 = .ok (.isub, 1) := by decide +kernel
theorem dX8_feed_69 : decode cX8_feed 69 = .ok (.ishr, 1) := by decide +kernel
theorem dX8_feed_70 : decode cX8_feed 70 = .ok (.sipush 255, 3) := by decide +kernel
theorem dX8_feed_73 : decode cX8_feed 73 = .ok (.iand, 1) := by decide +kernel
theorem dX8_feed_74 : decode cX8_feed 74 = .ok (.iastore, 1) := by decide +kernel
theorem dX8_feed_75 : decode cX8_feed 75 = .ok (.aload_n 0, 1) := by decide +kernel
theorem dX8_feed_76 : decode cX8_feed 76 = .ok (.dup, 1) := by decide +kernel
theorem dX8_feed_77 : decode cX8_feed 77 = .ok (.getfield 207, 3) := by decide +kernel
theorem dX8_feed_80 : decode cX8_feed 80 = .ok (.iconst 1, 1) := by decide +kernel
theorem dX8_feed_81 : decode cX8_feed 81 = .ok (.iadd, 1) := by decide +kernel
theorem dX8_feed_82 : decode cX8_feed 82 = .ok (.putfield 207, 3) := by decide +kernel
theorem dX8_feed_85 : decode cX8_feed 85 = .ok (.iinc 4 1, 3) := by decide +kernel
theorem dX8_feed_88 : decode cX8_feed 88 = .ok (.goto (-70), 3) := by decide +kernel
theorem dX8_feed_91 : decode cX8_feed 91 = .ok (.aload_n 0, 1) := by decide +kernel
theorem dX8_feed_92 : decode cX8_feed 92 = .ok (.getfield 207, 3) := by decide +kernel
theorem dX8_feed_95 : decode cX8_feed 95 = .ok (.ireturn, 1) := by decide +kernel
theorem dX8_trim_0 : decode cX8_trim 0 = .ok (.iload_n 1, 1) := by decide +kernel
theorem dX8_trim_1 : decode cX8_trim 1 = .ok (.i2l, 1) := by decide +kernel
theorem dX8_trim_2 : decode cX8_trim 2 = .ok (.lconst 0, 1) := by decide +kernel
theorem dX8_trim_3 : decode cX8_trim 3 = .ok (.aload_n 0, 1) := by decide +kernel
theorem dX8_trim_4 : decode cX8_trim 4 = .ok (.getfield 207, 3) := by decide +kernel
theorem dX8_trim_7 : decode cX8_trim 7 = .ok (.i2l, 1) := by decide +kernel
theorem dX8_trim_8 : decode cX8_trim 8 = .ok (.invokestatic 65, 3) := by decide +kernel
theorem dX8_trim_11 : decode cX8_trim 11 = .ok (.ifCond .ne 6, 3) := by decide +kernel
theorem dX8_trim_14 : decode cX8_trim 14 = .ok (.ldc 88, 2) := by decide +kernel
theorem dX8_trim_16 : decode cX8_trim 16 = .ok (.ireturn, 1) := by decide +kernel
theorem dX8_trim_17 : decode cX8_trim 17 = .ok (.aload_n 0, 1) := by decide +kernel
theorem dX8_trim_18 : decode cX8_trim 18 = .ok (.iload_n 1, 1) := by decide +kernel
theorem dX8_trim_19 : decode cX8_trim 19 = .ok (.putfield 207, 3) := by decide +kernel
theorem dX8_trim_22 : decode cX8_trim 22 = .ok (.iload_n 1, 1) := by decide +kernel
theorem dX8_trim_23 : decode cX8_trim 23 = .ok (.ireturn, 1) := by decide +kernel
theorem dX8_isLetter_0 : decode cX8_isLetter 0 = .ok (.iload_n 1, 1) := by decide +kernel
theorem dX8_isLetter_1 : decode cX8_isLetter 1 = .ok (.aload_n 0, 1) := by decide +kernel
theorem dX8_isLetter_2 : decode cX8_isLetter 2 = .ok (.getfield 207, 3) := by decide +kernel
theorem dX8_isLetter_5 : decode cX8_isLetter 5 = .ok (.if_icmp .ge 26, 3) := by decide +kernel
theorem dX8_isLetter_8 : decode cX8_isLetter 8 = .ok (.aload_n 0, 1) := by decide +kernel
theorem dX8_isLetter_9 : decode cX8_isLetter 9 = .ok (.getfield 46, 3) := by decide +kernel
theorem dX8_isLetter_12 : decode cX8_isLetter 12 = .ok (.iload_n 1, 1) := by decide +kernel
theorem dX8_isLetter_13 : decode cX8_isLetter 13 = .ok (.iaload, 1) := by decide +kernel
theorem dX8_isLetter_14 : decode cX8_isLetter 14 = .ok (.i2l, 1) := by decide +kernel
theorem dX8_isLetter_15 : decode cX8_isLetter 15 = .ok (.ldc2_w 211, 3) := by decide +kernel
theorem dX8_isLetter_18 : decode cX8_isLetter 18 = .ok (.ldc2_w 213, 3) := by decide +kernel
theorem dX8_isLetter_21 : decode cX8_isLetter 21 = .ok (.invokestatic 65, 3) := by decide +kernel
theorem dX8_isLetter_24 : decode cX8_isLetter 24 = .ok (.ifCond .eq 7, 3) := by decide +kernel
theorem dX8_isLetter_27 : decode cX8_isLetter 27 = .ok (.iconst 1, 1) := by decide +kernel
theorem dX8_isLetter_28 : decode cX8_isLetter 28 = .ok (.goto 4, 3) := by decide +kernel
theorem dX8_isLetter_31 : decode cX8_isLetter 31 = .ok (.iconst 0, 1) := by decide +kernel
theorem dX8_isLetter_32 : decode cX8_isLetter 32 = .ok (.ireturn, 1) := by decide +kernel
theorem dX8_isDigit_0 : decode cX8_isDigit 0 = .ok (.iload_n 1, 1) := by decide +kernel
theorem dX8_isDigit_1 : decode cX8_isDigit 1 = .ok (.aload_n 0, 1) := by decide +kernel
theorem dX8_isDigit_2 : decode cX8_isDigit 2 = .ok (.getfield 207, 3) := by decide +kernel
theorem dX8_isDigit_5 : decode cX8_isDigit 5 = .ok (.if_icmp .ge 26, 3) := by decide +kernel
theorem dX8_isDigit_8 : decode cX8_isDigit 8 = .ok (.aload_n 0, 1) := by decide +kernel
theorem dX8_isDigit_9 : decode cX8_isDigit 9 = .ok (.getfield 46, 3) := by decide +kernel
theorem dX8_isDigit_12 : decode cX8_isDigit 12 = .ok (.iload_n 1, 1) := by decide +kernel
theorem dX8_isDigit_13 : decode cX8_isDigit 13 = .ok (.iaload, 1) := by decide +kernel
theorem dX8_isDigit_14 : decode cX8_isDigit 14 = .ok (.i2l, 1) := by decide +kernel
theorem dX8_isDigit_15 : decode cX8_isDigit 15 = .ok (.ldc2_w 215, 3) := by decide +kernel
theorem dX8_isDigit_18 : decode cX8_isDigit 18 = .ok (.ldc2_w 217, 3) := by decide +kernel
theorem dX8_isDigit_21 : decode cX8_isDigit 21 = .ok (.invokestatic 65, 3) := by decide +kernel
theorem dX8_isDigit_24 : decode cX8_isDigit 24 = .ok (.ifCond .eq 7, 3) := by decide +kernel
theorem dX8_isDigit_27 : decode cX8_isDigit 27 = .ok (.iconst 1, 1) := by decide +kernel
theorem dX8_isDigit_28 : decode cX8_isDigit 28 = .ok (.goto 4, 3) := by decide +kernel
theorem dX8_isDigit_31 : decode cX8_isDigit 31 = .ok (.iconst 0, 1) := by decide +kernel
theorem dX8_isDigit_32 : decode cX8_isDigit 32 = .ok (.ireturn, 1) := by decide +kernel
theorem dX8_nextToken_0 : decode cX8_nextToken 0 = .ok (.aload_n 0, 1) := by decide +kernel
theorem dX8_nextToken_1 : decode cX8_nextToken 1 = .ok (.getfield 219, 3) := by decide +kernel
theorem dX8_nextToken_4 : decode cX8_nextToken 4 = .ok (.ifCond .le 23, 3) := by decide +kernel
theorem dX8_nextToken_7 : decode cX8_nextToken 7 = .ok (.aload_n 0, 1) := by decide +kernel
theorem dX8_nextToken_8 : decode cX8_nextToken 8 = .ok (.getfield 222, 3) := by decide +kernel
theorem dX8_nextToken_11 : decode cX8_nextToken 11 = .ok (.iconst 1, 1) := by decide +kernel
theorem dX8_nextToken_12 : decode cX8_nextToken 12 = .ok (.if_icmp .eq 11, 3) := by decide +kernel
theorem dX8_nextToken_15 : decode cX8_nextToken 15 = .ok (.aload_n 0, 1) := by decide +kernel
theorem dX8_nextToken_16 : decode cX8_nextToken 16 = .ok (.getfield 222, 3) := by decide +kernel
theorem dX8_nextToken_19 : decode cX8_nextToken 19 = .ok (.iconst 2, 1) := by decide +kernel
theorem dX8_nextToken_20 : decode cX8_nextToken 20 = .ok (.if_icmp .ne 7, 3) := by decide +kernel
theorem dX8_nextToken_23 : decode cX8_nextToken 23 = .ok (.iconst 1, 1) := by decide +kernel
theorem dX8_nextToken_24 : decode cX8_nextToken 24 = .ok (.goto 4, 3) := by decide +kernel
theorem dX8_nextToken_27 : decode cX8_nextToken 27 = .ok (.iconst 0, 1) := by decide +kernel
theorem dX8_nextToken_28 : decode cX8_nextToken 28 = .ok (.istore_n 1, 1) := by decide +kernel
theorem dX8_nextToken_29 : decode cX8_nextToken 29 = .ok (.aload_n 0, 1) := by decide +kernel
theorem dX8_nextToken_30 : decode cX8_nextToken 30 = .ok (.getfield 219, 3) := by decide +kernel
theorem dX8_nextToken_33 : decode cX8_nextToken 33 = .ok (.istore_n 2, 1) := by decide +kernel
theorem dX8_nextToken_34 : decode cX8_nextToken 34 = .ok (.aload_n 0, 1) := by decide +kernel
theorem dX8_nextToken_35 : decode cX8_nextToken 35 = .ok (.getfield 219, 3) := by decide +kernel
theorem dX8_nextToken_38 : decode cX8_nextToken 38 = .ok (.aload_n 0, 1) := by decide +kernel
theorem dX8_nextToken_39 : decode cX8_nextToken 39 = .ok (.getfield 207, 3) := by decide +kernel
theorem dX8_nextToken_42 : decode cX8_nextToken 42 = .ok (.if_icmp .ge 30, 3) := by decide +kernel
theorem dX8_nextToken_45 : decode cX8_nextToken 45 = .ok (.aload_n 0, 1) := by decide +kernel
theorem dX8_nextToken_46 : decode cX8_nextToken 46 = .ok (.getfield 46, 3) := by decide +kernel
theorem dX8_nextToken_49 : decode cX8_nextToken 49 = .ok (.aload_n 0, 1) := by decide +kernel
theorem dX8_nextToken_50 : decode cX8_nextToken 50 = .ok (.getfield 219, 3) := by decide +kernel
theorem dX8_nextToken_53 : decode cX8_nextToken 53 = .ok (.iaload, 1) := by decide +kernel
theorem dX8_nextToken_54 : decode cX8_nextToken 54 = .ok (.bipush 32, 2) := by decide +kernel
theorem dX8_nextToken_56 : decode cX8_nextToken 56 = .ok (.if_icmp .ne 16, 3) := by decide +kernel
theorem dX8_nextToken_59 : decode cX8_nextToken 59 = .ok (.aload_n 0, 1) := by decide +kernel
theorem dX8_nextToken_60 : decode cX8_nextToken 60 = .ok (.dup, 1) := by decide +kernel
theorem dX8_nextToken_61 : decode cX8_nextToken 61 = .ok (.getfield 219, 3) := by decide +kernel
theorem dX8_nextToken_64 : decode cX8_nextToken 64 = .ok (.iconst 1, 1) := by decide +kernel
theorem dX8_nextToken_65 : decode cX8_nextToken 65 = .ok (.iadd, 1) := by decide +kernel
theorem dX8_nextToken_66 : decode cX8_nextToken 66 = .ok (.putfield 219, 3) := by decide +kernel
theorem dX8_nextToken_69 : decode cX8_nextToken 69 = .ok (.goto (-35), 3) := by decide +kernel
theorem dX8_nextToken_72 : decode cX8_nextToken 72 = .ok (.iload_n 1, 1) := by decide +kernel
theorem dX8_nextToken_73 : decode cX8_nextToken 73 = .ok (.ifCond .eq 15, 3) := by decide +kernel
theorem dX8_nextToken_76 : decode cX8_nextToken 76 = .ok (.iload_n 2, 1) := by decide +kernel
theorem dX8_nextToken_77 : decode cX8_nextToken 77 = .ok (.aload_n 0, 1) := by decide +kernel
theorem dX8_nextToken_78 : decode cX8_nextToken 78 = .ok (.getfield 219, 3) := by decide +kernel
theorem dX8_nextToken_81 : decode cX8_nextToken 81 = .ok (.if_icmp .ne 7, 3) := by decide +kernel
theorem dX8_nextToken_84 : decode cX8_nextToken 84 = .ok (.iconst 1, 1) := by decide +kernel
theorem dX8_nextToken_85 : decode cX8_nextToken 85 = .ok (.goto 4, 3) := by decide +kernel
theorem dX8_nextToken_88 : decode cX8_nextToken 88 = .ok (.iconst 0, 1) := by decide +kernel
theorem dX8_nextToken_89 : decode cX8_nextToken 89 = .ok (.istore_n 1, 1) := by decide +kernel
theorem dX8_nextToken_90 : decode cX8_nextToken 90 = .ok (.aload_n 0, 1) := by decide +kernel
theorem dX8_nextToken_91 : decode cX8_nextToken 91 = .ok (.aload_n 0, 1) := by decide +kernel
theorem dX8_nextToken_92 : decode cX8_nextToken 92 = .ok (.getfield 219, 3) := by decide +kernel
theorem dX8_nextToken_95 : decode cX8_nextToken 95 = .ok (.putfield 225, 3) := by decide +kernel
theorem dX8_nextToken_98 : decode cX8_nextToken 98 = .ok (.aload_n 0, 1) := by decide +kernel
theorem dX8_nextToken_99 : decode cX8_nextToken 99 = .ok (.getfield 225, 3) := by decide +kernel
theorem dX8_nextToken_102 : decode cX8_nextToken 102 = .ok (.aload_n 0, 1) := by decide +kernel
theorem dX8_nextToken_103 : decode cX8_nextToken 103 = .ok (.getfield 207, 3) := by decide +kernel
theorem dX8_nextToken_106 : decode cX8_nextToken 106 = .ok (.if_icmp .ne 11, 3) := by decide +kernel
theorem dX8_nextToken_109 : decode cX8_nextToken 109 = .ok (.aload_n 0, 1) := by decide +kernel
theorem dX8_nextToken_110 : decode cX8_nextToken 110 = .ok (.iconst 0, 1) := by decide +kernel
theorem dX8_nextToken_111 : decode cX8_nextToken 111 = .ok (.putfield 222, 3) := by decide +kernel
theorem dX8_nextToken_114 : decode cX8_nextToken 114 = .ok (.goto 225, 3) := by decide +kernel
theorem dX8_nextToken_117 : decode cX8_nextToken 117 = .ok (.aload_n 0, 1) := by decide +kernel
theorem dX8_nextToken_118 : decode cX8_nextToken 118 = .ok (.aload_n 0, 1) := by decide +kernel
theorem dX8_nextToken_119 : decode cX8_nextToken 119 = .ok (.getfield 225, 3) := by decide +kernel
theorem dX8_nextToken_122 : decode cX8_nextToken 122 = .ok (.invokevirtual 228, 3) := by decide +kernel
theorem dX8_nextToken_125 : decode cX8_nextToken 125 = .ok (.ifCond .eq 73, 3) := by decide +kernel
theorem dX8_nextToken_128 : decode cX8_nextToken 128 = .ok (.aload_n 0, 1) := by decide +kernel
theorem dX8_nextToken_129 : decode cX8_nextToken 129 = .ok (.aload_n 0, 1) := by decide +kernel
theorem dX8_nextToken_130 : decode cX8_nextToken 130 = .ok (.getfield 219, 3) := by decide +kernel
theorem dX8_nextToken_133 : decode cX8_nextToken 133 = .ok (.invokevirtual 228, 3) := by decide +kernel
theorem dX8_nextToken_136 : decode cX8_nextToken 136 = .ok (.ifCond .eq 16, 3) := by decide +kernel
theorem dX8_nextToken_139 : decode cX8_nextToken 139 = .ok (.aload_n 0, 1) := by decide +kernel
theorem dX8_nextToken_140 : decode cX8_nextToken 140 = .ok (.dup, 1) := by decide +kernel
theorem dX8_nextToken_141 : decode cX8_nextToken 141 = .ok (.getfield 219, 3) := by decide +kernel
theorem dX8_nextToken_144 : decode cX8_nextToken 144 = .ok (.iconst 1, 1) := by decide +kernel
theorem dX8_nextToken_145 : decode cX8_nextToken 145 = .ok (.iadd, 1) := by decide +kernel
theorem dX8_nextToken_146 : decode cX8_nextToken 146 = .ok (.putfield 219, 3) := by decide +kernel
theorem dX8_nextToken_149 : decode cX8_nextToken 149 = .ok (.goto (-21), 3) := by decide +kernel
theorem dX8_nextToken_152 : decode cX8_nextToken 152 = .ok (.aload_n 0, 1) := by decide +kernel
theorem dX8_nextToken_153 : decode cX8_nextToken 153 = .ok (.iload_n 1, 1) := by decide +kernel
theorem dX8_nextToken_154 : decode cX8_nextToken 154 = .ok (.ifCond .eq 7, 3) := by decide +kernel
theorem dX8_nextToken_157 : decode cX8_nextToken 157 = .ok (.iconst 4, 1) := by decide +kernel
theorem dX8_nextToken_158 : decode cX8_nextToken 158 = .ok (.goto 4, 3) := by decide +kernel
theorem dX8_nextToken_161 : decode cX8_nextToken 161 = .ok (.iconst 1, 1) := by decide +kernel
theorem dX8_nextToken_162 : decode cX8_nextToken 162 = .ok (.putfield 222, 3) := by decide +kernel
theorem dX8_nextToken_165 : decode cX8_nextToken 165 = .ok (.aload_n 0, 1) := by decide +kernel
theorem dX8_nextToken_166 : decode cX8_nextToken 166 = .ok (.aload_n 0, 1) := by decide +kernel
theorem dX8_nextToken_167 : decode cX8_nextToken 167 = .ok (.getfield 219, 3) := by decide +kernel
theorem dX8_nextToken_170 : decode cX8_nextToken 170 = .ok (.aload_n 0, 1) := by decide +kernel
theorem dX8_nextToken_171 : decode cX8_nextToken 171 = .ok (.getfield 225, 3) := by decide +kernel
theorem dX8_nextToken_174 : decode cX8_nextToken 174 = .ok (.isub, 1) := by decide +kernel
theorem dX8_nextToken_175 : decode cX8_nextToken 175 = .ok (.iconst 1, 1) := by decide +kernel
theorem dX8_nextToken_176 : decode cX8_nextToken 176 = .ok (.if_icmp .ne 15, 3) := by decide +kernel
theorem dX8_nextToken_179 : decode cX8_nextToken 179 = .ok (.aload_n 0, 1) := by decide +kernel
theorem dX8_nextToken_180 : decode cX8_nextToken 180 = .ok (.getfield 46, 3) := by decide +kernel
theorem dX8_nextToken_183 : decode cX8_nextToken 183 = .ok (.aload_n 0, 1) := by decide +kernel
theorem dX8_nextToken_184 : decode cX8_nextToken 184 = .ok (.getfield 225, 3) := by decide +kernel
theorem dX8_nextToken_187 : decode cX8_nextToken 187 = .ok (.iaload, 1) := by decide +kernel
theorem dX8_nextToken_188 : decode cX8_nextToken 188 = .ok (.goto 4, 3) := by decide +kernel
theorem dX8_nextToken_191 : decode cX8_nextToken 191 = .ok (.iconst 0, 1) := by decide +kernel
theorem dX8_nextToken_192 : decode cX8_nextToken 192 = .ok (.putfield 231, 3) := by decide +kernel
theorem dX8_nextToken_195 : decode cX8_nextToken 195 = .ok (.goto 144, 3) := by decide +kernel
theorem dX8_nextToken_198 : decode cX8_nextToken 198 = .ok (.aload_n 0, 1) := by decide +kernel
theorem dX8_nextToken_199 : decode cX8_nextToken 199 = .ok (.aload_n 0, 1) := by decide +kernel
theorem dX8_nextToken_200 : decode cX8_nextToken 200 = .ok (.getfield 225, 3) := by decide +kernel
theorem dX8_nextToken_203 : decode cX8_nextToken 203 = .ok (.invokevirtual 234, 3) := by decide +kernel
theorem dX8_nextToken_206 : decode cX8_nextToken 206 = .ok (.ifCond .eq 105, 3) := by decide +kernel
theorem dX8_nextToken_209 : decode cX8_nextToken 209 = .ok (.aload_n 0, 1) := by decide +kernel
theorem dX8_nextToken_210 : decode cX8_nextToken 210 = .ok (.iconst 0, 1) := by decide +kernel
theorem dX8_nextToken_211 : decode cX8_nextToken 211 = .ok (.putfield 237, 3) := by decide +kernel
theorem dX8_nextToken_214 : decode cX8_nextToken 214 = .ok (.aload_n 0, 1) := by decide +kernel
theorem dX8_nextToken_215 : decode cX8_nextToken 215 = .ok (.aload_n 0, 1) := by decide +kernel
theorem dX8_nextToken_216 : decode cX8_nextToken 216 = .ok (.getfield 219, 3) := by decide +kernel
theorem dX8_nextToken_219 : decode cX8_nextToken 219 = .ok (.invokevirtual 234, 3) := by decide +kernel
theorem dX8_nextToken_222 : decode cX8_nextToken 222 = .ok (.ifCond .eq 60, 3) := by decide +kernel
theorem dX8_nextToken_225 : decode cX8_nextToken 225 = .ok (.aload_n 0, 1) := by decide +kernel
theorem dX8_nextToken_226 : decode cX8_nextToken 226 = .ok (.aload_n 0, 1) := by decide +kernel
theorem dX8_nextToken_227 : decode cX8_nextToken 227 = .ok (.getfield 219, 3) := by decide +kernel
theorem dX8_nextToken_230 : decode cX8_nextToken 230 = .ok (.aload_n 0, 1) := by decide +kernel
theorem dX8_nextToken_231 : decode cX8_nextToken 231 = .ok (.getfield 225, 3) := by decide +kernel
theorem dX8_nextToken_234 : decode cX8_nextToken 234 = .ok (.isub, 1) := by decide +kernel
theorem dX8_nextToken_235 : decode cX8_nextToken 235 = .ok (.iconst 4, 1) := by decide +kernel
theorem dX8_nextToken_236 : decode cX8_nextToken 236 = .ok (.if_icmp .ge 26, 3) := by decide +kernel
theorem dX8_nextToken_239 : decode cX8_nextToken 239 = .ok (.bipush 10, 2) := by decide +kernel
theorem dX8_nextToken_241 : decode cX8_nextToken 241 = .ok (.aload_n 0, 1) := by decide +kernel
theorem dX8_nextToken_242 : decode cX8_nextToken 242 = .ok (.getfield 237, 3) := by decide +kernel
theorem dX8_nextToken_245 : decode cX8_nextToken 245 = .ok (.imul, 1) := by decide +kernel
theorem dX8_nextToken_246 : decode cX8_nextToken 246 = .ok (.aload_n 0, 1) := by decide +kernel
theorem dX8_nextToken_247 : decode cX8_nextToken 247 = .ok (.getfield 46, 3) := by decide +kernel
theorem dX8_nextToken_250 : decode cX8_nextToken 250 = .ok (.aload_n 0, 1) := by decide +kernel
theorem dX8_nextToken_251 : decode cX8_nextToken 251 = .ok (.getfield 219, 3) := by decide +kernel
theorem dX8_nextToken_254 : decode cX8_nextToken 254 = .ok (.iaload, 1) := by decide +kernel
theorem dX8_nextToken_255 : decode cX8_nextToken 255 = .ok (.iadd, 1) := by decide +kernel
theorem dX8_nextToken_256 : decode cX8_nextToken 256 = .ok (.bipush 48, 2) := by decide +kernel
theorem dX8_nextToken_258 : decode cX8_nextToken 258 = .ok (.isub, 1) := by decide +kernel
theorem dX8_nextToken_259 : decode cX8_nextToken 259 = .ok (.goto 7, 3) := by decide +kernel
theorem dX8_nextToken_262 : decode cX8_nextToken 262 = .ok (.aload_n 0, 1) := by decide +kernel
theorem dX8_nextToken_263 : decode cX8_nextToken 263 = .ok (.getfield 237, 3) := by decide +kernel
theorem dX8_nextToken_266 : decode cX8_nextToken 266 = .ok (.putfield 237, 3) := by decide +kernel
theorem dX8_nextToken_269 : decode cX8_nextToken 269 = .ok (.aload_n 0, 1) := by decide +kernel
theorem dX8_nextToken_270 : decode cX8_nextToken 270 = .ok (.dup, 1) := by decide +kernel
theorem dX8_nextToken_271 : decode cX8_nextToken 271 = .ok (.getfield 219, 3) := by decide +kernel
theorem dX8_nextToken_274 : decode cX8_nextToken 274 = .ok (.iconst 1, 1) := by decide +kernel
theorem dX8_nextToken_275 : decode cX8_nextToken 275 = .ok (.iadd, 1) := by decide +kernel
theorem dX8_nextToken_276 : decode cX8_nextToken 276 = .ok (.putfield 219, 3) := by decide +kernel
theorem dX8_nextToken_279 : decode cX8_nextToken 279 = .ok (.goto (-65), 3) := by decide +kernel
theorem dX8_nextToken_282 : decode cX8_nextToken 282 = .ok (.aload_n 0, 1) := by decide +kernel
theorem dX8_nextToken_283 : decode cX8_nextToken 283 = .ok (.iload_n 1, 1) := by decide +kernel
theorem dX8_nextToken_284 : decode cX8_nextToken 284 = .ok (.ifCond .ne 16, 3) := by decide +kernel
theorem dX8_nextToken_287 : decode cX8_nextToken 287 = .ok (.aload_n 0, 1) := by decide +kernel
theorem dX8_nextToken_288 : decode cX8_nextToken 288 = .ok (.getfield 219, 3) := by decide +kernel
theorem dX8_nextToken_291 : decode cX8_nextToken 291 = .ok (.aload_n 0, 1) := by decide +kernel
theorem dX8_nextToken_292 : decode cX8_nextToken 292 = .ok (.getfield 225, 3) := by decide +kernel
theorem dX8_nextToken_295 : decode cX8_nextToken 295 = .ok (.isub, 1) := by decide +kernel
theorem dX8_nextToken_296 : decode cX8_nextToken 296 = .ok (.iconst 4, 1) := by decide +kernel
theorem dX8_nextToken_297 : decode cX8_nextToken 297 = .ok (.if_icmp .le 7, 3) := by decide +kernel
theorem dX8_nextToken_300 : decode cX8_nextToken 300 = .ok (.iconst 4, 1) := by decide +kernel
theorem dX8_nextToken_301 : decode cX8_nextToken 301 = .ok (.goto 4, 3) := by decide +kernel
theorem dX8_nextToken_304 : decode cX8_nextToken 304 = .ok (.iconst 2, 1) := by decide +kernel
theorem dX8_nextToken_305 : decode cX8_nextToken 305 = .ok (.putfield 222, 3) := by decide +kernel
theorem dX8_nextToken_308 : decode cX8_nextToken 308 = .ok (.goto 31, 3) := by decide +kernel
theorem dX8_nextToken_311 : decode cX8_nextToken 311 = .ok (.aload_n 0, 1) := by decide +kernel
theorem dX8_nextToken_312 : decode cX8_nextToken 312 = .ok (.iconst 3, 1) := by decide +kernel
theorem dX8_nextToken_313 : decode cX8_nextToken 313 = .ok (.putfield 222, 3) := by decide +kernel
theorem dX8_nextToken_316 : decode cX8_nextToken 316 = .ok (.aload_n 0, 1) := by decide +kernel
theorem dX8_nextToken_317 : decode cX8_nextToken 317 = .ok (.aload_n 0, 1) := by decide +kernel
theorem dX8_nextToken_318 : decode cX8_nextToken 318 = .ok (.getfield 46, 3) := by decide +kernel
theorem dX8_nextToken_321 : decode cX8_nextToken 321 = .ok (.aload_n 0, 1) := by decide +kernel
theorem dX8_nextToken_322 : decode cX8_nextToken 322 = .ok (.getfield 225, 3) := by decide +kernel
theorem dX8_nextToken_325 : decode cX8_nextToken 325 = .ok (.iaload, 1) := by decide +kernel
theorem dX8_nextToken_326 : decode cX8_nextToken 326 = .ok (.putfield 231, 3) := by decide +kernel
theorem dX8_nextToken_329 : decode cX8_nextToken 329 = .ok (.aload_n 0, 1) := by decide +kernel
theorem dX8_nextToken_330 : decode cX8_nextToken 330 = .ok (.dup, 1) := by decide +kernel
theorem dX8_nextToken_331 : decode cX8_nextToken 331 = .ok (.getfield 219, 3) := by decide +kernel
theorem dX8_nextToken_334 : decode cX8_nextToken 334 = .ok (.iconst 1, 1) := by decide +kernel
theorem dX8_nextToken_335 : decode cX8_nextToken 335 = .ok (.iadd, 1) := by decide +kernel
theorem dX8_nextToken_336 : decode cX8_nextToken 336 = .ok (.putfield 219, 3) := by decide +kernel
theorem dX8_nextToken_339 : decode cX8_nextToken 339 = .ok (.return_, 1) := by decide +kernel
theorem dX8_isSign_0 : decode cX8_isSign 0 = .ok (.aload_n 0, 1) := by decide +kernel
theorem dX8_isSign_1 : decode cX8_isSign 1 = .ok (.getfield 222, 3) := by decide +kernel
theorem dX8_isSign_4 : decode cX8_isSign 4 = .ok (.iconst 3, 1) := by decide +kernel
theorem dX8_isSign_5 : decode cX8_isSign 5 = .ok (.if_icmp .ne 15, 3) := by decide +kernel
theorem dX8_isSign_8 : decode cX8_isSign 8 = .ok (.aload_n 0, 1) := by decide +kernel
theorem dX8_isSign_9 : decode cX8_isSign 9 = .ok (.getfield 231, 3) := by decide +kernel
theorem dX8_isSign_12 : decode cX8_isSign 12 = .ok (.iload_n 1, 1) := by decide +kernel
theorem dX8_isSign_13 : decode cX8_isSign 13 = .ok (.if_icmp .ne 7, 3) := by decide +kernel
theorem dX8_isSign_16 : decode cX8_isSign 16 = .ok (.iconst 1, 1) := by decide +kernel
theorem dX8_isSign_17 : decode cX8_isSign 17 = .ok (.goto 4, 3) := by decide +kernel
theorem dX8_isSign_20 : decode cX8_isSign 20 = .ok (.iconst 0, 1) := by decide +kernel
theorem dX8_isSign_21 : decode cX8_isSign 21 = .ok (.ireturn, 1) := by decide +kernel
theorem dX8_isWordAt_0 : decode cX8_isWordAt 0 = .ok (.iload 4, 2) := by decide +kernel
theorem dX8_isWordAt_2 : decode cX8_isWordAt 2 = .ok (.ifCond .ne 7, 3) := by decide +kernel
theorem dX8_isWordAt_5 : decode cX8_isWordAt 5 = .ok (.iconst 3, 1) := by decide +kernel
theorem dX8_isWordAt_6 : decode cX8_isWordAt 6 = .ok (.goto 4, 3) := by decide +kernel
theorem dX8_isWordAt_9 : decode cX8_isWordAt 9 = .ok (.iconst 4, 1) := by decide +kernel
theorem dX8_isWordAt_10 : decode cX8_isWordAt 10 = .ok (.istore 5, 2) := by decide +kernel
theorem dX8_isWordAt_12 : decode cX8_isWordAt 12 = .ok (.aload_n 0, 1) := by decide +kernel
theorem dX8_isWordAt_13 : decode cX8_isWordAt 13 = .ok (.getfield 222, 3) := by decide +kernel
theorem dX8_isWordAt_16 : decode cX8_isWordAt 16 = .ok (.iconst 1, 1) := by decide +kernel
theorem dX8_isWordAt_17 : decode cX8_isWordAt 17 = .ok (.if_icmp .ne 85, 3) := by decide +kernel
theorem dX8_isWordAt_20 : decode cX8_isWordAt 20 = .ok (.aload_n 0, 1) := by decide +kernel
theorem dX8_isWordAt_21 : decode cX8_isWordAt 21 = .ok (.getfield 219, 3) := by decide +kernel
theorem dX8_isWordAt_24 : decode cX8_isWordAt 24 = .ok (.aload_n 0, 1) := by decide +kernel
theorem dX8_isWordAt_25 : decode cX8_isWordAt 25 = .ok (.getfield 225, 3) := by decide +kernel
theorem dX8_isWordAt_28 : decode cX8_isWordAt 28 = .ok (.isub, 1) := by decide +kernel
theorem dX8_isWordAt_29 : decode cX8_isWordAt 29 = .ok (.iload 5, 2) := by decide +kernel
theorem dX8_isWordAt_31 : decode cX8_isWordAt 31 = .ok (.if_icmp .ne 71, 3) := by decide +kernel
theorem dX8_isWordAt_34 : decode cX8_isWordAt 34 = .ok (.aload_n 0, 1) := by decide +kernel
theorem dX8_isWordAt_35 : decode cX8_isWordAt 35 = .ok (.getfield 46, 3) := by decide +kernel
theorem dX8_isWordAt_38 : decode cX8_isWordAt 38 = .ok (.aload_n 0, 1) := by decide +kernel
theorem dX8_isWordAt_39 : decode cX8_isWordAt 39 = .ok (.getfield 225, 3) := by decide +kernel
theorem dX8_isWordAt_42 : decode cX8_isWordAt 42 = .ok (.iaload, 1) := by decide +kernel
theorem dX8_isWordAt_43 : decode cX8_isWordAt 43 = .ok (.iload_n 1, 1) := by decide +kernel
theorem dX8_isWordAt_44 : decode cX8_isWordAt 44 = .ok (.if_icmp .ne 58, 3) := by decide +kernel
theorem dX8_isWordAt_47 : decode cX8_isWordAt 47 = .ok (.aload_n 0, 1) := by decide +kernel
theorem dX8_isWordAt_48 : decode cX8_isWordAt 48 = .ok (.getfield 46, 3) := by decide +kernel
theorem dX8_isWordAt_51 : decode cX8_isWordAt 51 = .ok (.aload_n 0, 1) := by decide +kernel
theorem dX8_isWordAt_52 : decode cX8_isWordAt 52 = .ok (.getfield 225, 3) := by decide +kernel
theorem dX8_isWordAt_55 : decode cX8_isWordAt 55 = .ok (.iconst 1, 1) := by decide +kernel
theorem dX8_isWordAt_56 : decode cX8_isWordAt 56 = .ok (.iadd, 1) := by decide +kernel
theorem dX8_isWordAt_57 : decode cX8_isWordAt 57 = .ok (.iaload, 1) := by decide +kernel
theorem dX8_isWordAt_58 : decode cX8_isWordAt 58 = .ok (.iload_n 2, 1) := by decide +kernel
theorem dX8_isWordAt_59 : decode cX8_isWordAt 59 = .ok (.if_icmp .ne 43, 3) := by decide +kernel
theorem dX8_isWordAt_62 : decode cX8_isWordAt 62 = .ok (.aload_n 0, 1) := by decide +kernel
theorem dX8_isWordAt_63 : decode cX8_isWordAt 63 = .ok (.getfield 46, 3) := by decide +kernel
theorem dX8_isWordAt_66 : decode cX8_isWordAt 66 = .ok (.aload_n 0, 1) := by decide +kernel
theorem dX8_isWordAt_67 : decode cX8_isWordAt 67 = .ok (.getfield 225, 3) := by decide +kernel
theorem dX8_isWordAt_70 : decode cX8_isWordAt 70 = .ok (.iconst 2, 1) := by decide +kernel
theorem dX8_isWordAt_71 : decode cX8_isWordAt 71 = .ok (.iadd, 1) := by decide +kernel
theorem dX8_isWordAt_72 : decode cX8_isWordAt 72 = .ok (.iaload, 1) := by decide +kernel
theorem dX8_isWordAt_73 : decode cX8_isWordAt 73 = .ok (.iload_n 3, 1) := by decide +kernel
theorem dX8_isWordAt_74 : decode cX8_isWordAt 74 = .ok (.if_icmp .ne 28, 3) := by decide +kernel
theorem dX8_isWordAt_77 : decode cX8_isWordAt 77 = .ok (.iload 4, 2) := by decide +kernel
theorem dX8_isWordAt_79 : decode cX8_isWordAt 79 = .ok (.ifCond .eq 19, 3) := by decide +kernel
theorem dX8_isWordAt_82 : decode cX8_isWordAt 82 = .ok (.aload_n 0, 1) := by decide +kernel
theorem dX8_isWordAt_83 : decode cX8_isWordAt 83 = .ok (.getfield 46, 3) := by decide +kernel
theorem dX8_isWordAt_86 : decode cX8_isWordAt 86 = .ok (.aload_n 0, 1) := by decide +kernel
theorem dX8_isWordAt_87 : decode cX8_isWordAt 87 = .ok (.getfield 225, 3) := by decide +kernel
theorem dX8_isWordAt_90 : decode cX8_isWordAt 90 = .ok (.iconst 3, 1) := by decide +kernel
theorem dX8_isWordAt_91 : decode cX8_isWordAt 91 = .ok (.iadd, 1) := by decide +kernel
theorem dX8_isWordAt_92 : decode cX8_isWordAt 92 = .ok (.iaload, 1) := by decide +kernel
theorem dX8_isWordAt_93 : decode cX8_isWordAt 93 = .ok (.iload 4, 2) := by decide +kernel
theorem dX8_isWordAt_95 : decode cX8_isWordAt 95 = .ok (.if_icmp .ne 7, 3) := by decide +kernel
theorem dX8_isWordAt_98 : decode cX8_isWordAt 98 = .ok (.iconst 1, 1) := by decide +kernel
theorem dX8_isWordAt_99 : decode cX8_isWordAt 99 = .ok (.goto 4, 3) := by decide +kernel
theorem dX8_isWordAt_102 : decode cX8_isWordAt 102 = .ok (.iconst 0, 1) := by decide +kernel
theorem dX8_isWordAt_103 : decode cX8_isWordAt 103 = .ok (.ireturn, 1) := by decide +kernel
theorem dX8_key_0 : decode cX8_key 0 = .ok (.aload_n 0, 1) := by decide +kernel
theorem dX8_key_1 : decode cX8_key 1 = .ok (.bipush 108, 2) := by decide +kernel
theorem dX8_key_3 : decode cX8_key 3 = .ok (.bipush 111, 2) := by decide +kernel
theorem dX8_key_5 : decode cX8_key 5 = .ok (.bipush 111, 2) := by decide +kernel
theorem dX8_key_7 : decode cX8_key 7 = .ok (.bipush 107, 2) := by decide +kernel
theorem dX8_key_9 : decode cX8_key 9 = .ok (.invokevirtual 240, 3) := by decide +kernel
theorem dX8_key_12 : decode cX8_key 12 = .ok (.ifCond .eq 5, 3) := by decide +kernel
theorem dX8_key_15 : decode cX8_key 15 = .ok (.iconst 0, 1) := by decide +kernel
theorem dX8_key_16 : decode cX8_key 16 = .ok (.ireturn, 1) := by decide +kernel
theorem dX8_key_17 : decode cX8_key 17 = .ok (.aload_n 0, 1) := by decide +kernel
theorem dX8_key_18 : decode cX8_key 18 = .ok (.bipush 102, 2) := by decide +kernel
theorem dX8_key_20 : decode cX8_key 20 = .ok (.bipush 101, 2) := by decide +kernel
theorem dX8_key_22 : decode cX8_key 22 = .ok (.bipush 101, 2) := by decide +kernel
theorem dX8_key_24 : decode cX8_key 24 = .ok (.iconst 0, 1) := by decide +kernel
theorem dX8_key_25 : decode cX8_key 25 = .ok (.invokevirtual 240, 3) := by decide +kernel
theorem dX8_key_28 : decode cX8_key 28 = .ok (.ifCond .eq 5, 3) := by decide +kernel
theorem dX8_key_31 : decode cX8_key 31 = .ok (.iconst 1, 1) := by decide +kernel
theorem dX8_key_32 : decode cX8_key 32 = .ok (.ireturn, 1) := by decide +kernel
theorem dX8_key_33 : decode cX8_key 33 = .ok (.aload_n 0, 1) := by decide +kernel
theorem dX8_key_34 : decode cX8_key 34 = .ok (.bipush 102, 2) := by decide +kernel
theorem dX8_key_36 : decode cX8_key 36 = .ok (.bipush 105, 2) := by decide +kernel
theorem dX8_key_38 : decode cX8_key 38 = .ok (.bipush 110, 2) := by decide +kernel
theorem dX8_key_40 : decode cX8_key 40 = .ok (.bipush 101, 2) := by decide +kernel
theorem dX8_key_42 : decode cX8_key 42 = .ok (.invokevirtual 240, 3) := by decide +kernel
theorem dX8_key_45 : decode cX8_key 45 = .ok (.ifCond .eq 7, 3) := by decide +kernel
theorem dX8_key_48 : decode cX8_key 48 = .ok (.iconst 2, 1) := by decide +kernel
theorem dX8_key_49 : decode cX8_key 49 = .ok (.goto 4, 3) := by decide +kernel
theorem dX8_key_52 : decode cX8_key 52 = .ok (.iconst (-1), 1) := by decide +kernel
theorem dX8_key_53 : decode cX8_key 53 = .ok (.ireturn, 1) := by decide +kernel
theorem dX8_isName_0 : decode cX8_isName 0 = .ok (.iload_n 0, 1) := by decide +kernel
theorem dX8_isName_1 : decode cX8_isName 1 = .ok (.lookupswitch 69 #[(0, 27), (1, 51)], 27) := by decide +kernel
theorem dX8_isName_28 : decode cX8_isName 28 = .ok (.iload_n 1, 1) := by decide +kernel
theorem dX8_isName_29 : decode cX8_isName 29 = .ok (.bipush 119, 2) := by decide +kernel
theorem dX8_isName_31 : decode cX8_isName 31 = .ok (.if_icmp .eq 15, 3) := by decide +kernel
theorem dX8_isName_34 : decode cX8_isName 34 = .ok (.iload_n 1, 1) := by decide +kernel
theorem dX8_isName_35 : decode cX8_isName 35 = .ok (.bipush 100, 2) := by decide +kernel
theorem dX8_isName_37 : decode cX8_isName 37 = .ok (.if_icmp .eq 9, 3) := by decide +kernel
theorem dX8_isName_40 : decode cX8_isName 40 = .ok (.iload_n 1, 1) := by decide +kernel
theorem dX8_isName_41 : decode cX8_isName 41 = .ok (.bipush 112, 2) := by decide +kernel
theorem dX8_isName_43 : decode cX8_isName 43 = .ok (.if_icmp .ne 7, 3) := by decide +kernel
theorem dX8_isName_46 : decode cX8_isName 46 = .ok (.iconst 1, 1) := by decide +kernel
theorem dX8_isName_47 : decode cX8_isName 47 = .ok (.goto 4, 3) := by decide +kernel
theorem dX8_isName_50 : decode cX8_isName 50 = .ok (.iconst 0, 1) := by decide +kernel
theorem dX8_isName_51 : decode cX8_isName 51 = .ok (.ireturn, 1) := by decide +kernel
theorem dX8_isName_52 : decode cX8_isName 52 = .ok (.iload_n 1, 1) := by decide +kernel
theorem dX8_isName_53 : decode cX8_isName 53 = .ok (.bipush 104, 2) := by decide +kernel
theorem dX8_isName_55 : decode cX8_isName 55 = .ok (.if_icmp .eq 9, 3) := by decide +kernel
theorem dX8_isName_58 : decode cX8_isName 58 = .ok (.iload_n 1, 1) := by decide +kernel
theorem dX8_isName_59 : decode cX8_isName 59 = .ok (.bipush 108, 2) := by decide +kernel
theorem dX8_isName_61 : decode cX8_isName 61 = .ok (.if_icmp .ne 7, 3) := by decide +kernel
theorem dX8_isName_64 : decode cX8_isName 64 = .ok (.iconst 1, 1) := by decide +kernel
theorem dX8_isName_65 : decode cX8_isName 65 = .ok (.goto 4, 3) := by decide +kernel
theorem dX8_isName_68 : decode cX8_isName 68 = .ok (.iconst 0, 1) := by decide +kernel
theorem dX8_isName_69 : decode cX8_isName 69 = .ok (.ireturn, 1) := by decide +kernel
theorem dX8_isName_70 : decode cX8_isName 70 = .ok (.iload_n 1, 1) := by decide +kernel
theorem dX8_isName_71 : decode cX8_isName 71 = .ok (.bipush 119, 2) := by decide +kernel
theorem dX8_isName_73 : decode cX8_isName 73 = .ok (.if_icmp .eq 9, 3) := by decide +kernel
theorem dX8_isName_76 : decode cX8_isName 76 = .ok (.iload_n 1, 1) := by decide +kernel
theorem dX8_isName_77 : decode cX8_isName 77 = .ok (.bipush 100, 2) := by decide +kernel
theorem dX8_isName_79 : decode cX8_isName 79 = .ok (.if_icmp .ne 7, 3) := by decide +kernel
theorem dX8_isName_82 : decode cX8_isName 82 = .ok (.iconst 1, 1) := by decide +kernel
theorem dX8_isName_83 : decode cX8_isName 83 = .ok (.goto 4, 3) := by decide +kernel
theorem dX8_isName_86 : decode cX8_isName 86 = .ok (.iconst 0, 1) := by decide +kernel
theorem dX8_isName_87 : decode cX8_isName 87 = .ok (.ireturn, 1) := by decide +kernel
theorem dX8_step_0 : decode cX8_step 0 = .ok (.aload_n 0, 1) := by decide +kernel
theorem dX8_step_1 : decode cX8_step 1 = .ok (.getfield 7, 3) := by decide +kernel
theorem dX8_step_4 : decode cX8_step 4 = .ok (.aload_n 0, 1) := by decide +kernel
theorem dX8_step_5 : decode cX8_step 5 = .ok (.getfield 244, 3) := by decide +kernel
theorem dX8_step_8 : decode cX8_step 8 = .ok (.iconst 2, 1) := by decide +kernel
theorem dX8_step_9 : decode cX8_step 9 = .ok (.aload_n 0, 1) := by decide +kernel
theorem dX8_step_10 : decode cX8_step 10 = .ok (.getfield 247, 3) := by decide +kernel
theorem dX8_step_13 : decode cX8_step 13 = .ok (.imul, 1) := by decide +kernel
theorem dX8_step_14 : decode cX8_step 14 = .ok (.iadd, 1) := by decide +kernel
theorem dX8_step_15 : decode cX8_step 15 = .ok (.iload_n 1, 1) := by decide +kernel
theorem dX8_step_16 : decode cX8_step 16 = .ok (.iastore, 1) := by decide +kernel
theorem dX8_step_17 : decode cX8_step 17 = .ok (.aload_n 0, 1) := by decide +kernel
theorem dX8_step_18 : decode cX8_step 18 = .ok (.getfield 7, 3) := by decide +kernel
theorem dX8_step_21 : decode cX8_step 21 = .ok (.aload_n 0, 1) := by decide +kernel
theorem dX8_step_22 : decode cX8_step 22 = .ok (.getfield 244, 3) := by decide +kernel
theorem dX8_step_25 : decode cX8_step 25 = .ok (.iconst 2, 1) := by decide +kernel
theorem dX8_step_26 : decode cX8_step 26 = .ok (.aload_n 0, 1) := by decide +kernel
theorem dX8_step_27 : decode cX8_step 27 = .ok (.getfield 247, 3) := by decide +kernel
theorem dX8_step_30 : decode cX8_step 30 = .ok (.imul, 1) := by decide +kernel
theorem dX8_step_31 : decode cX8_step 31 = .ok (.iadd, 1) := by decide +kernel
theorem dX8_step_32 : decode cX8_step 32 = .ok (.iconst 1, 1) := by decide +kernel
theorem dX8_step_33 : decode cX8_step 33 = .ok (.iadd, 1) := by decide +kernel
theorem dX8_step_34 : decode cX8_step 34 = .ok (.iload_n 2, 1) := by decide +kernel
theorem dX8_step_35 : decode cX8_step 35 = .ok (.iastore, 1) := by decide +kernel
theorem dX8_step_36 : decode cX8_step 36 = .ok (.aload_n 0, 1) := by decide +kernel
theorem dX8_step_37 : decode cX8_step 37 = .ok (.dup, 1) := by decide +kernel
theorem dX8_step_38 : decode cX8_step 38 = .ok (.getfield 247, 3) := by decide +kernel
theorem dX8_step_41 : decode cX8_step 41 = .ok (.iconst 1, 1) := by decide +kernel
theorem dX8_step_42 : decode cX8_step 42 = .ok (.iadd, 1) := by decide +kernel
theorem dX8_step_43 : decode cX8_step 43 = .ok (.putfield 247, 3) := by decide +kernel
theorem dX8_step_46 : decode cX8_step 46 = .ok (.return_, 1) := by decide +kernel
theorem dX8_either_0 : decode cX8_either 0 = .ok (.aload_n 0, 1) := by decide +kernel
theorem dX8_either_1 : decode cX8_either 1 = .ok (.iload_n 1, 1) := by decide +kernel
theorem dX8_either_2 : decode cX8_either 2 = .ok (.invokevirtual 250, 3) := by decide +kernel
theorem dX8_either_5 : decode cX8_either 5 = .ok (.ifCond .ne 5, 3) := by decide +kernel
theorem dX8_either_8 : decode cX8_either 8 = .ok (.iconst 0, 1) := by decide +kernel
theorem dX8_either_9 : decode cX8_either 9 = .ok (.ireturn, 1) := by decide +kernel
theorem dX8_either_10 : decode cX8_either 10 = .ok (.aload_n 0, 1) := by decide +kernel
theorem dX8_either_11 : decode cX8_either 11 = .ok (.bipush 124, 2) := by decide +kernel
theorem dX8_either_13 : decode cX8_either 13 = .ok (.invokevirtual 253, 3) := by decide +kernel
theorem dX8_either_16 : decode cX8_either 16 = .ok (.ifCond .eq 27, 3) := by decide +kernel
theorem dX8_either_19 : decode cX8_either 19 = .ok (.aload_n 0, 1) := by decide +kernel
theorem dX8_either_20 : decode cX8_either 20 = .ok (.invokevirtual 256, 3) := by decide +kernel
theorem dX8_either_23 : decode cX8_either 23 = .ok (.aload_n 0, 1) := by decide +kernel
theorem dX8_either_24 : decode cX8_either 24 = .ok (.iload_n 1, 1) := by decide +kernel
theorem dX8_either_25 : decode cX8_either 25 = .ok (.invokevirtual 250, 3) := by decide +kernel
theorem dX8_either_28 : decode cX8_either 28 = .ok (.ifCond .ne 5, 3) := by decide +kernel
theorem dX8_either_31 : decode cX8_either 31 = .ok (.iconst 0, 1) := by decide +kernel
theorem dX8_either_32 : decode cX8_either 32 = .ok (.ireturn, 1) := by decide +kernel
theorem dX8_either_33 : decode cX8_either 33 = .ok (.aload_n 0, 1) := by decide +kernel
theorem dX8_either_34 : decode cX8_either 34 = .ok (.iconst 2, 1) := by decide +kernel
theorem dX8_either_35 : decode cX8_either 35 = .ok (.bipush 124, 2) := by decide +kernel
theorem dX8_either_37 : decode cX8_either 37 = .ok (.invokevirtual 259, 3) := by decide +kernel
theorem dX8_either_40 : decode cX8_either 40 = .ok (.goto (-30), 3) := by decide +kernel
theorem dX8_either_43 : decode cX8_either 43 = .ok (.iconst 1, 1) := by decide +kernel
theorem dX8_either_44 : decode cX8_either 44 = .ok (.ireturn, 1) := by decide +kernel
theorem dX8_both_0 : decode cX8_both 0 = .ok (.aload_n 0, 1) := by decide +kernel
theorem dX8_both_1 : decode cX8_both 1 = .ok (.iload_n 1, 1) := by decide +kernel
theorem dX8_both_2 : decode cX8_both 2 = .ok (.invokevirtual 263, 3) := by decide +kernel
theorem dX8_both_5 : decode cX8_both 5 = .ok (.ifCond .ne 5, 3) := by decide +kernel
theorem dX8_both_8 : decode cX8_both 8 = .ok (.iconst 0, 1) := by decide +kernel
theorem dX8_both_9 : decode cX8_both 9 = .ok (.ireturn, 1) := by decide +kernel
theorem dX8_both_10 : decode cX8_both 10 = .ok (.aload_n 0, 1) := by decide +kernel
theorem dX8_both_11 : decode cX8_both 11 = .ok (.bipush 38, 2) := by decide +kernel
theorem dX8_both_13 : decode cX8_both 13 = .ok (.invokevirtual 253, 3) := by decide +kernel
theorem dX8_both_16 : decode cX8_both 16 = .ok (.ifCond .eq 27, 3) := by decide +kernel
theorem dX8_both_19 : decode cX8_both 19 = .ok (.aload_n 0, 1) := by decide +kernel
theorem dX8_both_20 : decode cX8_both 20 = .ok (.invokevirtual 256, 3) := by decide +kernel
theorem dX8_both_23 : decode cX8_both 23 = .ok (.aload_n 0, 1) := by decide +kernel
theorem dX8_both_24 : decode cX8_both 24 = .ok (.iload_n 1, 1) := by decide +kernel
theorem dX8_both_25 : decode cX8_both 25 = .ok (.invokevirtual 263, 3) := by decide +kernel
theorem dX8_both_28 : decode cX8_both 28 = .ok (.ifCond .ne 5, 3) := by decide +kernel
theorem dX8_both_31 : decode cX8_both 31 = .ok (.iconst 0, 1) := by decide +kernel
theorem dX8_both_32 : decode cX8_both 32 = .ok (.ireturn, 1) := by decide +kernel
theorem dX8_both_33 : decode cX8_both 33 = .ok (.aload_n 0, 1) := by decide +kernel
theorem dX8_both_34 : decode cX8_both 34 = .ok (.iconst 2, 1) := by decide +kernel
theorem dX8_both_35 : decode cX8_both 35 = .ok (.bipush 38, 2) := by decide +kernel
theorem dX8_both_37 : decode cX8_both 37 = .ok (.invokevirtual 259, 3) := by decide +kernel
theorem dX8_both_40 : decode cX8_both 40 = .ok (.goto (-30), 3) := by decide +kernel
theorem dX8_both_43 : decode cX8_both 43 = .ok (.iconst 1, 1) := by decide +kernel
theorem dX8_both_44 : decode cX8_both 44 = .ok (.ireturn, 1) := by decide +kernel
theorem dX8_test_0 : decode cX8_test 0 = .ok (.aload_n 0, 1) := by decide +kernel
theorem dX8_test_1 : decode cX8_test 1 = .ok (.iload_n 1, 1) := by decide +kernel
theorem dX8_test_2 : decode cX8_test 2 = .ok (.invokevirtual 266, 3) := by decide +kernel
theorem dX8_test_5 : decode cX8_test 5 = .ok (.ifCond .ne 5, 3) := by decide +kernel
theorem dX8_test_8 : decode cX8_test 8 = .ok (.iconst 0, 1) := by decide +kernel
theorem dX8_test_9 : decode cX8_test 9 = .ok (.ireturn, 1) := by decide +kernel
theorem dX8_test_10 : decode cX8_test 10 = .ok (.aload_n 0, 1) := by decide +kernel
theorem dX8_test_11 : decode cX8_test 11 = .ok (.bipush 60, 2) := by decide +kernel
theorem dX8_test_13 : decode cX8_test 13 = .ok (.invokevirtual 253, 3) := by decide +kernel
theorem dX8_test_16 : decode cX8_test 16 = .ok (.ifCond .ne 21, 3) := by decide +kernel
theorem dX8_test_19 : decode cX8_test 19 = .ok (.aload_n 0, 1) := by decide +kernel
theorem dX8_test_20 : decode cX8_test 20 = .ok (.bipush 61, 2) := by decide +kernel
theorem dX8_test_22 : decode cX8_test 22 = .ok (.invokevirtual 253, 3) := by decide +kernel
theorem dX8_test_25 : decode cX8_test 25 = .ok (.ifCond .ne 12, 3) := by decide +kernel
theorem dX8_test_28 : decode cX8_test 28 = .ok (.aload_n 0, 1) := by decide +kernel
theorem dX8_test_29 : decode cX8_test 29 = .ok (.bipush 62, 2) := by decide +kernel
theorem dX8_test_31 : decode cX8_test 31 = .ok (.invokevirtual 253, 3) := by decide +kernel
theorem dX8_test_34 : decode cX8_test 34 = .ok (.ifCond .eq 28, 3) := by decide +kernel
theorem dX8_test_37 : decode cX8_test 37 = .ok (.aload_n 0, 1) := by decide +kernel
theorem dX8_test_38 : decode cX8_test 38 = .ok (.getfield 231, 3) := by decide +kernel
theorem dX8_test_41 : decode cX8_test 41 = .ok (.istore_n 2, 1) := by decide +kernel
theorem dX8_test_42 : decode cX8_test 42 = .ok (.aload_n 0, 1) := by decide +kernel
theorem dX8_test_43 : decode cX8_test 43 = .ok (.invokevirtual 256, 3) := by decide +kernel
theorem dX8_test_46 : decode cX8_test 46 = .ok (.aload_n 0, 1) := by decide +kernel
theorem dX8_test_47 : decode cX8_test 47 = .ok (.iload_n 1, 1) := by decide +kernel
theorem dX8_test_48 : decode cX8_test 48 = .ok (.invokevirtual 266, 3) := by decide +kernel
theorem dX8_test_51 : decode cX8_test 51 = .ok (.ifCond .ne 5, 3) := by decide +kernel
theorem dX8_test_54 : decode cX8_test 54 = .ok (.iconst 0, 1) := by decide +kernel
theorem dX8_test_55 : decode cX8_test 55 = .ok (.ireturn, 1) := by decide +kernel
theorem dX8_test_56 : decode cX8_test 56 = .ok (.aload_n 0, 1) := by decide +kernel
theorem dX8_test_57 : decode cX8_test 57 = .ok (.iconst 2, 1) := by decide +kernel
theorem dX8_test_58 : decode cX8_test 58 = .ok (.iload_n 2, 1) := by decide +kernel
theorem dX8_test_59 : decode cX8_test 59 = .ok (.invokevirtual 259, 3) := by decide +kernel
theorem dX8_test_62 : decode cX8_test 62 = .ok (.iconst 1, 1) := by decide +kernel
theorem dX8_test_63 : decode cX8_test 63 = .ok (.ireturn, 1) := by decide +kernel
theorem dX8_sum_0 : decode cX8_sum 0 = .ok (.aload_n 0, 1) := by decide +kernel
theorem dX8_sum_1 : decode cX8_sum 1 = .ok (.iload_n 1, 1) := by decide +kernel
theorem dX8_sum_2 : decode cX8_sum 2 = .ok (.invokevirtual 269, 3) := by decide +kernel
theorem dX8_sum_5 : decode cX8_sum 5 = .ok (.ifCond .ne 5, 3) := by decide +kernel
theorem dX8_sum_8 : decode cX8_sum 8 = .ok (.iconst 0, 1) := by decide +kernel
theorem dX8_sum_9 : decode cX8_sum 9 = .ok (.ireturn, 1) := by decide +kernel
theorem dX8_sum_10 : decode cX8_sum 10 = .ok (.aload_n 0, 1) := by decide +kernel
theorem dX8_sum_11 : decode cX8_sum 11 = .ok (.bipush 43, 2) := by decide +kernel
theorem dX8_sum_13 : decode cX8_sum 13 = .ok (.invokevirtual 253, 3) := by decide +kernel
theorem dX8_sum_16 : decode cX8_sum 16 = .ok (.ifCond .ne 12, 3) := by decide +kernel
theorem dX8_sum_19 : decode cX8_sum 19 = .ok (.aload_n 0, 1) := by decide +kernel
theorem dX8_sum_20 : decode cX8_sum 20 = .ok (.bipush 45, 2) := by decide +kernel
theorem dX8_sum_22 : decode cX8_sum 22 = .ok (.invokevirtual 253, 3) := by decide +kernel
theorem dX8_sum_25 : decode cX8_sum 25 = .ok (.ifCond .eq 31, 3) := by decide +kernel
theorem dX8_sum_28 : decode cX8_sum 28 = .ok (.aload_n 0, 1) := by decide +kernel
theorem dX8_sum_29 : decode cX8_sum 29 = .ok (.getfield 231, 3) := by decide +kernel
theorem dX8_sum_32 : decode cX8_sum 32 = .ok (.istore_n 2, 1) := by decide +kernel
theorem dX8_sum_33 : decode cX8_sum 33 = .ok (.aload_n 0, 1) := by decide +kernel
theorem dX8_sum_34 : decode cX8_sum 34 = .ok (.invokevirtual 256, 3) := by decide +kernel
theorem dX8_sum_37 : decode cX8_sum 37 = .ok (.aload_n 0, 1) := by decide +kernel
theorem dX8_sum_38 : decode cX8_sum 38 = .ok (.iload_n 1, 1) := by decide +kernel
theorem dX8_sum_39 : decode cX8_sum 39 = .ok (.invokevirtual 269, 3) := by decide +kernel
theorem dX8_sum_42 : decode cX8_sum 42 = .ok (.ifCond .ne 5, 3) := by decide +kernel
theorem dX8_sum_45 : decode cX8_sum 45 = .ok (.iconst 0, 1) := by decide +kernel
theorem dX8_sum_46 : decode cX8_sum 46 = .ok (.ireturn, 1) := by decide +kernel
theorem dX8_sum_47 : decode cX8_sum 47 = .ok (.aload_n 0, 1) := by decide +kernel
theorem dX8_sum_48 : decode cX8_sum 48 = .ok (.iconst 2, 1) := by decide +kernel
theorem dX8_sum_49 : decode cX8_sum 49 = .ok (.iload_n 2, 1) := by decide +kernel
theorem dX8_sum_50 : decode cX8_sum 50 = .ok (.invokevirtual 259, 3) := by decide +kernel
theorem dX8_sum_53 : decode cX8_sum 53 = .ok (.goto (-43), 3) := by decide +kernel
theorem dX8_sum_56 : decode cX8_sum 56 = .ok (.iconst 1, 1) := by decide +kernel
theorem dX8_sum_57 : decode cX8_sum 57 = .ok (.ireturn, 1) := by decide +kernel
theorem dX8_term_0 : decode cX8_term 0 = .ok (.aload_n 0, 1) := by decide +kernel
theorem dX8_term_1 : decode cX8_term 1 = .ok (.iload_n 1, 1) := by decide +kernel
theorem dX8_term_2 : decode cX8_term 2 = .ok (.invokevirtual 272, 3) := by decide +kernel
theorem dX8_term_5 : decode cX8_term 5 = .ok (.ifCond .ne 5, 3) := by decide +kernel
theorem dX8_term_8 : decode cX8_term 8 = .ok (.iconst 0, 1) := by decide +kernel
theorem dX8_term_9 : decode cX8_term 9 = .ok (.ireturn, 1) := by decide +kernel
theorem dX8_term_10 : decode cX8_term 10 = .ok (.aload_n 0, 1) := by decide +kernel
theorem dX8_term_11 : decode cX8_term 11 = .ok (.bipush 42, 2) := by decide +kernel
theorem dX8_term_13 : decode cX8_term 13 = .ok (.invokevirtual 253, 3) := by decide +kernel
theorem dX8_term_16 : decode cX8_term 16 = .ok (.ifCond .ne 12, 3) := by decide +kernel
theorem dX8_term_19 : decode cX8_term 19 = .ok (.aload_n 0, 1) := by decide +kernel
theorem dX8_term_20 : decode cX8_term 20 = .ok (.bipush 47, 2) := by decide +kernel
theorem dX8_term_22 : decode cX8_term 22 = .ok (.invokevirtual 253, 3) := by decide +kernel
theorem dX8_term_25 : decode cX8_term 25 = .ok (.ifCond .eq 31, 3) := by decide +kernel
theorem dX8_term_28 : decode cX8_term 28 = .ok (.aload_n 0, 1) := by decide +kernel
theorem dX8_term_29 : decode cX8_term 29 = .ok (.getfield 231, 3) := by decide +kernel
theorem dX8_term_32 : decode cX8_term 32 = .ok (.istore_n 2, 1) := by decide +kernel
theorem dX8_term_33 : decode cX8_term 33 = .ok (.aload_n 0, 1) := by decide +kernel
theorem dX8_term_34 : decode cX8_term 34 = .ok (.invokevirtual 256, 3) := by decide +kernel
theorem dX8_term_37 : decode cX8_term 37 = .ok (.aload_n 0, 1) := by decide +kernel
theorem dX8_term_38 : decode cX8_term 38 = .ok (.iload_n 1, 1) := by decide +kernel
theorem dX8_term_39 : decode cX8_term 39 = .ok (.invokevirtual 272, 3) := by decide +kernel
theorem dX8_term_42 : decode cX8_term 42 = .ok (.ifCond .ne 5, 3) := by decide +kernel
theorem dX8_term_45 : decode cX8_term 45 = .ok (.iconst 0, 1) := by decide +kernel
theorem dX8_term_46 : decode cX8_term 46 = .ok (.ireturn, 1) := by decide +kernel
theorem dX8_term_47 : decode cX8_term 47 = .ok (.aload_n 0, 1) := by decide +kernel
theorem dX8_term_48 : decode cX8_term 48 = .ok (.iconst 2, 1) := by decide +kernel
theorem dX8_term_49 : decode cX8_term 49 = .ok (.iload_n 2, 1) := by decide +kernel
theorem dX8_term_50 : decode cX8_term 50 = .ok (.invokevirtual 259, 3) := by decide +kernel
theorem dX8_term_53 : decode cX8_term 53 = .ok (.goto (-43), 3) := by decide +kernel
theorem dX8_term_56 : decode cX8_term 56 = .ok (.iconst 1, 1) := by decide +kernel
theorem dX8_term_57 : decode cX8_term 57 = .ok (.ireturn, 1) := by decide +kernel
theorem dX8_part0_0 : decode cX8_part0 0 = .ok (.aload_n 0, 1) := by decide +kernel
theorem dX8_part0_1 : decode cX8_part0 1 = .ok (.getfield 222, 3) := by decide +kernel
theorem dX8_part0_4 : decode cX8_part0 4 = .ok (.iconst 2, 1) := by decide +kernel
theorem dX8_part0_5 : decode cX8_part0 5 = .ok (.if_icmp .ne 28, 3) := by decide +kernel
theorem dX8_part0_8 : decode cX8_part0 8 = .ok (.aload_n 0, 1) := by decide +kernel
theorem dX8_part0_9 : decode cX8_part0 9 = .ok (.iconst 0, 1) := by decide +kernel
theorem dX8_part0_10 : decode cX8_part0 10 = .ok (.aload_n 0, 1) := by decide +kernel
theorem dX8_part0_11 : decode cX8_part0 11 = .ok (.getfield 237, 3) := by decide +kernel
theorem dX8_part0_14 : decode cX8_part0 14 = .ok (.invokevirtual 259, 3) := by decide +kernel
theorem dX8_part0_17 : decode cX8_part0 17 = .ok (.aload_n 0, 1) := by decide +kernel
theorem dX8_part0_18 : decode cX8_part0 18 = .ok (.dup, 1) := by decide +kernel
theorem dX8_part0_19 : decode cX8_part0 19 = .ok (.getfield 275, 3) := by decide +kernel
theorem dX8_part0_22 : decode cX8_part0 22 = .ok (.iconst 1, 1) := by decide +kernel
theorem dX8_part0_23 : decode cX8_part0 23 = .ok (.iadd, 1) := by decide +kernel
theorem dX8_part0_24 : decode cX8_part0 24 = .ok (.putfield 275, 3) := by decide +kernel
theorem dX8_part0_27 : decode cX8_part0 27 = .ok (.aload_n 0, 1) := by decide +kernel
theorem dX8_part0_28 : decode cX8_part0 28 = .ok (.invokevirtual 256, 3) := by decide +kernel
theorem dX8_part0_31 : decode cX8_part0 31 = .ok (.iconst 1, 1) := by decide +kernel
theorem dX8_part0_32 : decode cX8_part0 32 = .ok (.ireturn, 1) := by decide +kernel
theorem dX8_part0_33 : decode cX8_part0 33 = .ok (.aload_n 0, 1) := by decide +kernel
theorem dX8_part0_34 : decode cX8_part0 34 = .ok (.getfield 222, 3) := by decide +kernel
theorem dX8_part0_37 : decode cX8_part0 37 = .ok (.iconst 1, 1) := by decide +kernel
theorem dX8_part0_38 : decode cX8_part0 38 = .ok (.if_icmp .ne 46, 3) := by decide +kernel
theorem dX8_part0_41 : decode cX8_part0 41 = .ok (.aload_n 0, 1) := by decide +kernel
theorem dX8_part0_42 : decode cX8_part0 42 = .ok (.getfield 231, 3) := by decide +kernel
theorem dX8_part0_45 : decode cX8_part0 45 = .ok (.ifCond .eq 39, 3) := by decide +kernel
theorem dX8_part0_48 : decode cX8_part0 48 = .ok (.iload_n 1, 1) := by decide +kernel
theorem dX8_part0_49 : decode cX8_part0 49 = .ok (.aload_n 0, 1) := by decide +kernel
theorem dX8_part0_50 : decode cX8_part0 50 = .ok (.getfield 231, 3) := by decide +kernel
theorem dX8_part0_53 : decode cX8_part0 53 = .ok (.invokestatic 278, 3) := by decide +kernel
theorem dX8_part0_56 : decode cX8_part0 56 = .ok (.ifCond .eq 28, 3) := by decide +kernel
theorem dX8_part0_59 : decode cX8_part0 59 = .ok (.aload_n 0, 1) := by decide +kernel
theorem dX8_part0_60 : decode cX8_part0 60 = .ok (.iconst 1, 1) := by decide +kernel
theorem dX8_part0_61 : decode cX8_part0 61 = .ok (.aload_n 0, 1) := by decide +kernel
theorem dX8_part0_62 : decode cX8_part0 62 = .ok (.getfield 231, 3) := by decide +kernel
theorem dX8_part0_65 : decode cX8_part0 65 = .ok (.invokevirtual 259, 3) := by decide +kernel
theorem dX8_part0_68 : decode cX8_part0 68 = .ok (.aload_n 0, 1) := by decide +kernel
theorem dX8_part0_69 : decode cX8_part0 69 = .ok (.dup, 1) := by decide +kernel
theorem dX8_part0_70 : decode cX8_part0 70 = .ok (.getfield 275, 3) := by decide +kernel
theorem dX8_part0_73 : decode cX8_part0 73 = .ok (.iconst 1, 1) := by decide +kernel
theorem dX8_part0_74 : decode cX8_part0 74 = .ok (.iadd, 1) := by decide +kernel
theorem dX8_part0_75 : decode cX8_part0 75 = .ok (.putfield 275, 3) := by decide +kernel
theorem dX8_part0_78 : decode cX8_part0 78 = .ok (.aload_n 0, 1) := by decide +kernel
theorem dX8_part0_79 : decode cX8_part0 79 = .ok (.invokevirtual 256, 3) := by decide +kernel
theorem dX8_part0_82 : decode cX8_part0 82 = .ok (.iconst 1, 1) := by decide +kernel
theorem dX8_part0_83 : decode cX8_part0 83 = .ok (.ireturn, 1) := by decide +kernel
theorem dX8_part0_84 : decode cX8_part0 84 = .ok (.aload_n 0, 1) := by decide +kernel
theorem dX8_part0_85 : decode cX8_part0 85 = .ok (.bipush 33, 2) := by decide +kernel
theorem dX8_part0_87 : decode cX8_part0 87 = .ok (.invokevirtual 253, 3) := by decide +kernel
theorem dX8_part0_90 : decode cX8_part0 90 = .ok (.ifCond .eq 55, 3) := by decide +kernel
theorem dX8_part0_93 : decode cX8_part0 93 = .ok (.aload_n 0, 1) := by decide +kernel
theorem dX8_part0_94 : decode cX8_part0 94 = .ok (.getfield 281, 3) := by decide +kernel
theorem dX8_part0_97 : decode cX8_part0 97 = .ok (.bipush 8, 2) := by decide +kernel
theorem dX8_part0_99 : decode cX8_part0 99 = .ok (.if_icmp .ge 46, 3) := by decide +kernel
theorem dX8_part0_102 : decode cX8_part0 102 = .ok (.aload_n 0, 1) := by decide +kernel
theorem dX8_part0_103 : decode cX8_part0 103 = .ok (.dup, 1) := by decide +kernel
theorem dX8_part0_104 : decode cX8_part0 104 = .ok (.getfield 281, 3) := by decide +kernel
theorem dX8_part0_107 : decode cX8_part0 107 = .ok (.iconst 1, 1) := by decide +kernel
theorem dX8_part0_108 : decode cX8_part0 108 = .ok (.iadd, 1) := by decide +kernel
theorem dX8_part0_109 : decode cX8_part0 109 = .ok (.putfield 281, 3) := by decide +kernel
theorem dX8_part0_112 : decode cX8_part0 112 = .ok (.aload_n 0, 1) := by decide +kernel
theorem dX8_part0_113 : decode cX8_part0 113 = .ok (.invokevirtual 256, 3) := by decide +kernel
theorem dX8_part0_116 : decode cX8_part0 116 = .ok (.aload_n 0, 1) := by decide +kernel
theorem dX8_part0_117 : decode cX8_part0 117 = .ok (.iload_n 1, 1) := by decide +kernel
theorem dX8_part0_118 : decode cX8_part0 118 = .ok (.invokevirtual 272, 3) := by decide +kernel
theorem dX8_part0_121 : decode cX8_part0 121 = .ok (.ifCond .ne 5, 3) := by decide +kernel
theorem dX8_part0_124 : decode cX8_part0 124 = .ok (.iconst 0, 1) := by decide +kernel
theorem dX8_part0_125 : decode cX8_part0 125 = .ok (.ireturn, 1) := by decide +kernel
theorem dX8_part0_126 : decode cX8_part0 126 = .ok (.aload_n 0, 1) := by decide +kernel
theorem dX8_part0_127 : decode cX8_part0 127 = .ok (.dup, 1) := by decide +kernel
theorem dX8_part0_128 : decode cX8_part0 128 = .ok (.getfield 281, 3) := by decide +kernel
theorem dX8_part0_131 : decode cX8_part0 131 = .ok (.iconst 1, 1) := by decide +kernel
theorem dX8_part0_132 : decode cX8_part0 132 = .ok (.isub, 1) := by decide +kernel
theorem dX8_part0_133 : decode cX8_part0 133 = .ok (.putfield 281, 3) := by decide +kernel
theorem dX8_part0_136 : decode cX8_part0 136 = .ok (.aload_n 0, 1) := by decide +kernel
theorem dX8_part0_137 : decode cX8_part0 137 = .ok (.iconst 2, 1) := by decide +kernel
theorem dX8_part0_138 : decode cX8_part0 138 = .ok (.bipush 33, 2) := by decide +kernel
theorem dX8_part0_140 : decode cX8_part0 140 = .ok (.invokevirtual 259, 3) := by decide +kernel
theorem dX8_part0_143 : decode cX8_part0 143 = .ok (.iconst 1, 1) := by decide +kernel
theorem dX8_part0_144 : decode cX8_part0 144 = .ok (.ireturn, 1) := by decide +kernel
theorem dX8_part0_145 : decode cX8_part0 145 = .ok (.aload_n 0, 1) := by decide +kernel
theorem dX8_part0_146 : decode cX8_part0 146 = .ok (.bipush 40, 2) := by decide +kernel
theorem dX8_part0_148 : decode cX8_part0 148 = .ok (.invokevirtual 253, 3) := by decide +kernel
theorem dX8_part0_151 : decode cX8_part0 151 = .ok (.ifCond .eq 12, 3) := by decide +kernel
theorem dX8_part0_154 : decode cX8_part0 154 = .ok (.aload_n 0, 1) := by decide +kernel
theorem dX8_part0_155 : decode cX8_part0 155 = .ok (.getfield 284, 3) := by decide +kernel
theorem dX8_part0_158 : decode cX8_part0 158 = .ok (.bipush 8, 2) := by decide +kernel
theorem dX8_part0_160 : decode cX8_part0 160 = .ok (.if_icmp .ne 5, 3) := by decide +kernel
theorem dX8_part0_163 : decode cX8_part0 163 = .ok (.iconst 0, 1) := by decide +kernel
theorem dX8_part0_164 : decode cX8_part0 164 = .ok (.ireturn, 1) := by decide +kernel
theorem dX8_part0_165 : decode cX8_part0 165 = .ok (.aload_n 0, 1) := by decide +kernel
theorem dX8_part0_166 : decode cX8_part0 166 = .ok (.dup, 1) := by decide +kernel
theorem dX8_part0_167 : decode cX8_part0 167 = .ok (.getfield 284, 3) := by decide +kernel
theorem dX8_part0_170 : decode cX8_part0 170 = .ok (.iconst 1, 1) := by decide +kernel
theorem dX8_part0_171 : decode cX8_part0 171 = .ok (.iadd, 1) := by decide +kernel
theorem dX8_part0_172 : decode cX8_part0 172 = .ok (.putfield 284, 3) := by decide +kernel
theorem dX8_part0_175 : decode cX8_part0 175 = .ok (.aload_n 0, 1) := by decide +kernel
theorem dX8_part0_176 : decode cX8_part0 176 = .ok (.invokevirtual 256, 3) := by decide +kernel
theorem dX8_part0_179 : decode cX8_part0 179 = .ok (.aload_n 0, 1) := by decide +kernel
theorem dX8_part0_180 : decode cX8_part0 180 = .ok (.iload_n 1, 1) := by decide +kernel
theorem dX8_part0_181 : decode cX8_part0 181 = .ok (.invokevirtual 287, 3) := by decide +kernel
theorem dX8_part0_184 : decode cX8_part0 184 = .ok (.ifCond .eq 12, 3) := by decide +kernel
theorem dX8_part0_187 : decode cX8_part0 187 = .ok (.aload_n 0, 1) := by decide +kernel
theorem dX8_part0_188 : decode cX8_part0 188 = .ok (.bipush 41, 2) := by decide +kernel
theorem dX8_part0_190 : decode cX8_part0 190 = .ok (.invokevirtual 253, 3) := by decide +kernel
theorem dX8_part0_193 : decode cX8_part0 193 = .ok (.ifCond .ne 5, 3) := by decide +kernel
theorem dX8_part0_196 : decode cX8_part0 196 = .ok (.iconst 0, 1) := by decide +kernel
theorem dX8_part0_197 : decode cX8_part0 197 = .ok (.ireturn, 1) := by decide +kernel
theorem dX8_part0_198 : decode cX8_part0 198 = .ok (.aload_n 0, 1) := by decide +kernel
theorem dX8_part0_199 : decode cX8_part0 199 = .ok (.dup, 1) := by decide +kernel
theorem dX8_part0_200 : decode cX8_part0 200 = .ok (.getfield 284, 3) := by decide +kernel
theorem dX8_part0_203 : decode cX8_part0 203 = .ok (.iconst 1, 1) := by decide +kernel
theorem dX8_part0_204 : decode cX8_part0 204 = .ok (.isub, 1) := by decide +kernel
theorem dX8_part0_205 : decode cX8_part0 205 = .ok (.putfield 284, 3) := by decide +kernel
theorem dX8_part0_208 : decode cX8_part0 208 = .ok (.aload_n 0, 1) := by decide +kernel
theorem dX8_part0_209 : decode cX8_part0 209 = .ok (.invokevirtual 256, 3) := by decide +kernel
theorem dX8_part0_212 : decode cX8_part0 212 = .ok (.iconst 1, 1) := by decide +kernel
theorem dX8_part0_213 : decode cX8_part0 213 = .ok (.ireturn, 1) := by decide +kernel
theorem dX8_parse_0 : decode cX8_parse 0 = .ok (.aload_n 0, 1) := by decide +kernel
theorem dX8_parse_1 : decode cX8_parse 1 = .ok (.iconst 0, 1) := by decide +kernel
theorem dX8_parse_2 : decode cX8_parse 2 = .ok (.putfield 219, 3) := by decide +kernel
theorem dX8_parse_5 : decode cX8_parse 5 = .ok (.aload_n 0, 1) := by decide +kernel
theorem dX8_parse_6 : decode cX8_parse 6 = .ok (.iconst 3, 1) := by decide +kernel
theorem dX8_parse_7 : decode cX8_parse 7 = .ok (.putfield 222, 3) := by decide +kernel
theorem dX8_parse_10 : decode cX8_parse 10 = .ok (.aload_n 0, 1) := by decide +kernel
theorem dX8_parse_11 : decode cX8_parse 11 = .ok (.iconst 0, 1) := by decide +kernel
theorem dX8_parse_12 : decode cX8_parse 12 = .ok (.putfield 284, 3) := by decide +kernel
theorem dX8_parse_15 : decode cX8_parse 15 = .ok (.aload_n 0, 1) := by decide +kernel
theorem dX8_parse_16 : decode cX8_parse 16 = .ok (.iconst 0, 1) := by decide +kernel
theorem dX8_parse_17 : decode cX8_parse 17 = .ok (.putfield 281, 3) := by decide +kernel
theorem dX8_parse_20 : decode cX8_parse 20 = .ok (.aload_n 0, 1) := by decide +kernel
theorem dX8_parse_21 : decode cX8_parse 21 = .ok (.iconst 0, 1) := by decide +kernel
theorem dX8_parse_22 : decode cX8_parse 22 = .ok (.putfield 247, 3) := by decide +kernel
theorem dX8_parse_25 : decode cX8_parse 25 = .ok (.aload_n 0, 1) := by decide +kernel
theorem dX8_parse_26 : decode cX8_parse 26 = .ok (.iconst 0, 1) := by decide +kernel
theorem dX8_parse_27 : decode cX8_parse 27 = .ok (.putfield 275, 3) := by decide +kernel
theorem dX8_parse_30 : decode cX8_parse 30 = .ok (.aload_n 0, 1) := by decide +kernel
theorem dX8_parse_31 : decode cX8_parse 31 = .ok (.aload_n 0, 1) := by decide +kernel
theorem dX8_parse_32 : decode cX8_parse 32 = .ok (.getfield 7, 3) := by decide +kernel
theorem dX8_parse_35 : decode cX8_parse 35 = .ok (.iconst 1, 1) := by decide +kernel
theorem dX8_parse_36 : decode cX8_parse 36 = .ok (.iaload, 1) := by decide +kernel
theorem dX8_parse_37 : decode cX8_parse 37 = .ok (.bipush 14, 2) := by decide +kernel
theorem dX8_parse_39 : decode cX8_parse 39 = .ok (.if_icmp .ge 18, 3) := by decide +kernel
theorem dX8_parse_42 : decode cX8_parse 42 = .ok (.aload_n 0, 1) := by decide +kernel
theorem dX8_parse_43 : decode cX8_parse 43 = .ok (.aload_n 0, 1) := by decide +kernel
theorem dX8_parse_44 : decode cX8_parse 44 = .ok (.getfield 7, 3) := by decide +kernel
theorem dX8_parse_47 : decode cX8_parse 47 = .ok (.iconst 1, 1) := by decide +kernel
theorem dX8_parse_48 : decode cX8_parse 48 = .ok (.iaload, 1) := by decide +kernel
theorem dX8_parse_49 : decode cX8_parse 49 = .ok (.invokevirtual 290, 3) := by decide +kernel
theorem dX8_parse_52 : decode cX8_parse 52 = .ok (.iconst 4, 1) := by decide +kernel
theorem dX8_parse_53 : decode cX8_parse 53 = .ok (.iadd, 1) := by decide +kernel
theorem dX8_parse_54 : decode cX8_parse 54 = .ok (.goto 6, 3) := by decide +kernel
theorem dX8_parse_57 : decode cX8_parse 57 = .ok (.sipush 2862, 3) := by decide +kernel
theorem dX8_parse_60 : decode cX8_parse 60 = .ok (.putfield 244, 3) := by decide +kernel
theorem dX8_parse_63 : decode cX8_parse 63 = .ok (.aload_n 0, 1) := by decide +kernel
theorem dX8_parse_64 : decode cX8_parse 64 = .ok (.invokevirtual 256, 3) := by decide +kernel
theorem dX8_parse_67 : decode cX8_parse 67 = .ok (.aload_n 0, 1) := by decide +kernel
theorem dX8_parse_68 : decode cX8_parse 68 = .ok (.invokevirtual 293, 3) := by decide +kernel
theorem dX8_parse_71 : decode cX8_parse 71 = .ok (.istore_n 1, 1) := by decide +kernel
theorem dX8_parse_72 : decode cX8_parse 72 = .ok (.iload_n 1, 1) := by decide +kernel
theorem dX8_parse_73 : decode cX8_parse 73 = .ok (.ifCond .lt 7, 3) := by decide +kernel
theorem dX8_parse_76 : decode cX8_parse 76 = .ok (.iconst 1, 1) := by decide +kernel
theorem dX8_parse_77 : decode cX8_parse 77 = .ok (.goto 4, 3) := by decide +kernel
theorem dX8_parse_80 : decode cX8_parse 80 = .ok (.iconst 0, 1) := by decide +kernel
theorem dX8_parse_81 : decode cX8_parse 81 = .ok (.istore_n 2, 1) := by decide +kernel
theorem dX8_parse_82 : decode cX8_parse 82 = .ok (.iload_n 2, 1) := by decide +kernel
theorem dX8_parse_83 : decode cX8_parse 83 = .ok (.ifCond .eq 28, 3) := by decide +kernel
theorem dX8_parse_86 : decode cX8_parse 86 = .ok (.aload_n 0, 1) := by decide +kernel
theorem dX8_parse_87 : decode cX8_parse 87 = .ok (.invokevirtual 256, 3) := by decide +kernel
theorem dX8_parse_90 : decode cX8_parse 90 = .ok (.aload_n 0, 1) := by decide +kernel
theorem dX8_parse_91 : decode cX8_parse 91 = .ok (.iload_n 1, 1) := by decide +kernel
theorem dX8_parse_92 : decode cX8_parse 92 = .ok (.invokevirtual 287, 3) := by decide +kernel
theorem dX8_parse_95 : decode cX8_parse 95 = .ok (.ifCond .eq 14, 3) := by decide +kernel
theorem dX8_parse_98 : decode cX8_parse 98 = .ok (.aload_n 0, 1) := by decide +kernel
theorem dX8_parse_99 : decode cX8_parse 99 = .ok (.getfield 222, 3) := by decide +kernel
theorem dX8_parse_102 : decode cX8_parse 102 = .ok (.ifCond .ne 7, 3) := by decide +kernel
theorem dX8_parse_105 : decode cX8_parse 105 = .ok (.iconst 1, 1) := by decide +kernel
theorem dX8_parse_106 : decode cX8_parse 106 = .ok (.goto 4, 3) := by decide +kernel
theorem dX8_parse_109 : decode cX8_parse 109 = .ok (.iconst 0, 1) := by decide +kernel
theorem dX8_parse_110 : decode cX8_parse 110 = .ok (.istore_n 2, 1) := by decide +kernel
theorem dX8_parse_111 : decode cX8_parse 111 = .ok (.aload_n 0, 1) := by decide +kernel
theorem dX8_parse_112 : decode cX8_parse 112 = .ok (.iconst 0, 1) := by decide +kernel
theorem dX8_parse_113 : decode cX8_parse 113 = .ok (.putfield 207, 3) := by decide +kernel
theorem dX8_parse_116 : decode cX8_parse 116 = .ok (.iload_n 2, 1) := by decide +kernel
theorem dX8_parse_117 : decode cX8_parse 117 = .ok (.ifCond .eq 7, 3) := by decide +kernel
theorem dX8_parse_120 : decode cX8_parse 120 = .ok (.iload_n 1, 1) := by decide +kernel
theorem dX8_parse_121 : decode cX8_parse 121 = .ok (.goto 4, 3) := by decide +kernel
theorem dX8_parse_124 : decode cX8_parse 124 = .ok (.iconst (-1), 1) := by decide +kernel
theorem dX8_parse_125 : decode cX8_parse 125 = .ok (.ireturn, 1) := by decide +kernel
theorem dX8_text_0 : decode cX8_text 0 = .ok (.aload_n 0, 1) := by decide +kernel
theorem dX8_text_1 : decode cX8_text 1 = .ok (.invokevirtual 296, 3) := by decide +kernel
theorem dX8_text_4 : decode cX8_text 4 = .ok (.istore_n 1, 1) := by decide +kernel
theorem dX8_text_5 : decode cX8_text 5 = .ok (.iload_n 1, 1) := by decide +kernel
theorem dX8_text_6 : decode cX8_text 6 = .ok (.ifCond .ge 11, 3) := by decide +kernel
theorem dX8_text_9 : decode cX8_text 9 = .ok (.bipush (-100), 2) := by decide +kernel
theorem dX8_text_11 : decode cX8_text 11 = .ok (.aload_n 0, 1) := by decide +kernel
theorem dX8_text_12 : decode cX8_text 12 = .ok (.getfield 225, 3) := by decide +kernel
theorem dX8_text_15 : decode cX8_text 15 = .ok (.isub, 1) := by decide +kernel
theorem dX8_text_16 : decode cX8_text 16 = .ok (.ireturn, 1) := by decide +kernel
theorem dX8_text_17 : decode cX8_text 17 = .ok (.aload_n 0, 1) := by decide +kernel
theorem dX8_text_18 : decode cX8_text 18 = .ok (.getfield 7, 3) := by decide +kernel
theorem dX8_text_21 : decode cX8_text 21 = .ok (.iconst 1, 1) := by decide +kernel
theorem dX8_text_22 : decode cX8_text 22 = .ok (.iaload, 1) := by decide +kernel
theorem dX8_text_23 : decode cX8_text 23 = .ok (.bipush 14, 2) := by decide +kernel
theorem dX8_text_25 : decode cX8_text 25 = .ok (.if_icmp .ne 6, 3) := by decide +kernel
theorem dX8_text_28 : decode cX8_text 28 = .ok (.ldc 94, 2) := by decide +kernel
theorem dX8_text_30 : decode cX8_text 30 = .ok (.ireturn, 1) := by decide +kernel
theorem dX8_text_31 : decode cX8_text 31 = .ok (.aload_n 0, 1) := by decide +kernel
theorem dX8_text_32 : decode cX8_text 32 = .ok (.aload_n 0, 1) := by decide +kernel
theorem dX8_text_33 : decode cX8_text 33 = .ok (.getfield 7, 3) := by decide +kernel
theorem dX8_text_36 : decode cX8_text 36 = .ok (.iconst 1, 1) := by decide +kernel
theorem dX8_text_37 : decode cX8_text 37 = .ok (.iaload, 1) := by decide +kernel
theorem dX8_text_38 : decode cX8_text 38 = .ok (.invokevirtual 290, 3) := by decide +kernel
theorem dX8_text_41 : decode cX8_text 41 = .ok (.istore_n 2, 1) := by decide +kernel
theorem dX8_text_42 : decode cX8_text 42 = .ok (.aload_n 0, 1) := by decide +kernel
theorem dX8_text_43 : decode cX8_text 43 = .ok (.getfield 7, 3) := by decide +kernel
theorem dX8_text_46 : decode cX8_text 46 = .ok (.iload_n 2, 1) := by decide +kernel
theorem dX8_text_47 : decode cX8_text 47 = .ok (.iconst 0, 1) := by decide +kernel
theorem dX8_text_48 : decode cX8_text 48 = .ok (.iadd, 1) := by decide +kernel
theorem dX8_text_49 : decode cX8_text 49 = .ok (.iload_n 1, 1) := by decide +kernel
theorem dX8_text_50 : decode cX8_text 50 = .ok (.iastore, 1) := by decide +kernel
theorem dX8_text_51 : decode cX8_text 51 = .ok (.aload_n 0, 1) := by decide +kernel
theorem dX8_text_52 : decode cX8_text 52 = .ok (.getfield 7, 3) := by decide +kernel
theorem dX8_text_55 : decode cX8_text 55 = .ok (.iload_n 2, 1) := by decide +kernel
theorem dX8_text_56 : decode cX8_text 56 = .ok (.iconst 1, 1) := by decide +kernel
theorem dX8_text_57 : decode cX8_text 57 = .ok (.iadd, 1) := by decide +kernel
theorem dX8_text_58 : decode cX8_text 58 = .ok (.aload_n 0, 1) := by decide +kernel
theorem dX8_text_59 : decode cX8_text 59 = .ok (.getfield 275, 3) := by decide +kernel
theorem dX8_text_62 : decode cX8_text 62 = .ok (.iastore, 1) := by decide +kernel
theorem dX8_text_63 : decode cX8_text 63 = .ok (.aload_n 0, 1) := by decide +kernel
theorem dX8_text_64 : decode cX8_text 64 = .ok (.getfield 7, 3) := by decide +kernel
theorem dX8_text_67 : decode cX8_text 67 = .ok (.iload_n 2, 1) := by decide +kernel
theorem dX8_text_68 : decode cX8_text 68 = .ok (.iconst 2, 1) := by decide +kernel
theorem dX8_text_69 : decode cX8_text 69 = .ok (.iadd, 1) := by decide +kernel
theorem dX8_text_70 : decode cX8_text 70 = .ok (.aload_n 0, 1) := by decide +kernel
theorem dX8_text_71 : decode cX8_text 71 = .ok (.getfield 247, 3) := by decide +kernel
theorem dX8_text_74 : decode cX8_text 74 = .ok (.iastore, 1) := by decide +kernel
theorem dX8_text_75 : decode cX8_text 75 = .ok (.aload_n 0, 1) := by decide +kernel
theorem dX8_text_76 : decode cX8_text 76 = .ok (.getfield 7, 3) := by decide +kernel
theorem dX8_text_79 : decode cX8_text 79 = .ok (.iconst 1, 1) := by decide +kernel
theorem dX8_text_80 : decode cX8_text 80 = .ok (.dup2, 1) := by decide +kernel
theorem dX8_text_81 : decode cX8_text 81 = .ok (.iaload, 1) := by decide +kernel
theorem dX8_text_82 : decode cX8_text 82 = .ok (.iconst 1, 1) := by decide +kernel
theorem dX8_text_83 : decode cX8_text 83 = .ok (.iadd, 1) := by decide +kernel
theorem dX8_text_84 : decode cX8_text 84 = .ok (.iastore, 1) := by decide +kernel
theorem dX8_text_85 : decode cX8_text 85 = .ok (.aload_n 0, 1) := by decide +kernel
theorem dX8_text_86 : decode cX8_text 86 = .ok (.getfield 7, 3) := by decide +kernel
theorem dX8_text_89 : decode cX8_text 89 = .ok (.iconst 1, 1) := by decide +kernel
theorem dX8_text_90 : decode cX8_text 90 = .ok (.iaload, 1) := by decide +kernel
theorem dX8_text_91 : decode cX8_text 91 = .ok (.iconst 1, 1) := by decide +kernel
theorem dX8_text_92 : decode cX8_text 92 = .ok (.isub, 1) := by decide +kernel
theorem dX8_text_93 : decode cX8_text 93 = .ok (.ireturn, 1) := by decide +kernel
theorem dX8_textTold_0 : decode cX8_textTold 0 = .ok (.aload_n 0, 1) := by decide +kernel
theorem dX8_textTold_1 : decode cX8_textTold 1 = .ok (.iload_n 1, 1) := by decide +kernel
theorem dX8_textTold_2 : decode cX8_textTold 2 = .ok (.invokevirtual 299, 3) := by decide +kernel
theorem dX8_textTold_5 : decode cX8_textTold 5 = .ok (.ifCond .eq 13, 3) := by decide +kernel
theorem dX8_textTold_8 : decode cX8_textTold 8 = .ok (.iload_n 2, 1) := by decide +kernel
theorem dX8_textTold_9 : decode cX8_textTold 9 = .ok (.i2l, 1) := by decide +kernel
theorem dX8_textTold_10 : decode cX8_textTold 10 = .ok (.lconst 0, 1) := by decide +kernel
theorem dX8_textTold_11 : decode cX8_textTold 11 = .ok (.lconst 1, 1) := by decide +kernel
theorem dX8_textTold_12 : decode cX8_textTold 12 = .ok (.invokestatic 65, 3) := by decide +kernel
theorem dX8_textTold_15 : decode cX8_textTold 15 = .ok (.ifCond .ne 6, 3) := by decide +kernel
theorem dX8_textTold_18 : decode cX8_textTold 18 = .ok (.ldc 88, 2) := by decide +kernel
theorem dX8_textTold_20 : decode cX8_textTold 20 = .ok (.ireturn, 1) := by decide +kernel
theorem dX8_textTold_21 : decode cX8_textTold 21 = .ok (.aload_n 0, 1) := by decide +kernel
theorem dX8_textTold_22 : decode cX8_textTold 22 = .ok (.getfield 7, 3) := by decide +kernel
theorem dX8_textTold_25 : decode cX8_textTold 25 = .ok (.aload_n 0, 1) := by decide +kernel
theorem dX8_textTold_26 : decode cX8_textTold 26 = .ok (.iload_n 1, 1) := by decide +kernel
theorem dX8_textTold_27 : decode cX8_textTold 27 = .ok (.invokevirtual 290, 3) := by decide +kernel
theorem dX8_textTold_30 : decode cX8_textTold 30 = .ok (.iload_n 2, 1) := by decide +kernel
theorem dX8_textTold_31 : decode cX8_textTold 31 = .ok (.iadd, 1) := by decide +kernel
theorem dX8_textTold_32 : decode cX8_textTold 32 = .ok (.iaload, 1) := by decide +kernel
theorem dX8_textTold_33 : decode cX8_textTold 33 = .ok (.ireturn, 1) := by decide +kernel
theorem dX8_counts_0 : decode cX8_counts 0 = .ok (.iconst (-1), 1) := by decide +kernel
theorem dX8_counts_1 : decode cX8_counts 1 = .ok (.istore_n 2, 1) := by decide +kernel
theorem dX8_counts_2 : decode cX8_counts 2 = .ok (.iconst 0, 1) := by decide +kernel
theorem dX8_counts_3 : decode cX8_counts 3 = .ok (.istore_n 3, 1) := by decide +kernel
theorem dX8_counts_4 : decode cX8_counts 4 = .ok (.iload_n 3, 1) := by decide +kernel
theorem dX8_counts_5 : decode cX8_counts 5 = .ok (.aload_n 0, 1) := by decide +kernel
theorem dX8_counts_6 : decode cX8_counts 6 = .ok (.getfield 7, 3) := by decide +kernel
theorem dX8_counts_9 : decode cX8_counts 9 = .ok (.iconst 1, 1) := by decide +kernel
theorem dX8_counts_10 : decode cX8_counts 10 = .ok (.iaload, 1) := by decide +kernel
theorem dX8_counts_11 : decode cX8_counts 11 = .ok (.if_icmp .ge 29, 3) := by decide +kernel
theorem dX8_counts_14 : decode cX8_counts 14 = .ok (.aload_n 0, 1) := by decide +kernel
theorem dX8_counts_15 : decode cX8_counts 15 = .ok (.getfield 7, 3) := by decide +kernel
theorem dX8_counts_18 : decode cX8_counts 18 = .ok (.aload_n 0, 1) := by decide +kernel
theorem dX8_counts_19 : decode cX8_counts 19 = .ok (.iload_n 3, 1) := by decide +kernel
theorem dX8_counts_20 : decode cX8_counts 20 = .ok (.invokevirtual 290, 3) := by decide +kernel
theorem dX8_counts_23 : decode cX8_counts 23 = .ok (.iaload, 1) := by decide +kernel
theorem dX8_counts_24 : decode cX8_counts 24 = .ok (.iload_n 1, 1) := by decide +kernel
theorem dX8_counts_25 : decode cX8_counts 25 = .ok (.if_icmp .ne 7, 3) := by decide +kernel
theorem dX8_counts_28 : decode cX8_counts 28 = .ok (.iload_n 3, 1) := by decide +kernel
theorem dX8_counts_29 : decode cX8_counts 29 = .ok (.goto 4, 3) := by decide +kernel
theorem dX8_counts_32 : decode cX8_counts 32 = .ok (.iload_n 2, 1) := by decide +kernel
theorem dX8_counts_33 : decode cX8_counts 33 = .ok (.istore_n 2, 1) := by decide +kernel
theorem dX8_counts_34 : decode cX8_counts 34 = .ok (.iinc 3 1, 3) := by decide +kernel
theorem dX8_counts_37 : decode cX8_counts 37 = .ok (.goto (-33), 3) := by decide +kernel
theorem dX8_counts_40 : decode cX8_counts 40 = .ok (.iload_n 2, 1) := by decide +kernel
theorem dX8_counts_41 : decode cX8_counts 41 = .ok (.ireturn, 1) := by decide +kernel
theorem dX8_why_0 : decode cX8_why 0 = .ok (.iload_n 1, 1) := by decide +kernel
theorem dX8_why_1 : decode cX8_why 1 = .ok (.i2l, 1) := by decide +kernel
theorem dX8_why_2 : decode cX8_why 2 = .ok (.lconst 0, 1) := by decide +kernel
theorem dX8_why_3 : decode cX8_why 3 = .ok (.ldc2_w 135, 3) := by decide +kernel
theorem dX8_why_6 : decode cX8_why 6 = .ok (.invokestatic 65, 3) := by decide +kernel
theorem dX8_why_9 : decode cX8_why 9 = .ok (.ifCond .eq 14, 3) := by decide +kernel
theorem dX8_why_12 : decode cX8_why 12 = .ok (.aload_n 0, 1) := by decide +kernel
theorem dX8_why_13 : decode cX8_why 13 = .ok (.iload_n 1, 1) := by decide +kernel
theorem dX8_why_14 : decode cX8_why 14 = .ok (.invokevirtual 98, 3) := by decide +kernel
theorem dX8_why_17 : decode cX8_why 17 = .ok (.invokestatic 139, 3) := by decide +kernel
theorem dX8_why_20 : decode cX8_why 20 = .ok (.goto 5, 3) := by decide +kernel
theorem dX8_why_23 : decode cX8_why 23 = .ok (.ldc 88, 2) := by decide +kernel
theorem dX8_why_25 : decode cX8_why 25 = .ok (.ireturn, 1) := by decide +kernel
theorem dX8_joined_0 : decode cX8_joined 0 = .ok (.iload_n 0, 1) := by decide +kernel
theorem dX8_joined_1 : decode cX8_joined 1 = .ok (.tableswitch 196 38 62 #[182, 196, 196, 196, 123, 115, 196, 119, 196, 127, 196, 196, 196, 196, 196, 196, 196, 196, 196, 196, 196, 196, 149, 171, 160], 115) := by decide +kernel
theorem dX8_joined_116 : decode cX8_joined 116 = .ok (.iload_n 1, 1) := by decide +kernel
theorem dX8_joined_117 : decode cX8_joined 117 = .ok (.iload_n 2, 1) := by decide +kernel
theorem dX8_joined_118 : decode cX8_joined 118 = .ok (.iadd, 1) := by decide +kernel
theorem dX8_joined_119 : decode cX8_joined 119 = .ok (.ireturn, 1) := by decide +kernel
theorem dX8_joined_120 : decode cX8_joined 120 = .ok (.iload_n 1, 1) := by decide +kernel
theorem dX8_joined_121 : decode cX8_joined 121 = .ok (.iload_n 2, 1) := by decide +kernel
theorem dX8_joined_122 : decode cX8_joined 122 = .ok (.isub, 1) := by decide +kernel
theorem dX8_joined_123 : decode cX8_joined 123 = .ok (.ireturn, 1) := by decide +kernel
theorem dX8_joined_124 : decode cX8_joined 124 = .ok (.iload_n 1, 1) := by decide +kernel
theorem dX8_joined_125 : decode cX8_joined 125 = .ok (.iload_n 2, 1) := by decide +kernel
theorem dX8_joined_126 : decode cX8_joined 126 = .ok (.imul, 1) := by decide +kernel
theorem dX8_joined_127 : decode cX8_joined 127 = .ok (.ireturn, 1) := by decide +kernel
theorem dX8_joined_128 : decode cX8_joined 128 = .ok (.iload_n 2, 1) := by decide +kernel
theorem dX8_joined_129 : decode cX8_joined 129 = .ok (.ifCond .ne 7, 3) := by decide +kernel
theorem dX8_joined_132 : decode cX8_joined 132 = .ok (.iconst 0, 1) := by decide +kernel
theorem dX8_joined_133 : decode cX8_joined 133 = .ok (.goto 16, 3) := by decide +kernel
theorem dX8_joined_136 : decode cX8_joined 136 = .ok (.iload_n 2, 1) := by decide +kernel
theorem dX8_joined_137 : decode cX8_joined 137 = .ok (.iconst (-1), 1) := by decide +kernel
theorem dX8_joined_138 : decode cX8_joined 138 = .ok (.if_icmp .ne 8, 3) := by decide +kernel
theorem dX8_joined_141 : decode cX8_joined 141 = .ok (.iload_n 1, 1) := by decide +kernel
theorem dX8_joined_142 : decode cX8_joined 142 = .ok (.ineg, 1) := by decide +kernel
theorem dX8_joined_143 : decode cX8_joined 143 = .ok (.goto 6, 3) := by decide +kernel
theorem dX8_joined_146 : decode cX8_joined 146 = .ok (.iload_n 1, 1) := by decide +kernel
theorem dX8_joined_147 : decode cX8_joined 147 = .ok (.iload_n 2, 1) := by decide +kernel
theorem dX8_joined_148 : decode cX8_joined 148 = .ok (.idiv, 1) := by decide +kernel
theorem dX8_joined_149 : decode cX8_joined 149 = .ok (.ireturn, 1) := by decide +kernel
theorem dX8_joined_150 : decode cX8_joined 150 = .ok (.iload_n 1, 1) := by decide +kernel
theorem dX8_joined_151 : decode cX8_joined 151 = .ok (.iload_n 2, 1) := by decide +kernel
theorem dX8_joined_152 : decode cX8_joined 152 = .ok (.if_icmp .ge 7, 3) := by decide +kernel
theorem dX8_joined_155 : decode cX8_joined 155 = .ok (.iconst 1, 1) := by decide +kernel
theorem dX8_joined_156 : decode cX8_joined 156 = .ok (.goto 4, 3) := by decide +kernel
theorem dX8_joined_159 : decode cX8_joined 159 = .ok (.iconst 0, 1) := by decide +kernel
theorem dX8_joined_160 : decode cX8_joined 160 = .ok (.ireturn, 1) := by decide +kernel
theorem dX8_joined_161 : decode cX8_joined 161 = .ok (.iload_n 1, 1) := by decide +kernel
theorem dX8_joined_162 : decode cX8_joined 162 = .ok (.iload_n 2, 1) := by decide +kernel
theorem dX8_joined_163 : decode cX8_joined 163 = .ok (.if_icmp .le 7, 3) := by decide +kernel
theorem dX8_joined_166 : decode cX8_joined 166 = .ok (.iconst 1, 1) := by decide +kernel
theorem dX8_joined_167 : decode cX8_joined 167 = .ok (.goto 4, 3) := by decide +kernel
theorem dX8_joined_170 : decode cX8_joined 170 = .ok (.iconst 0, 1) := by decide +kernel
theorem dX8_joined_171 : decode cX8_joined 171 = .ok (.ireturn, 1) := by decide +kernel
theorem dX8_joined_172 : decode cX8_joined 172 = .ok (.iload_n 1, 1) := by decide +kernel
theorem dX8_joined_173 : decode cX8_joined 173 = .ok (.iload_n 2, 1) := by decide +kernel
theorem dX8_joined_174 : decode cX8_joined 174 = .ok (.if_icmp .ne 7, 3) := by decide +kernel
theorem dX8_joined_177 : decode cX8_joined 177 = .ok (.iconst 1, 1) := by decide +kernel
theorem dX8_joined_178 : decode cX8_joined 178 = .ok (.goto 4, 3) := by decide +kernel
theorem dX8_joined_181 : decode cX8_joined 181 = .ok (.iconst 0, 1) := by decide +kernel
theorem dX8_joined_182 : decode cX8_joined 182 = .ok (.ireturn, 1) := by decide +kernel
theorem dX8_joined_183 : decode cX8_joined 183 = .ok (.iload_n 1, 1) := by decide +kernel
theorem dX8_joined_184 : decode cX8_joined 184 = .ok (.ifCond .eq 11, 3) := by decide +kernel
theorem dX8_joined_187 : decode cX8_joined 187 = .ok (.iload_n 2, 1) := by decide +kernel
theorem dX8_joined_188 : decode cX8_joined 188 = .ok (.ifCond .eq 7, 3) := by decide +kernel
theorem dX8_joined_191 : decode cX8_joined 191 = .ok (.iconst 1, 1) := by decide +kernel
theorem dX8_joined_192 : decode cX8_joined 192 = .ok (.goto 4, 3) := by decide +kernel
theorem dX8_joined_195 : decode cX8_joined 195 = .ok (.iconst 0, 1) := by decide +kernel
theorem dX8_joined_196 : decode cX8_joined 196 = .ok (.ireturn, 1) := by decide +kernel
theorem dX8_joined_197 : decode cX8_joined 197 = .ok (.iload_n 1, 1) := by decide +kernel
theorem dX8_joined_198 : decode cX8_joined 198 = .ok (.ifCond .ne 7, 3) := by decide +kernel
theorem dX8_joined_201 : decode cX8_joined 201 = .ok (.iload_n 2, 1) := by decide +kernel
theorem dX8_joined_202 : decode cX8_joined 202 = .ok (.ifCond .eq 7, 3) := by decide +kernel
theorem dX8_joined_205 : decode cX8_joined 205 = .ok (.iconst 1, 1) := by decide +kernel
theorem dX8_joined_206 : decode cX8_joined 206 = .ok (.goto 4, 3) := by decide +kernel
theorem dX8_joined_209 : decode cX8_joined 209 = .ok (.iconst 0, 1) := by decide +kernel
theorem dX8_joined_210 : decode cX8_joined 210 = .ok (.ireturn, 1) := by decide +kernel
theorem dX8_worked_0 : decode cX8_worked 0 = .ok (.iconst 0, 1) := by decide +kernel
theorem dX8_worked_1 : decode cX8_worked 1 = .ok (.istore_n 2, 1) := by decide +kernel
theorem dX8_worked_2 : decode cX8_worked 2 = .ok (.iconst 0, 1) := by decide +kernel
theorem dX8_worked_3 : decode cX8_worked 3 = .ok (.istore_n 3, 1) := by decide +kernel
theorem dX8_worked_4 : decode cX8_worked 4 = .ok (.iload_n 3, 1) := by decide +kernel
theorem dX8_worked_5 : decode cX8_worked 5 = .ok (.aload_n 0, 1) := by decide +kernel
theorem dX8_worked_6 : decode cX8_worked 6 = .ok (.getfield 7, 3) := by decide +kernel
theorem dX8_worked_9 : decode cX8_worked 9 = .ok (.aload_n 0, 1) := by decide +kernel
theorem dX8_worked_10 : decode cX8_worked 10 = .ok (.iload_n 1, 1) := by decide +kernel
theorem dX8_worked_11 : decode cX8_worked 11 = .ok (.invokevirtual 290, 3) := by decide +kernel
theorem dX8_worked_14 : decode cX8_worked 14 = .ok (.iconst 2, 1) := by decide +kernel
theorem dX8_worked_15 : decode cX8_worked 15 = .ok (.iadd, 1) := by decide +kernel
theorem dX8_worked_16 : decode cX8_worked 16 = .ok (.iaload, 1) := by decide +kernel
theorem dX8_worked_17 : decode cX8_worked 17 = .ok (.if_icmp .ge 146, 3) := by decide +kernel
theorem dX8_worked_20 : decode cX8_worked 20 = .ok (.aload_n 0, 1) := by decide +kernel
theorem dX8_worked_21 : decode cX8_worked 21 = .ok (.getfield 7, 3) := by decide +kernel
theorem dX8_worked_24 : decode cX8_worked 24 = .ok (.aload_n 0, 1) := by decide +kernel
theorem dX8_worked_25 : decode cX8_worked 25 = .ok (.iload_n 1, 1) := by decide +kernel
theorem dX8_worked_26 : decode cX8_worked 26 = .ok (.invokevirtual 290, 3) := by decide +kernel
theorem dX8_worked_29 : decode cX8_worked 29 = .ok (.iconst 4, 1) := by decide +kernel
theorem dX8_worked_30 : decode cX8_worked 30 = .ok (.iadd, 1) := by decide +kernel
theorem dX8_worked_31 : decode cX8_worked 31 = .ok (.iconst 2, 1) := by decide +kernel
theorem dX8_worked_32 : decode cX8_worked 32 = .ok (.iload_n 3, 1) := by decide +kernel
theorem dX8_worked_33 : decode cX8_worked 33 = .ok (.imul, 1) := by decide +kernel
theorem dX8_worked_34 : decode cX8_worked 34 = .ok (.iadd, 1) := by decide +kernel
theorem dX8_worked_35 : decode cX8_worked 35 = .ok (.iaload, 1) := by decide +kernel
theorem dX8_worked_36 : decode cX8_worked 36 = .ok (.istore 4, 2) := by decide +kernel
theorem dX8_worked_38 : decode cX8_worked 38 = .ok (.aload_n 0, 1) := by decide +kernel
theorem dX8_worked_39 : decode cX8_worked 39 = .ok (.getfield 7, 3) := by decide +kernel
theorem dX8_worked_42 : decode cX8_worked 42 = .ok (.aload_n 0, 1) := by decide +kernel
theorem dX8_worked_43 : decode cX8_worked 43 = .ok (.iload_n 1, 1) := by decide +kernel
theorem dX8_worked_44 : decode cX8_worked 44 = .ok (.invokevirtual 290, 3) := by decide +kernel
theorem dX8_worked_47 : decode cX8_worked 47 = .ok (.iconst 4, 1) := by decide +kernel
theorem dX8_worked_48 : decode cX8_worked 48 = .ok (.iadd, 1) := by decide +kernel
theorem dX8_worked_49 : decode cX8_worked 49 = .ok (.iconst 2, 1) := by decide +kernel
theorem dX8_worked_50 : decode cX8_worked 50 = .ok (.iload_n 3, 1) := by decide +kernel
theorem dX8_worked_51 : decode cX8_worked 51 = .ok (.imul, 1) := by decide +kernel
theorem dX8_worked_52 : decode cX8_worked 52 = .ok (.iadd, 1) := by decide +kernel
theorem dX8_worked_53 : decode cX8_worked 53 = .ok (.iconst 1, 1) := by decide +kernel
theorem dX8_worked_54 : decode cX8_worked 54 = .ok (.iadd, 1) := by decide +kernel
theorem dX8_worked_55 : decode cX8_worked 55 = .ok (.iaload, 1) := by decide +kernel
theorem dX8_worked_56 : decode cX8_worked 56 = .ok (.istore 5, 2) := by decide +kernel
theorem dX8_worked_58 : decode cX8_worked 58 = .ok (.iload 4, 2) := by decide +kernel
theorem dX8_worked_60 : decode cX8_worked 60 = .ok (.iconst 2, 1) := by decide +kernel
theorem dX8_worked_61 : decode cX8_worked 61 = .ok (.if_icmp .eq 32, 3) := by decide +kernel
theorem dX8_worked_64 : decode cX8_worked 64 = .ok (.aload_n 0, 1) := by decide +kernel
theorem dX8_worked_65 : decode cX8_worked 65 = .ok (.getfield 52, 3) := by decide +kernel
theorem dX8_worked_68 : decode cX8_worked 68 = .ok (.iload_n 2, 1) := by decide +kernel
theorem dX8_worked_69 : decode cX8_worked 69 = .ok (.iload 4, 2) := by decide +kernel
theorem dX8_worked_71 : decode cX8_worked 71 = .ok (.ifCond .ne 8, 3) := by decide +kernel
theorem dX8_worked_74 : decode cX8_worked 74 = .ok (.iload 5, 2) := by decide +kernel
theorem dX8_worked_76 : decode cX8_worked 76 = .ok (.goto 10, 3) := by decide +kernel
theorem dX8_worked_79 : decode cX8_worked 79 = .ok (.aload_n 0, 1) := by decide +kernel
theorem dX8_worked_80 : decode cX8_worked 80 = .ok (.getfield 49, 3) := by decide +kernel
theorem dX8_worked_83 : decode cX8_worked 83 = .ok (.iload 5, 2) := by decide +kernel
theorem dX8_worked_85 : decode cX8_worked 85 = .ok (.iaload, 1) := by decide +kernel
theorem dX8_worked_86 : decode cX8_worked 86 = .ok (.iastore, 1) := by decide +kernel
theorem dX8_worked_87 : decode cX8_worked 87 = .ok (.iinc 2 1, 3) := by decide +kernel
theorem dX8_worked_90 : decode cX8_worked 90 = .ok (.goto 67, 3) := by decide +kernel
theorem dX8_worked_93 : decode cX8_worked 93 = .ok (.iload 5, 2) := by decide +kernel
theorem dX8_worked_95 : decode cX8_worked 95 = .ok (.bipush 33, 2) := by decide +kernel
theorem dX8_worked_97 : decode cX8_worked 97 = .ok (.if_icmp .ne 30, 3) := by decide +kernel
theorem dX8_worked_100 : decode cX8_worked 100 = .ok (.aload_n 0, 1) := by decide +kernel
theorem dX8_worked_101 : decode cX8_worked 101 = .ok (.getfield 52, 3) := by decide +kernel
theorem dX8_worked_104 : decode cX8_worked 104 = .ok (.iload_n 2, 1) := by decide +kernel
theorem dX8_worked_105 : decode cX8_worked 105 = .ok (.iconst 1, 1) := by decide +kernel
theorem dX8_worked_106 : decode cX8_worked 106 = .ok (.isub, 1) := by decide +kernel
theorem dX8_worked_107 : decode cX8_worked 107 = .ok (.aload_n 0, 1) := by decide +kernel
theorem dX8_worked_108 : decode cX8_worked 108 = .ok (.getfield 52, 3) := by decide +kernel
theorem dX8_worked_111 : decode cX8_worked 111 = .ok (.iload_n 2, 1) := by decide +kernel
theorem dX8_worked_112 : decode cX8_worked 112 = .ok (.iconst 1, 1) := by decide +kernel
theorem dX8_worked_113 : decode cX8_worked 113 = .ok (.isub, 1) := by decide +kernel
theorem dX8_worked_114 : decode cX8_worked 114 = .ok (.iaload, 1) := by decide +kernel
theorem dX8_worked_115 : decode cX8_worked 115 = .ok (.ifCond .ne 7, 3) := by decide +kernel
theorem dX8_worked_118 : decode cX8_worked 118 = .ok (.iconst 1, 1) := by decide +kernel
theorem dX8_worked_119 : decode cX8_worked 119 = .ok (.goto 4, 3) := by decide +kernel
theorem dX8_worked_122 : decode cX8_worked 122 = .ok (.iconst 0, 1) := by decide +kernel
theorem dX8_worked_123 : decode cX8_worked 123 = .ok (.iastore, 1) := by decide +kernel
theorem dX8_worked_124 : decode cX8_worked 124 = .ok (.goto 33, 3) := by decide +kernel
theorem dX8_worked_127 : decode cX8_worked 127 = .ok (.iinc 2 (-1), 3) := by decide +kernel
theorem dX8_worked_130 : decode cX8_worked 130 = .ok (.aload_n 0, 1) := by decide +kernel
theorem dX8_worked_131 : decode cX8_worked 131 = .ok (.getfield 52, 3) := by decide +kernel
theorem dX8_worked_134 : decode cX8_worked 134 = .ok (.iload_n 2, 1) := by decide +kernel
theorem dX8_worked_135 : decode cX8_worked 135 = .ok (.iconst 1, 1) := by decide +kernel
theorem dX8_worked_136 : decode cX8_worked 136 = .ok (.isub, 1) := by decide +kernel
theorem dX8_worked_137 : decode cX8_worked 137 = .ok (.iload 5, 2) := by decide +kernel
theorem dX8_worked_139 : decode cX8_worked 139 = .ok (.aload_n 0, 1) := by decide +kernel
theorem dX8_worked_140 : decode cX8_worked 140 = .ok (.getfield 52, 3) := by decide +kernel
theorem dX8_worked_143 : decode cX8_worked 143 = .ok (.iload_n 2, 1) := by decide +kernel
theorem dX8_worked_144 : decode cX8_worked 144 = .ok (.iconst 1, 1) := by decide +kernel
theorem dX8_worked_145 : decode cX8_worked 145 = .ok (.isub, 1) := by decide +kernel
theorem dX8_worked_146 : decode cX8_worked 146 = .ok (.iaload, 1) := by decide +kernel
theorem dX8_worked_147 : decode cX8_worked 147 = .ok (.aload_n 0, 1) := by decide +kernel
theorem dX8_worked_148 : decode cX8_worked 148 = .ok (.getfield 52, 3) := by decide +kernel
theorem dX8_worked_151 : decode cX8_worked 151 = .ok (.iload_n 2, 1) := by decide +kernel
theorem dX8_worked_152 : decode cX8_worked 152 = .ok (.iaload, 1) := by decide +kernel
theorem dX8_worked_153 : decode cX8_worked 153 = .ok (.invokestatic 302, 3) := by decide +kernel
theorem dX8_worked_156 : decode cX8_worked 156 = .ok (.iastore, 1) := by decide +kernel
theorem dX8_worked_157 : decode cX8_worked 157 = .ok (.iinc 3 1, 3) := by decide +kernel
theorem dX8_worked_160 : decode cX8_worked 160 = .ok (.goto (-156), 3) := by decide +kernel
theorem dX8_worked_163 : decode cX8_worked 163 = .ok (.aload_n 0, 1) := by decide +kernel
theorem dX8_worked_164 : decode cX8_worked 164 = .ok (.getfield 52, 3) := by decide +kernel
theorem dX8_worked_167 : decode cX8_worked 167 = .ok (.iconst 0, 1) := by decide +kernel
theorem dX8_worked_168 : decode cX8_worked 168 = .ok (.iaload, 1) := by decide +kernel
theorem dX8_worked_169 : decode cX8_worked 169 = .ok (.ireturn, 1) := by decide +kernel
theorem dX8_isSheet_0 : decode cX8_isSheet 0 = .ok (.iload_n 0, 1) := by decide +kernel
theorem dX8_isSheet_1 : decode cX8_isSheet 1 = .ok (.i2l, 1) := by decide +kernel
theorem dX8_isSheet_2 : decode cX8_isSheet 2 = .ok (.lconst 0, 1) := by decide +kernel
theorem dX8_isSheet_3 : decode cX8_isSheet 3 = .ok (.ldc2_w 142, 3) := by decide +kernel
theorem dX8_isSheet_6 : decode cX8_isSheet 6 = .ok (.invokestatic 65, 3) := by decide +kernel
theorem dX8_isSheet_9 : decode cX8_isSheet 9 = .ok (.ireturn, 1) := by decide +kernel
theorem dX8_sheet_0 : decode cX8_sheet 0 = .ok (.iload_n 1, 1) := by decide +kernel
theorem dX8_sheet_1 : decode cX8_sheet 1 = .ok (.invokestatic 306, 3) := by decide +kernel
theorem dX8_sheet_4 : decode cX8_sheet 4 = .ok (.ifCond .eq 25, 3) := by decide +kernel
theorem dX8_sheet_7 : decode cX8_sheet 7 = .ok (.iload_n 2, 1) := by decide +kernel
theorem dX8_sheet_8 : decode cX8_sheet 8 = .ok (.i2l, 1) := by decide +kernel
theorem dX8_sheet_9 : decode cX8_sheet 9 = .ok (.ldc2_w 309, 3) := by decide +kernel
theorem dX8_sheet_12 : decode cX8_sheet 12 = .ok (.lconst 1, 1) := by decide +kernel
theorem dX8_sheet_13 : decode cX8_sheet 13 = .ok (.invokestatic 65, 3) := by decide +kernel
theorem dX8_sheet_16 : decode cX8_sheet 16 = .ok (.ifCond .eq 13, 3) := by decide +kernel
theorem dX8_sheet_19 : decode cX8_sheet 19 = .ok (.iload_n 2, 1) := by decide +kernel
theorem dX8_sheet_20 : decode cX8_sheet 20 = .ok (.ifCond .lt 12, 3) := by decide +kernel
theorem dX8_sheet_23 : decode cX8_sheet 23 = .ok (.iload_n 3, 1) := by decide +kernel
theorem dX8_sheet_24 : decode cX8_sheet 24 = .ok (.bipush 24, 2) := by decide +kernel
theorem dX8_sheet_26 : decode cX8_sheet 26 = .ok (.if_icmp .le 6, 3) := by decide +kernel
theorem dX8_sheet_29 : decode cX8_sheet 29 = .ok (.ldc 88, 2) := by decide +kernel
theorem dX8_sheet_31 : decode cX8_sheet 31 = .ok (.ireturn, 1) := by decide +kernel
theorem dX8_sheet_32 : decode cX8_sheet 32 = .ok (.iload_n 2, 1) := by decide +kernel
theorem dX8_sheet_33 : decode cX8_sheet 33 = .ok (.ifCond .lt 11, 3) := by decide +kernel
theorem dX8_sheet_36 : decode cX8_sheet 36 = .ok (.iload_n 3, 1) := by decide +kernel
theorem dX8_sheet_37 : decode cX8_sheet 37 = .ok (.ifCond .ge 7, 3) := by decide +kernel
theorem dX8_sheet_40 : decode cX8_sheet 40 = .ok (.ldc_w 311, 3) := by decide +kernel
theorem dX8_sheet_43 : decode cX8_sheet 43 = .ok (.ireturn, 1) := by decide +kernel
theorem dX8_sheet_44 : decode cX8_sheet 44 = .ok (.aload_n 0, 1) := by decide +kernel
theorem dX8_sheet_45 : decode cX8_sheet 45 = .ok (.getfield 19, 3) := by decide +kernel
theorem dX8_sheet_48 : decode cX8_sheet 48 = .ok (.iload_n 1, 1) := by decide +kernel
theorem dX8_sheet_49 : decode cX8_sheet 49 = .ok (.iload_n 2, 1) := by decide +kernel
theorem dX8_sheet_50 : decode cX8_sheet 50 = .ok (.iastore, 1) := by decide +kernel
theorem dX8_sheet_51 : decode cX8_sheet 51 = .ok (.aload_n 0, 1) := by decide +kernel
theorem dX8_sheet_52 : decode cX8_sheet 52 = .ok (.getfield 22, 3) := by decide +kernel
theorem dX8_sheet_55 : decode cX8_sheet 55 = .ok (.iload_n 1, 1) := by decide +kernel
theorem dX8_sheet_56 : decode cX8_sheet 56 = .ok (.iload_n 2, 1) := by decide +kernel
theorem dX8_sheet_57 : decode cX8_sheet 57 = .ok (.ifCond .ge 7, 3) := by decide +kernel
theorem dX8_sheet_60 : decode cX8_sheet 60 = .ok (.iconst 0, 1) := by decide +kernel
theorem dX8_sheet_61 : decode cX8_sheet 61 = .ok (.goto 4, 3) := by decide +kernel
theorem dX8_sheet_64 : decode cX8_sheet 64 = .ok (.iload_n 3, 1) := by decide +kernel
theorem dX8_sheet_65 : decode cX8_sheet 65 = .ok (.iastore, 1) := by decide +kernel
theorem dX8_sheet_66 : decode cX8_sheet 66 = .ok (.iconst 0, 1) := by decide +kernel
theorem dX8_sheet_67 : decode cX8_sheet 67 = .ok (.istore 4, 2) := by decide +kernel
theorem dX8_sheet_69 : decode cX8_sheet 69 = .ok (.iload 4, 2) := by decide +kernel
theorem dX8_sheet_71 : decode cX8_sheet 71 = .ok (.bipush 24, 2) := by decide +kernel
theorem dX8_sheet_73 : decode cX8_sheet 73 = .ok (.if_icmp .ge 22, 3) := by decide +kernel
theorem dX8_sheet_76 : decode cX8_sheet 76 = .ok (.aload_n 0, 1) := by decide +kernel
theorem dX8_sheet_77 : decode cX8_sheet 77 = .ok (.getfield 25, 3) := by decide +kernel
theorem dX8_sheet_80 : decode cX8_sheet 80 = .ok (.bipush 24, 2) := by decide +kernel
theorem dX8_sheet_82 : decode cX8_sheet 82 = .ok (.iload_n 1, 1) := by decide +kernel
theorem dX8_sheet_83 : decode cX8_sheet 83 = .ok (.imul, 1) := by decide +kernel
theorem dX8_sheet_84 : decode cX8_sheet 84 = .ok (.iload 4, 2) := by decide +kernel
theorem dX8_sheet_86 : decode cX8_sheet 86 = .ok (.iadd, 1) := by decide +kernel
theorem dX8_sheet_87 : decode cX8_sheet 87 = .ok (.iconst 0, 1) := by decide +kernel
theorem dX8_sheet_88 : decode cX8_sheet 88 = .ok (.iastore, 1) := by decide +kernel
theorem dX8_sheet_89 : decode cX8_sheet 89 = .ok (.iinc 4 1, 3) := by decide +kernel
theorem dX8_sheet_92 : decode cX8_sheet 92 = .ok (.goto (-23), 3) := by decide +kernel
theorem dX8_sheet_95 : decode cX8_sheet 95 = .ok (.aload_n 0, 1) := by decide +kernel
theorem dX8_sheet_96 : decode cX8_sheet 96 = .ok (.getfield 22, 3) := by decide +kernel
theorem dX8_sheet_99 : decode cX8_sheet 99 = .ok (.iload_n 1, 1) := by decide +kernel
theorem dX8_sheet_100 : decode cX8_sheet 100 = .ok (.iaload, 1) := by decide +kernel
theorem dX8_sheet_101 : decode cX8_sheet 101 = .ok (.ireturn, 1) := by decide +kernel
theorem dX8_mark_0 : decode cX8_mark 0 = .ok (.iload_n 1, 1) := by decide +kernel
theorem dX8_mark_1 : decode cX8_mark 1 = .ok (.invokestatic 306, 3) := by decide +kernel
theorem dX8_mark_4 : decode cX8_mark 4 = .ok (.ifCond .ne 6, 3) := by decide +kernel
theorem dX8_mark_7 : decode cX8_mark 7 = .ok (.ldc 88, 2) := by decide +kernel
theorem dX8_mark_9 : decode cX8_mark 9 = .ok (.ireturn, 1) := by decide +kernel
theorem dX8_mark_10 : decode cX8_mark 10 = .ok (.aload_n 0, 1) := by decide +kernel
theorem dX8_mark_11 : decode cX8_mark 11 = .ok (.getfield 19, 3) := by decide +kernel
theorem dX8_mark_14 : decode cX8_mark 14 = .ok (.iload_n 1, 1) := by decide +kernel
theorem dX8_mark_15 : decode cX8_mark 15 = .ok (.iaload, 1) := by decide +kernel
theorem dX8_mark_16 : decode cX8_mark 16 = .ok (.ifCond .ge 7, 3) := by decide +kernel
theorem dX8_mark_19 : decode cX8_mark 19 = .ok (.ldc_w 312, 3) := by decide +kernel
theorem dX8_mark_22 : decode cX8_mark 22 = .ok (.ireturn, 1) := by decide +kernel
theorem dX8_mark_23 : decode cX8_mark 23 = .ok (.iload_n 2, 1) := by decide +kernel
theorem dX8_mark_24 : decode cX8_mark 24 = .ok (.i2l, 1) := by decide +kernel
theorem dX8_mark_25 : decode cX8_mark 25 = .ok (.lconst 0, 1) := by decide +kernel
theorem dX8_mark_26 : decode cX8_mark 26 = .ok (.aload_n 0, 1) := by decide +kernel
theorem dX8_mark_27 : decode cX8_mark 27 = .ok (.getfield 22, 3) := by decide +kernel
theorem dX8_mark_30 : decode cX8_mark 30 = .ok (.iload_n 1, 1) := by decide +kernel
theorem dX8_mark_31 : decode cX8_mark 31 = .ok (.iaload, 1) := by decide +kernel
theorem dX8_mark_32 : decode cX8_mark 32 = .ok (.iconst 1, 1) := by decide +kernel
theorem dX8_mark_33 : decode cX8_mark 33 = .ok (.isub, 1) := by decide +kernel
theorem dX8_mark_34 : decode cX8_mark 34 = .ok (.i2l, 1) := by decide +kernel
theorem dX8_mark_35 : decode cX8_mark 35 = .ok (.invokestatic 65, 3) := by decide +kernel
theorem dX8_mark_38 : decode cX8_mark 38 = .ok (.ifCond .ne 7, 3) := by decide +kernel
theorem dX8_mark_41 : decode cX8_mark 41 = .ok (.ldc_w 313, 3) := by decide +kernel
theorem dX8_mark_44 : decode cX8_mark 44 = .ok (.ireturn, 1) := by decide +kernel
theorem dX8_mark_45 : decode cX8_mark 45 = .ok (.aload_n 0, 1) := by decide +kernel
theorem dX8_mark_46 : decode cX8_mark 46 = .ok (.getfield 19, 3) := by decide +kernel
theorem dX8_mark_49 : decode cX8_mark 49 = .ok (.iload_n 1, 1) := by decide +kernel
theorem dX8_mark_50 : decode cX8_mark 50 = .ok (.iaload, 1) := by decide +kernel
theorem dX8_mark_51 : decode cX8_mark 51 = .ok (.ifCond .ne 12, 3) := by decide +kernel
theorem dX8_mark_54 : decode cX8_mark 54 = .ok (.iload_n 3, 1) := by decide +kernel
theorem dX8_mark_55 : decode cX8_mark 55 = .ok (.ldc 64, 2) := by decide +kernel
theorem dX8_mark_57 : decode cX8_mark 57 = .ok (.if_icmp .ne 6, 3) := by decide +kernel
theorem dX8_mark_60 : decode cX8_mark 60 = .ok (.ldc 131, 2) := by decide +kernel
theorem dX8_mark_62 : decode cX8_mark 62 = .ok (.ireturn, 1) := by decide +kernel
theorem dX8_mark_63 : decode cX8_mark 63 = .ok (.aload_n 0, 1) := by decide +kernel
theorem dX8_mark_64 : decode cX8_mark 64 = .ok (.getfield 19, 3) := by decide +kernel
theorem dX8_mark_67 : decode cX8_mark 67 = .ok (.iload_n 1, 1) := by decide +kernel
theorem dX8_mark_68 : decode cX8_mark 68 = .ok (.iaload, 1) := by decide +kernel
theorem dX8_mark_69 : decode cX8_mark 69 = .ok (.iconst 1, 1) := by decide +kernel
theorem dX8_mark_70 : decode cX8_mark 70 = .ok (.if_icmp .ne 26, 3) := by decide +kernel
theorem dX8_mark_73 : decode cX8_mark 73 = .ok (.iload_n 3, 1) := by decide +kernel
theorem dX8_mark_74 : decode cX8_mark 74 = .ok (.ldc 64, 2) := by decide +kernel
theorem dX8_mark_76 : decode cX8_mark 76 = .ok (.if_icmp .eq 20, 3) := by decide +kernel
theorem dX8_mark_79 : decode cX8_mark 79 = .ok (.iload_n 3, 1) := by decide +kernel
theorem dX8_mark_80 : decode cX8_mark 80 = .ok (.i2l, 1) := by decide +kernel
theorem dX8_mark_81 : decode cX8_mark 81 = .ok (.ldc2_w 314, 3) := by decide +kernel
theorem dX8_mark_84 : decode cX8_mark 84 = .ok (.ldc2_w 316, 3) := by decide +kernel
theorem dX8_mark_87 : decode cX8_mark 87 = .ok (.invokestatic 65, 3) := by decide +kernel
theorem dX8_mark_90 : decode cX8_mark 90 = .ok (.ifCond .ne 6, 3) := by decide +kernel
theorem dX8_mark_93 : decode cX8_mark 93 = .ok (.ldc 88, 2) := by decide +kernel
theorem dX8_mark_95 : decode cX8_mark 95 = .ok (.ireturn, 1) := by decide +kernel
theorem dX8_mark_96 : decode cX8_mark 96 = .ok (.aload_n 0, 1) := by decide +kernel
theorem dX8_mark_97 : decode cX8_mark 97 = .ok (.getfield 25, 3) := by decide +kernel
theorem dX8_mark_100 : decode cX8_mark 100 = .ok (.bipush 24, 2) := by decide +kernel
theorem dX8_mark_102 : decode cX8_mark 102 = .ok (.iload_n 1, 1) := by decide +kernel
theorem dX8_mark_103 : decode cX8_mark 103 = .ok (.imul, 1) := by decide +kernel
theorem dX8_mark_104 : decode cX8_mark 104 = .ok (.iload_n 2, 1) := by decide +kernel
theorem dX8_mark_105 : decode cX8_mark 105 = .ok (.iadd, 1) := by decide +kernel
theorem dX8_mark_106 : decode cX8_mark 106 = .ok (.aload_n 0, 1) := by decide +kernel
theorem dX8_mark_107 : decode cX8_mark 107 = .ok (.getfield 19, 3) := by decide +kernel
theorem dX8_mark_110 : decode cX8_mark 110 = .ok (.iload_n 1, 1) := by decide +kernel
theorem dX8_mark_111 : decode cX8_mark 111 = .ok (.iaload, 1) := by decide +kernel
theorem dX8_mark_112 : decode cX8_mark 112 = .ok (.ifCond .ne 13, 3) := by decide +kernel
theorem dX8_mark_115 : decode cX8_mark 115 = .ok (.iload_n 3, 1) := by decide +kernel
theorem dX8_mark_116 : decode cX8_mark 116 = .ok (.bipush 16, 2) := by decide +kernel
theorem dX8_mark_118 : decode cX8_mark 118 = .ok (.ishl, 1) := by decide +kernel
theorem dX8_mark_119 : decode cX8_mark 119 = .ok (.bipush 16, 2) := by decide +kernel
theorem dX8_mark_121 : decode cX8_mark 121 = .ok (.ishr, 1) := by decide +kernel
theorem dX8_mark_122 : decode cX8_mark 122 = .ok (.goto 4, 3) := by decide +kernel
theorem dX8_mark_125 : decode cX8_mark 125 = .ok (.iload_n 3, 1) := by decide +kernel
theorem dX8_mark_126 : decode cX8_mark 126 = .ok (.iastore, 1) := by decide +kernel
theorem dX8_mark_127 : decode cX8_mark 127 = .ok (.iconst 1, 1) := by decide +kernel
theorem dX8_mark_128 : decode cX8_mark 128 = .ok (.ireturn, 1) := by decide +kernel
theorem dX8_pour_0 : decode cX8_pour 0 = .ok (.iload_n 1, 1) := by decide +kernel
theorem dX8_pour_1 : decode cX8_pour 1 = .ok (.invokestatic 306, 3) := by decide +kernel
theorem dX8_pour_4 : decode cX8_pour 4 = .ok (.ifCond .ne 6, 3) := by decide +kernel
theorem dX8_pour_7 : decode cX8_pour 7 = .ok (.ldc 88, 2) := by decide +kernel
theorem dX8_pour_9 : decode cX8_pour 9 = .ok (.ireturn, 1) := by decide +kernel
theorem dX8_pour_10 : decode cX8_pour 10 = .ok (.aload_n 0, 1) := by decide +kernel
theorem dX8_pour_11 : decode cX8_pour 11 = .ok (.getfield 19, 3) := by decide +kernel
theorem dX8_pour_14 : decode cX8_pour 14 = .ok (.iload_n 1, 1) := by decide +kernel
theorem dX8_pour_15 : decode cX8_pour 15 = .ok (.iaload, 1) := by decide +kernel
theorem dX8_pour_16 : decode cX8_pour 16 = .ok (.ifCond .ge 7, 3) := by decide +kernel
theorem dX8_pour_19 : decode cX8_pour 19 = .ok (.ldc_w 312, 3) := by decide +kernel
theorem dX8_pour_22 : decode cX8_pour 22 = .ok (.ireturn, 1) := by decide +kernel
theorem dX8_pour_23 : decode cX8_pour 23 = .ok (.iconst 0, 1) := by decide +kernel
theorem dX8_pour_24 : decode cX8_pour 24 = .ok (.istore_n 2, 1) := by decide +kernel
theorem dX8_pour_25 : decode cX8_pour 25 = .ok (.iconst 0, 1) := by decide +kernel
theorem dX8_pour_26 : decode cX8_pour 26 = .ok (.istore_n 3, 1) := by decide +kernel
theorem dX8_pour_27 : decode cX8_pour 27 = .ok (.iload_n 3, 1) := by decide +kernel
theorem dX8_pour_28 : decode cX8_pour 28 = .ok (.aload_n 0, 1) := by decide +kernel
theorem dX8_pour_29 : decode cX8_pour 29 = .ok (.getfield 22, 3) := by decide +kernel
theorem dX8_pour_32 : decode cX8_pour 32 = .ok (.iload_n 1, 1) := by decide +kernel
theorem dX8_pour_33 : decode cX8_pour 33 = .ok (.iaload, 1) := by decide +kernel
theorem dX8_pour_34 : decode cX8_pour 34 = .ok (.if_icmp .ge 91, 3) := by decide +kernel
theorem dX8_pour_37 : decode cX8_pour 37 = .ok (.iload_n 3, 1) := by decide +kernel
theorem dX8_pour_38 : decode cX8_pour 38 = .ok (.aload_n 0, 1) := by decide +kernel
theorem dX8_pour_39 : decode cX8_pour 39 = .ok (.getfield 7, 3) := by decide +kernel
theorem dX8_pour_42 : decode cX8_pour 42 = .ok (.iconst 0, 1) := by decide +kernel
theorem dX8_pour_43 : decode cX8_pour 43 = .ok (.iaload, 1) := by decide +kernel
theorem dX8_pour_44 : decode cX8_pour 44 = .ok (.if_icmp .ge 81, 3) := by decide +kernel
theorem dX8_pour_47 : decode cX8_pour 47 = .ok (.aload_n 0, 1) := by decide +kernel
theorem dX8_pour_48 : decode cX8_pour 48 = .ok (.getfield 25, 3) := by decide +kernel
theorem dX8_pour_51 : decode cX8_pour 51 = .ok (.bipush 24, 2) := by decide +kernel
theorem dX8_pour_53 : decode cX8_pour 53 = .ok (.iload_n 1, 1) := by decide +kernel
theorem dX8_pour_54 : decode cX8_pour 54 = .ok (.imul, 1) := by decide +kernel
theorem dX8_pour_55 : decode cX8_pour 55 = .ok (.iload_n 3, 1) := by decide +kernel
theorem dX8_pour_56 : decode cX8_pour 56 = .ok (.iadd, 1) := by decide +kernel
theorem dX8_pour_57 : decode cX8_pour 57 = .ok (.iaload, 1) := by decide +kernel
theorem dX8_pour_58 : decode cX8_pour 58 = .ok (.istore 4, 2) := by decide +kernel
theorem dX8_pour_60 : decode cX8_pour 60 = .ok (.iload 4, 2) := by decide +kernel
theorem dX8_pour_62 : decode cX8_pour 62 = .ok (.ldc 64, 2) := by decide +kernel
theorem dX8_pour_64 : decode cX8_pour 64 = .ok (.if_icmp .ne 19, 3) := by decide +kernel
theorem dX8_pour_67 : decode cX8_pour 67 = .ok (.aload_n 0, 1) := by decide +kernel
theorem dX8_pour_68 : decode cX8_pour 68 = .ok (.getfield 7, 3) := by decide +kernel
theorem dX8_pour_71 : decode cX8_pour 71 = .ok (.bipush 12, 2) := by decide +kernel
theorem dX8_pour_73 : decode cX8_pour 73 = .ok (.iconst 5, 1) := by decide +kernel
theorem dX8_pour_74 : decode cX8_pour 74 = .ok (.iload_n 3, 1) := by decide +kernel
theorem dX8_pour_75 : decode cX8_pour 75 = .ok (.imul, 1) := by decide +kernel
theorem dX8_pour_76 : decode cX8_pour 76 = .ok (.iadd, 1) := by decide +kernel
theorem dX8_pour_77 : decode cX8_pour 77 = .ok (.iconst 2, 1) := by decide +kernel
theorem dX8_pour_78 : decode cX8_pour 78 = .ok (.iadd, 1) := by decide +kernel
theorem dX8_pour_79 : decode cX8_pour 79 = .ok (.iaload, 1) := by decide +kernel
theorem dX8_pour_80 : decode cX8_pour 80 = .ok (.goto 10, 3) := by decide +kernel
theorem dX8_pour_83 : decode cX8_pour 83 = .ok (.iload 4, 2) := by decide +kernel
theorem dX8_pour_85 : decode cX8_pour 85 = .ok (.bipush 99, 2) := by decide +kernel
theorem dX8_pour_87 : decode cX8_pour 87 = .ok (.invokestatic 104, 3) := by decide +kernel
theorem dX8_pour_90 : decode cX8_pour 90 = .ok (.istore 5, 2) := by decide +kernel
theorem dX8_pour_92 : decode cX8_pour 92 = .ok (.iload_n 2, 1) := by decide +kernel
theorem dX8_pour_93 : decode cX8_pour 93 = .ok (.iload 5, 2) := by decide +kernel
theorem dX8_pour_95 : decode cX8_pour 95 = .ok (.aload_n 0, 1) := by decide +kernel
theorem dX8_pour_96 : decode cX8_pour 96 = .ok (.bipush 12, 2) := by decide +kernel
theorem dX8_pour_98 : decode cX8_pour 98 = .ok (.iconst 5, 1) := by decide +kernel
theorem dX8_pour_99 : decode cX8_pour 99 = .ok (.iload_n 3, 1) := by decide +kernel
theorem dX8_pour_100 : decode cX8_pour 100 = .ok (.imul, 1) := by decide +kernel
theorem dX8_pour_101 : decode cX8_pour 101 = .ok (.iadd, 1) := by decide +kernel
theorem dX8_pour_102 : decode cX8_pour 102 = .ok (.iconst 2, 1) := by decide +kernel
theorem dX8_pour_103 : decode cX8_pour 103 = .ok (.iadd, 1) := by decide +kernel
theorem dX8_pour_104 : decode cX8_pour 104 = .ok (.iload 5, 2) := by decide +kernel
theorem dX8_pour_106 : decode cX8_pour 106 = .ok (.invokevirtual 132, 3) := by decide +kernel
theorem dX8_pour_109 : decode cX8_pour 109 = .ok (.if_icmp .ne 7, 3) := by decide +kernel
theorem dX8_pour_112 : decode cX8_pour 112 = .ok (.iconst 0, 1) := by decide +kernel
theorem dX8_pour_113 : decode cX8_pour 113 = .ok (.goto 4, 3) := by decide +kernel
theorem dX8_pour_116 : decode cX8_pour 116 = .ok (.iconst 1, 1) := by decide +kernel
theorem dX8_pour_117 : decode cX8_pour 117 = .ok (.iadd, 1) := by decide +kernel
theorem dX8_pour_118 : decode cX8_pour 118 = .ok (.istore_n 2, 1) := by decide +kernel
theorem dX8_pour_119 : decode cX8_pour 119 = .ok (.iinc 3 1, 3) := by decide +kernel
theorem dX8_pour_122 : decode cX8_pour 122 = .ok (.goto (-95), 3) := by decide +kernel
theorem dX8_pour_125 : decode cX8_pour 125 = .ok (.iload_n 2, 1) := by decide +kernel
theorem dX8_pour_126 : decode cX8_pour 126 = .ok (.ireturn, 1) := by decide +kernel
theorem dX8_reads_0 : decode cX8_reads 0 = .ok (.iload_n 1, 1) := by decide +kernel
theorem dX8_reads_1 : decode cX8_reads 1 = .ok (.invokestatic 306, 3) := by decide +kernel
theorem dX8_reads_4 : decode cX8_reads 4 = .ok (.ifCond .ne 6, 3) := by decide +kernel
theorem dX8_reads_7 : decode cX8_reads 7 = .ok (.ldc 88, 2) := by decide +kernel
theorem dX8_reads_9 : decode cX8_reads 9 = .ok (.ireturn, 1) := by decide +kernel
theorem dX8_reads_10 : decode cX8_reads 10 = .ok (.aload_n 0, 1) := by decide +kernel
theorem dX8_reads_11 : decode cX8_reads 11 = .ok (.getfield 19, 3) := by decide +kernel
theorem dX8_reads_14 : decode cX8_reads 14 = .ok (.iload_n 1, 1) := by decide +kernel
theorem dX8_reads_15 : decode cX8_reads 15 = .ok (.iaload, 1) := by decide +kernel
theorem dX8_reads_16 : decode cX8_reads 16 = .ok (.ifCond .ge 7, 3) := by decide +kernel
theorem dX8_reads_19 : decode cX8_reads 19 = .ok (.ldc_w 312, 3) := by decide +kernel
theorem dX8_reads_22 : decode cX8_reads 22 = .ok (.ireturn, 1) := by decide +kernel
theorem dX8_reads_23 : decode cX8_reads 23 = .ok (.iconst 0, 1) := by decide +kernel
theorem dX8_reads_24 : decode cX8_reads 24 = .ok (.istore_n 2, 1) := by decide +kernel
theorem dX8_reads_25 : decode cX8_reads 25 = .ok (.iload_n 2, 1) := by decide +kernel
theorem dX8_reads_26 : decode cX8_reads 26 = .ok (.aload_n 0, 1) := by decide +kernel
theorem dX8_reads_27 : decode cX8_reads 27 = .ok (.getfield 22, 3) := by decide +kernel
theorem dX8_reads_30 : decode cX8_reads 30 = .ok (.iload_n 1, 1) := by decide +kernel
theorem dX8_reads_31 : decode cX8_reads 31 = .ok (.iaload, 1) := by decide +kernel
theorem dX8_reads_32 : decode cX8_reads 32 = .ok (.if_icmp .ge 49, 3) := by decide +kernel
theorem dX8_reads_35 : decode cX8_reads 35 = .ok (.aload_n 0, 1) := by decide +kernel
theorem dX8_reads_36 : decode cX8_reads 36 = .ok (.getfield 25, 3) := by decide +kernel
theorem dX8_reads_39 : decode cX8_reads 39 = .ok (.bipush 24, 2) := by decide +kernel
theorem dX8_reads_41 : decode cX8_reads 41 = .ok (.iload_n 1, 1) := by decide +kernel
theorem dX8_reads_42 : decode cX8_reads 42 = .ok (.imul, 1) := by decide +kernel
theorem dX8_reads_43 : decode cX8_reads 43 = .ok (.iload_n 2, 1) := by decide +kernel
theorem dX8_reads_44 : decode cX8_reads 44 = .ok (.iadd, 1) := by decide +kernel
theorem dX8_reads_45 : decode cX8_reads 45 = .ok (.iaload, 1) := by decide +kernel
theorem dX8_reads_46 : decode cX8_reads 46 = .ok (.istore_n 3, 1) := by decide +kernel
theorem dX8_reads_47 : decode cX8_reads 47 = .ok (.iload_n 3, 1) := by decide +kernel
theorem dX8_reads_48 : decode cX8_reads 48 = .ok (.ldc 64, 2) := by decide +kernel
theorem dX8_reads_50 : decode cX8_reads 50 = .ok (.if_icmp .eq 25, 3) := by decide +kernel
theorem dX8_reads_53 : decode cX8_reads 53 = .ok (.iload_n 2, 1) := by decide +kernel
theorem dX8_reads_54 : decode cX8_reads 54 = .ok (.aload_n 0, 1) := by decide +kernel
theorem dX8_reads_55 : decode cX8_reads 55 = .ok (.getfield 7, 3) := by decide +kernel
theorem dX8_reads_58 : decode cX8_reads 58 = .ok (.iconst 0, 1) := by decide +kernel
theorem dX8_reads_59 : decode cX8_reads 59 = .ok (.iaload, 1) := by decide +kernel
theorem dX8_reads_60 : decode cX8_reads 60 = .ok (.if_icmp .ge 13, 3) := by decide +kernel
theorem dX8_reads_63 : decode cX8_reads 63 = .ok (.iload_n 3, 1) := by decide +kernel
theorem dX8_reads_64 : decode cX8_reads 64 = .ok (.aload_n 0, 1) := by decide +kernel
theorem dX8_reads_65 : decode cX8_reads 65 = .ok (.iload_n 2, 1) := by decide +kernel
theorem dX8_reads_66 : decode cX8_reads 66 = .ok (.iconst 1, 1) := by decide +kernel
theorem dX8_reads_67 : decode cX8_reads 67 = .ok (.invokevirtual 72, 3) := by decide +kernel
theorem dX8_reads_70 : decode cX8_reads 70 = .ok (.if_icmp .eq 5, 3) := by decide +kernel
theorem dX8_reads_73 : decode cX8_reads 73 = .ok (.iload_n 2, 1) := by decide +kernel
theorem dX8_reads_74 : decode cX8_reads 74 = .ok (.ireturn, 1) := by decide +kernel
theorem dX8_reads_75 : decode cX8_reads 75 = .ok (.iinc 2 1, 3) := by decide +kernel
theorem dX8_reads_78 : decode cX8_reads 78 = .ok (.goto (-53), 3) := by decide +kernel
theorem dX8_reads_81 : decode cX8_reads 81 = .ok (.ldc 64, 2) := by decide +kernel
theorem dX8_reads_83 : decode cX8_reads 83 = .ok (.ireturn, 1) := by decide +kernel
theorem dX8_offBy_0 : decode cX8_offBy 0 = .ok (.aload_n 0, 1) := by decide +kernel
theorem dX8_offBy_1 : decode cX8_offBy 1 = .ok (.invokevirtual 196, 3) := by decide +kernel
theorem dX8_offBy_4 : decode cX8_offBy 4 = .ok (.iconst 0, 1) := by decide +kernel
theorem dX8_offBy_5 : decode cX8_offBy 5 = .ok (.istore_n 3, 1) := by decide +kernel
theorem dX8_offBy_6 : decode cX8_offBy 6 = .ok (.iconst 0, 1) := by decide +kernel
theorem dX8_offBy_7 : decode cX8_offBy 7 = .ok (.istore 4, 2) := by decide +kernel
theorem dX8_offBy_9 : decode cX8_offBy 9 = .ok (.iload 4, 2) := by decide +kernel
theorem dX8_offBy_11 : decode cX8_offBy 11 = .ok (.aload_n 0, 1) := by decide +kernel
theorem dX8_offBy_12 : decode cX8_offBy 12 = .ok (.getfield 22, 3) := by decide +kernel
theorem dX8_offBy_15 : decode cX8_offBy 15 = .ok (.iload_n 1, 1) := by decide +kernel
theorem dX8_offBy_16 : decode cX8_offBy 16 = .ok (.iaload, 1) := by decide +kernel
theorem dX8_offBy_17 : decode cX8_offBy 17 = .ok (.if_icmp .ge 52, 3) := by decide +kernel
theorem dX8_offBy_20 : decode cX8_offBy 20 = .ok (.aload_n 0, 1) := by decide +kernel
theorem dX8_offBy_21 : decode cX8_offBy 21 = .ok (.getfield 25, 3) := by decide +kernel
theorem dX8_offBy_24 : decode cX8_offBy 24 = .ok (.bipush 24, 2) := by decide +kernel
theorem dX8_offBy_26 : decode cX8_offBy 26 = .ok (.iload_n 1, 1) := by decide +kernel
theorem dX8_offBy_27 : decode cX8_offBy 27 = .ok (.imul, 1) := by decide +kernel
theorem dX8_offBy_28 : decode cX8_offBy 28 = .ok (.iload 4, 2) := by decide +kernel
theorem dX8_offBy_30 : decode cX8_offBy 30 = .ok (.iadd, 1) := by decide +kernel
theorem dX8_offBy_31 : decode cX8_offBy 31 = .ok (.iaload, 1) := by decide +kernel
theorem dX8_offBy_32 : decode cX8_offBy 32 = .ok (.istore 5, 2) := by decide +kernel
theorem dX8_offBy_34 : decode cX8_offBy 34 = .ok (.iload_n 3, 1) := by decide +kernel
theorem dX8_offBy_35 : decode cX8_offBy 35 = .ok (.iload 5, 2) := by decide +kernel
theorem dX8_offBy_37 : decode cX8_offBy 37 = .ok (.ldc 64, 2) := by decide +kernel
theorem dX8_offBy_39 : decode cX8_offBy 39 = .ok (.if_icmp .ne 7, 3) := by decide +kernel
theorem dX8_offBy_42 : decode cX8_offBy 42 = .ok (.iconst 0, 1) := by decide +kernel
theorem dX8_offBy_43 : decode cX8_offBy 43 = .ok (.goto 14, 3) := by decide +kernel
theorem dX8_offBy_46 : decode cX8_offBy 46 = .ok (.iload 5, 2) := by decide +kernel
theorem dX8_offBy_48 : decode cX8_offBy 48 = .ok (.aload_n 0, 1) := by decide +kernel
theorem dX8_offBy_49 : decode cX8_offBy 49 = .ok (.iload_n 2, 1) := by decide +kernel
theorem dX8_offBy_50 : decode cX8_offBy 50 = .ok (.iconst 3, 1) := by decide +kernel
theorem dX8_offBy_51 : decode cX8_offBy 51 = .ok (.invokevirtual 72, 3) := by decide +kernel
theorem dX8_offBy_54 : decode cX8_offBy 54 = .ok (.invokestatic 154, 3) := by decide +kernel
theorem dX8_offBy_57 : decode cX8_offBy 57 = .ok (.iadd, 1) := by decide +kernel
theorem dX8_offBy_58 : decode cX8_offBy 58 = .ok (.istore_n 3, 1) := by decide +kernel
theorem dX8_offBy_59 : decode cX8_offBy 59 = .ok (.aload_n 0, 1) := by decide +kernel
theorem dX8_offBy_60 : decode cX8_offBy 60 = .ok (.invokevirtual 176, 3) := by decide +kernel
theorem dX8_offBy_63 : decode cX8_offBy 63 = .ok (.iinc 4 1, 3) := by decide +kernel
theorem dX8_offBy_66 : decode cX8_offBy 66 = .ok (.goto (-57), 3) := by decide +kernel
theorem dX8_offBy_69 : decode cX8_offBy 69 = .ok (.aload_n 0, 1) := by decide +kernel
theorem dX8_offBy_70 : decode cX8_offBy 70 = .ok (.invokevirtual 199, 3) := by decide +kernel
theorem dX8_offBy_73 : decode cX8_offBy 73 = .ok (.iload_n 3, 1) := by decide +kernel
theorem dX8_offBy_74 : decode cX8_offBy 74 = .ok (.ireturn, 1) := by decide +kernel
theorem dX8_like_0 : decode cX8_like 0 = .ok (.iload_n 1, 1) := by decide +kernel
theorem dX8_like_1 : decode cX8_like 1 = .ok (.invokestatic 306, 3) := by decide +kernel
theorem dX8_like_4 : decode cX8_like 4 = .ok (.ifCond .eq 13, 3) := by decide +kernel
theorem dX8_like_7 : decode cX8_like 7 = .ok (.iload_n 2, 1) := by decide +kernel
theorem dX8_like_8 : decode cX8_like 8 = .ok (.i2l, 1) := by decide +kernel
theorem dX8_like_9 : decode cX8_like 9 = .ok (.lconst 0, 1) := by decide +kernel
theorem dX8_like_10 : decode cX8_like 10 = .ok (.lconst 1, 1) := by decide +kernel
theorem dX8_like_11 : decode cX8_like 11 = .ok (.invokestatic 65, 3) := by decide +kernel
theorem dX8_like_14 : decode cX8_like 14 = .ok (.ifCond .ne 6, 3) := by decide +kernel
theorem dX8_like_17 : decode cX8_like 17 = .ok (.ldc 88, 2) := by decide +kernel
theorem dX8_like_19 : decode cX8_like 19 = .ok (.ireturn, 1) := by decide +kernel
theorem dX8_like_20 : decode cX8_like 20 = .ok (.aload_n 0, 1) := by decide +kernel
theorem dX8_like_21 : decode cX8_like 21 = .ok (.getfield 19, 3) := by decide +kernel
theorem dX8_like_24 : decode cX8_like 24 = .ok (.iload_n 1, 1) := by decide +kernel
theorem dX8_like_25 : decode cX8_like 25 = .ok (.iaload, 1) := by decide +kernel
theorem dX8_like_26 : decode cX8_like 26 = .ok (.ifCond .ge 7, 3) := by decide +kernel
theorem dX8_like_29 : decode cX8_like 29 = .ok (.ldc_w 312, 3) := by decide +kernel
theorem dX8_like_32 : decode cX8_like 32 = .ok (.ireturn, 1) := by decide +kernel
theorem dX8_like_33 : decode cX8_like 33 = .ok (.iconst (-1), 1) := by decide +kernel
theorem dX8_like_34 : decode cX8_like 34 = .ok (.istore_n 3, 1) := by decide +kernel
theorem dX8_like_35 : decode cX8_like 35 = .ok (.iconst 0, 1) := by decide +kernel
theorem dX8_like_36 : decode cX8_like 36 = .ok (.istore 4, 2) := by decide +kernel
theorem dX8_like_38 : decode cX8_like 38 = .ok (.iconst 0, 1) := by decide +kernel
theorem dX8_like_39 : decode cX8_like 39 = .ok (.istore 5, 2) := by decide +kernel
theorem dX8_like_41 : decode cX8_like 41 = .ok (.iload 5, 2) := by decide +kernel
theorem dX8_like_43 : decode cX8_like 43 = .ok (.aload_n 0, 1) := by decide +kernel
theorem dX8_like_44 : decode cX8_like 44 = .ok (.getfield 7, 3) := by decide +kernel
theorem dX8_like_47 : decode cX8_like 47 = .ok (.iconst 0, 1) := by decide +kernel
theorem dX8_like_48 : decode cX8_like 48 = .ok (.iaload, 1) := by decide +kernel
theorem dX8_like_49 : decode cX8_like 49 = .ok (.if_icmp .ge 36, 3) := by decide +kernel
theorem dX8_like_52 : decode cX8_like 52 = .ok (.aload_n 0, 1) := by decide +kernel
theorem dX8_like_53 : decode cX8_like 53 = .ok (.iload_n 1, 1) := by decide +kernel
theorem dX8_like_54 : decode cX8_like 54 = .ok (.iload 5, 2) := by decide +kernel
theorem dX8_like_56 : decode cX8_like 56 = .ok (.invokevirtual 318, 3) := by decide +kernel
theorem dX8_like_59 : decode cX8_like 59 = .ok (.istore 6, 2) := by decide +kernel
theorem dX8_like_61 : decode cX8_like 61 = .ok (.iload_n 3, 1) := by decide +kernel
theorem dX8_like_62 : decode cX8_like 62 = .ok (.ifCond .lt 10, 3) := by decide +kernel
theorem dX8_like_65 : decode cX8_like 65 = .ok (.iload 6, 2) := by decide +kernel
theorem dX8_like_67 : decode cX8_like 67 = .ok (.iload 4, 2) := by decide +kernel
theorem dX8_like_69 : decode cX8_like 69 = .ok (.if_icmp .ge 10, 3) := by decide +kernel
theorem dX8_like_72 : decode cX8_like 72 = .ok (.iload 5, 2) := by decide +kernel
theorem dX8_like_74 : decode cX8_like 74 = .ok (.istore_n 3, 1) := by decide +kernel
theorem dX8_like_75 : decode cX8_like 75 = .ok (.iload 6, 2) := by decide +kernel
theorem dX8_like_77 : decode cX8_like 77 = .ok (.istore 4, 2) := by decide +kernel
theorem dX8_like_79 : decode cX8_like 79 = .ok (.iinc 5 1, 3) := by decide +kernel
theorem dX8_like_82 : decode cX8_like 82 = .ok (.goto (-41), 3) := by decide +kernel
theorem dX8_like_85 : decode cX8_like 85 = .ok (.iload_n 3, 1) := by decide +kernel
theorem dX8_like_86 : decode cX8_like 86 = .ok (.ifCond .ge 8, 3) := by decide +kernel
theorem dX8_like_89 : decode cX8_like 89 = .ok (.ldc 64, 2) := by decide +kernel
theorem dX8_like_91 : decode cX8_like 91 = .ok (.goto 13, 3) := by decide +kernel
theorem dX8_like_94 : decode cX8_like 94 = .ok (.iload_n 2, 1) := by decide +kernel
theorem dX8_like_95 : decode cX8_like 95 = .ok (.ifCond .ne 7, 3) := by decide +kernel
theorem dX8_like_98 : decode cX8_like 98 = .ok (.iload_n 3, 1) := by decide +kernel
theorem dX8_like_99 : decode cX8_like 99 = .ok (.goto 5, 3) := by decide +kernel
theorem dX8_like_102 : decode cX8_like 102 = .ok (.iload 4, 2) := by decide +kernel
theorem dX8_like_104 : decode cX8_like 104 = .ok (.ireturn, 1) := by decide +kernel
theorem dX8_copy_0 : decode cX8_copy 0 = .ok (.iload_n 1, 1) := by decide +kernel
theorem dX8_copy_1 : decode cX8_copy 1 = .ok (.invokestatic 306, 3) := by decide +kernel
theorem dX8_copy_4 : decode cX8_copy 4 = .ok (.ifCond .eq 10, 3) := by decide +kernel
theorem dX8_copy_7 : decode cX8_copy 7 = .ok (.iload_n 3, 1) := by decide +kernel
theorem dX8_copy_8 : decode cX8_copy 8 = .ok (.invokestatic 306, 3) := by decide +kernel
theorem dX8_copy_11 : decode cX8_copy 11 = .ok (.ifCond .ne 6, 3) := by decide +kernel
theorem dX8_copy_14 : decode cX8_copy 14 = .ok (.ldc 88, 2) := by decide +kernel
theorem dX8_copy_16 : decode cX8_copy 16 = .ok (.ireturn, 1) := by decide +kernel
theorem dX8_copy_17 : decode cX8_copy 17 = .ok (.aload_n 0, 1) := by decide +kernel
theorem dX8_copy_18 : decode cX8_copy 18 = .ok (.getfield 19, 3) := by decide +kernel
theorem dX8_copy_21 : decode cX8_copy 21 = .ok (.iload_n 1, 1) := by decide +kernel
theorem dX8_copy_22 : decode cX8_copy 22 = .ok (.iaload, 1) := by decide +kernel
theorem dX8_copy_23 : decode cX8_copy 23 = .ok (.ifCond .lt 12, 3) := by decide +kernel
theorem dX8_copy_26 : decode cX8_copy 26 = .ok (.aload_n 0, 1) := by decide +kernel
theorem dX8_copy_27 : decode cX8_copy 27 = .ok (.getfield 19, 3) := by decide +kernel
theorem dX8_copy_30 : decode cX8_copy 30 = .ok (.iload_n 3, 1) := by decide +kernel
theorem dX8_copy_31 : decode cX8_copy 31 = .ok (.iaload, 1) := by decide +kernel
theorem dX8_copy_32 : decode cX8_copy 32 = .ok (.ifCond .ge 7, 3) := by decide +kernel
theorem dX8_copy_35 : decode cX8_copy 35 = .ok (.ldc_w 312, 3) := by decide +kernel
theorem dX8_copy_38 : decode cX8_copy 38 = .ok (.ireturn, 1) := by decide +kernel
theorem dX8_copy_39 : decode cX8_copy 39 = .ok (.aload_n 0, 1) := by decide +kernel
theorem dX8_copy_40 : decode cX8_copy 40 = .ok (.getfield 19, 3) := by decide +kernel
theorem dX8_copy_43 : decode cX8_copy 43 = .ok (.iload_n 1, 1) := by decide +kernel
theorem dX8_copy_44 : decode cX8_copy 44 = .ok (.iaload, 1) := by decide +kernel
theorem dX8_copy_45 : decode cX8_copy 45 = .ok (.aload_n 0, 1) := by decide +kernel
theorem dX8_copy_46 : decode cX8_copy 46 = .ok (.getfield 19, 3) := by decide +kernel
theorem dX8_copy_49 : decode cX8_copy 49 = .ok (.iload_n 3, 1) := by decide +kernel
theorem dX8_copy_50 : decode cX8_copy 50 = .ok (.iaload, 1) := by decide +kernel
theorem dX8_copy_51 : decode cX8_copy 51 = .ok (.if_icmp .eq 6, 3) := by decide +kernel
theorem dX8_copy_54 : decode cX8_copy 54 = .ok (.ldc 131, 2) := by decide +kernel
theorem dX8_copy_56 : decode cX8_copy 56 = .ok (.ireturn, 1) := by decide +kernel
theorem dX8_copy_57 : decode cX8_copy 57 = .ok (.iload_n 2, 1) := by decide +kernel
theorem dX8_copy_58 : decode cX8_copy 58 = .ok (.ifCond .lt 48, 3) := by decide +kernel
theorem dX8_copy_61 : decode cX8_copy 61 = .ok (.iload 4, 2) := by decide +kernel
theorem dX8_copy_63 : decode cX8_copy 63 = .ok (.ifCond .lt 43, 3) := by decide +kernel
theorem dX8_copy_66 : decode cX8_copy 66 = .ok (.iload 5, 2) := by decide +kernel
theorem dX8_copy_68 : decode cX8_copy 68 = .ok (.ifCond .lt 38, 3) := by decide +kernel
theorem dX8_copy_71 : decode cX8_copy 71 = .ok (.iload_n 2, 1) := by decide +kernel
theorem dX8_copy_72 : decode cX8_copy 72 = .ok (.i2l, 1) := by decide +kernel
theorem dX8_copy_73 : decode cX8_copy 73 = .ok (.iload 5, 2) := by decide +kernel
theorem dX8_copy_75 : decode cX8_copy 75 = .ok (.i2l, 1) := by decide +kernel
theorem dX8_copy_76 : decode cX8_copy 76 = .ok (.ladd, 1) := by decide +kernel
theorem dX8_copy_77 : decode cX8_copy 77 = .ok (.aload_n 0, 1) := by decide +kernel
theorem dX8_copy_78 : decode cX8_copy 78 = .ok (.getfield 22, 3) := by decide +kernel
theorem dX8_copy_81 : decode cX8_copy 81 = .ok (.iload_n 1, 1) := by decide +kernel
theorem dX8_copy_82 : decode cX8_copy 82 = .ok (.iaload, 1) := by decide +kernel
theorem dX8_copy_83 : decode cX8_copy 83 = .ok (.i2l, 1) := by decide +kernel
theorem dX8_copy_84 : decode cX8_copy 84 = .ok (.lcmp, 1) := by decide +kernel
theorem dX8_copy_85 : decode cX8_copy 85 = .ok (.ifCond .gt 21, 3) := by decide +kernel
theorem dX8_copy_88 : decode cX8_copy 88 = .ok (.iload 4, 2) := by decide +kernel
theorem dX8_copy_90 : decode cX8_copy 90 = .ok (.i2l, 1) := by decide +kernel
theorem dX8_copy_91 : decode cX8_copy 91 = .ok (.iload 5, 2) := by decide +kernel
theorem dX8_copy_93 : decode cX8_copy 93 = .ok (.i2l, 1) := by decide +kernel
theorem dX8_copy_94 : decode cX8_copy 94 = .ok (.ladd, 1) := by decide +kernel
theorem dX8_copy_95 : decode cX8_copy 95 = .ok (.aload_n 0, 1) := by decide +kernel
theorem dX8_copy_96 : decode cX8_copy 96 = .ok (.getfield 22, 3) := by decide +kernel
theorem dX8_copy_99 : decode cX8_copy 99 = .ok (.iload_n 3, 1) := by decide +kernel
theorem dX8_copy_100 : decode cX8_copy 100 = .ok (.iaload, 1) := by decide +kernel
theorem dX8_copy_101 : decode cX8_copy 101 = .ok (.i2l, 1) := by decide +kernel
theorem dX8_copy_102 : decode cX8_copy 102 = .ok (.lcmp, 1) := by decide +kernel
theorem dX8_copy_103 : decode cX8_copy 103 = .ok (.ifCond .le 7, 3) := by decide +kernel
theorem dX8_copy_106 : decode cX8_copy 106 = .ok (.ldc_w 313, 3) := by decide +kernel
theorem dX8_copy_109 : decode cX8_copy 109 = .ok (.ireturn, 1) := by decide +kernel
theorem dX8_copy_110 : decode cX8_copy 110 = .ok (.iconst 0, 1) := by decide +kernel
theorem dX8_copy_111 : decode cX8_copy 111 = .ok (.istore 6, 2) := by decide +kernel
theorem dX8_copy_113 : decode cX8_copy 113 = .ok (.iload 6, 2) := by decide +kernel
theorem dX8_copy_115 : decode cX8_copy 115 = .ok (.iload 5, 2) := by decide +kernel
theorem dX8_copy_117 : decode cX8_copy 117 = .ok (.if_icmp .ge 30, 3) := by decide +kernel
theorem dX8_copy_120 : decode cX8_copy 120 = .ok (.aload_n 0, 1) := by decide +kernel
theorem dX8_copy_121 : decode cX8_copy 121 = .ok (.getfield 55, 3) := by decide +kernel
theorem dX8_copy_124 : decode cX8_copy 124 = .ok (.iload 6, 2) := by decide +kernel
theorem dX8_copy_126 : decode cX8_copy 126 = .ok (.aload_n 0, 1) := by decide +kernel
theorem dX8_copy_127 : decode cX8_copy 127 = .ok (.getfield 25, 3) := by decide +kernel
theorem dX8_copy_130 : decode cX8_copy 130 = .ok (.bipush 24, 2) := by decide +kernel
theorem dX8_copy_132 : decode cX8_copy 132 = .ok (.iload_n 1, 1) := by decide +kernel
theorem dX8_copy_133 : decode cX8_copy 133 = .ok (.imul, 1) := by decide +kernel
theorem dX8_copy_134 : decode cX8_copy 134 = .ok (.iload_n 2, 1) := by decide +kernel
theorem dX8_copy_135 : decode cX8_copy 135 = .ok (.iadd, 1) := by decide +kernel
theorem dX8_copy_136 : decode cX8_copy 136 = .ok (.iload 6, 2) := by decide +kernel
theorem dX8_copy_138 : decode cX8_copy 138 = .ok (.iadd, 1) := by decide +kernel
theorem dX8_copy_139 : decode cX8_copy 139 = .ok (.iaload, 1) := by decide +kernel
theorem dX8_copy_140 : decode cX8_copy 140 = .ok (.iastore, 1) := by decide +kernel
theorem dX8_copy_141 : decode cX8_copy 141 = .ok (.iinc 6 1, 3) := by decide +kernel
theorem dX8_copy_144 : decode cX8_copy 144 = .ok (.goto (-31), 3) := by decide +kernel
theorem dX8_copy_147 : decode cX8_copy 147 = .ok (.iconst 0, 1) := by decide +kernel
theorem dX8_copy_148 : decode cX8_copy 148 = .ok (.istore 6, 2) := by decide +kernel
theorem dX8_copy_150 : decode cX8_copy 150 = .ok (.iload 6, 2) := by decide +kernel
theorem dX8_copy_152 : decode cX8_copy 152 = .ok (.iload 5, 2) := by decide +kernel
theorem dX8_copy_154 : decode cX8_copy 154 = .ok (.if_icmp .ge 31, 3) := by decide +kernel
theorem dX8_copy_157 : decode cX8_copy 157 = .ok (.aload_n 0, 1) := by decide +kernel
theorem dX8_copy_158 : decode cX8_copy 158 = .ok (.getfield 25, 3) := by decide +kernel
theorem dX8_copy_161 : decode cX8_copy 161 = .ok (.bipush 24, 2) := by decide +kernel
theorem dX8_copy_163 : decode cX8_copy 163 = .ok (.iload_n 3, 1) := by decide +kernel
theorem dX8_copy_164 : decode cX8_copy 164 = .ok (.imul, 1) := by decide +kernel
theorem dX8_copy_165 : decode cX8_copy 165 = .ok (.iload 4, 2) := by decide +kernel
theorem dX8_copy_167 : decode cX8_copy 167 = .ok (.iadd, 1) := by decide +kernel
theorem dX8_copy_168 : decode cX8_copy 168 = .ok (.iload 6, 2) := by decide +kernel
theorem dX8_copy_170 : decode cX8_copy 170 = .ok (.iadd, 1) := by decide +kernel
theorem dX8_copy_171 : decode cX8_copy 171 = .ok (.aload_n 0, 1) := by decide +kernel
theorem dX8_copy_172 : decode cX8_copy 172 = .ok (.getfield 55, 3) := by decide +kernel
theorem dX8_copy_175 : decode cX8_copy 175 = .ok (.iload 6, 2) := by decide +kernel
theorem dX8_copy_177 : decode cX8_copy 177 = .ok (.iaload, 1) := by decide +kernel
theorem dX8_copy_178 : decode cX8_copy 178 = .ok (.iastore, 1) := by decide +kernel
theorem dX8_copy_179 : decode cX8_copy 179 = .ok (.iinc 6 1, 3) := by decide +kernel
theorem dX8_copy_182 : decode cX8_copy 182 = .ok (.goto (-32), 3) := by decide +kernel
theorem dX8_copy_185 : decode cX8_copy 185 = .ok (.iload 5, 2) := by decide +kernel
theorem dX8_copy_187 : decode cX8_copy 187 = .ok (.ireturn, 1) := by decide +kernel
theorem dX8_isSlot_0 : decode cX8_isSlot 0 = .ok (.iload_n 0, 1) := by decide +kernel
theorem dX8_isSlot_1 : decode cX8_isSlot 1 = .ok (.i2l, 1) := by decide +kernel
theorem dX8_isSlot_2 : decode cX8_isSlot 2 = .ok (.lconst 0, 1) := by decide +kernel
theorem dX8_isSlot_3 : decode cX8_isSlot 3 = .ok (.ldc2_w 137, 3) := by decide +kernel
theorem dX8_isSlot_6 : decode cX8_isSlot 6 = .ok (.invokestatic 65, 3) := by decide +kernel
theorem dX8_isSlot_9 : decode cX8_isSlot 9 = .ok (.ireturn, 1) := by decide +kernel
theorem dX8_lay_0 : decode cX8_lay 0 = .ok (.iload_n 2, 1) := by decide +kernel
theorem dX8_lay_1 : decode cX8_lay 1 = .ok (.ifCond .eq 33, 3) := by decide +kernel
theorem dX8_lay_4 : decode cX8_lay 4 = .ok (.iload_n 2, 1) := by decide +kernel
theorem dX8_lay_5 : decode cX8_lay 5 = .ok (.iconst 3, 1) := by decide +kernel
theorem dX8_lay_6 : decode cX8_lay 6 = .ok (.if_icmp .eq 28, 3) := by decide +kernel
theorem dX8_lay_9 : decode cX8_lay 9 = .ok (.iload_n 2, 1) := by decide +kernel
theorem dX8_lay_10 : decode cX8_lay 10 = .ok (.iconst 1, 1) := by decide +kernel
theorem dX8_lay_11 : decode cX8_lay 11 = .ok (.if_icmp .ne 11, 3) := by decide +kernel
theorem dX8_lay_14 : decode cX8_lay 14 = .ok (.aload_n 0, 1) := by decide +kernel
theorem dX8_lay_15 : decode cX8_lay 15 = .ok (.iload_n 3, 1) := by decide +kernel
theorem dX8_lay_16 : decode cX8_lay 16 = .ok (.invokevirtual 110, 3) := by decide +kernel
theorem dX8_lay_19 : decode cX8_lay 19 = .ok (.ifCond .ne 15, 3) := by decide +kernel
theorem dX8_lay_22 : decode cX8_lay 22 = .ok (.iload_n 2, 1) := by decide +kernel
theorem dX8_lay_23 : decode cX8_lay 23 = .ok (.iconst 2, 1) := by decide +kernel
theorem dX8_lay_24 : decode cX8_lay 24 = .ok (.if_icmp .ne 14, 3) := by decide +kernel
theorem dX8_lay_27 : decode cX8_lay 27 = .ok (.iload_n 3, 1) := by decide +kernel
theorem dX8_lay_28 : decode cX8_lay 28 = .ok (.invokestatic 306, 3) := by decide +kernel
theorem dX8_lay_31 : decode cX8_lay 31 = .ok (.ifCond .eq 7, 3) := by decide +kernel
theorem dX8_lay_34 : decode cX8_lay 34 = .ok (.iconst 1, 1) := by decide +kernel
theorem dX8_lay_35 : decode cX8_lay 35 = .ok (.goto 4, 3) := by decide +kernel
theorem dX8_lay_38 : decode cX8_lay 38 = .ok (.iconst 0, 1) := by decide +kernel
theorem dX8_lay_39 : decode cX8_lay 39 = .ok (.istore 4, 2) := by decide +kernel
theorem dX8_lay_41 : decode cX8_lay 41 = .ok (.iload_n 1, 1) := by decide +kernel
theorem dX8_lay_42 : decode cX8_lay 42 = .ok (.invokestatic 321, 3) := by decide +kernel
theorem dX8_lay_45 : decode cX8_lay 45 = .ok (.ifCond .eq 8, 3) := by decide +kernel
theorem dX8_lay_48 : decode cX8_lay 48 = .ok (.iload 4, 2) := by decide +kernel
theorem dX8_lay_50 : decode cX8_lay 50 = .ok (.ifCond .ne 6, 3) := by decide +kernel
theorem dX8_lay_53 : decode cX8_lay 53 = .ok (.ldc 88, 2) := by decide +kernel
theorem dX8_lay_55 : decode cX8_lay 55 = .ok (.ireturn, 1) := by decide +kernel
theorem dX8_lay_56 : decode cX8_lay 56 = .ok (.iload_n 2, 1) := by decide +kernel
theorem dX8_lay_57 : decode cX8_lay 57 = .ok (.iconst 2, 1) := by decide +kernel
theorem dX8_lay_58 : decode cX8_lay 58 = .ok (.if_icmp .ne 16, 3) := by decide +kernel
theorem dX8_lay_61 : decode cX8_lay 61 = .ok (.aload_n 0, 1) := by decide +kernel
theorem dX8_lay_62 : decode cX8_lay 62 = .ok (.getfield 19, 3) := by decide +kernel
theorem dX8_lay_65 : decode cX8_lay 65 = .ok (.iload_n 3, 1) := by decide +kernel
theorem dX8_lay_66 : decode cX8_lay 66 = .ok (.iaload, 1) := by decide +kernel
theorem dX8_lay_67 : decode cX8_lay 67 = .ok (.ifCond .ge 7, 3) := by decide +kernel
theorem dX8_lay_70 : decode cX8_lay 70 = .ok (.ldc_w 312, 3) := by decide +kernel
theorem dX8_lay_73 : decode cX8_lay 73 = .ok (.ireturn, 1) := by decide +kernel
theorem dX8_lay_74 : decode cX8_lay 74 = .ok (.aload_n 0, 1) := by decide +kernel
theorem dX8_lay_75 : decode cX8_lay 75 = .ok (.getfield 28, 3) := by decide +kernel
theorem dX8_lay_78 : decode cX8_lay 78 = .ok (.iload_n 1, 1) := by decide +kernel
theorem dX8_lay_79 : decode cX8_lay 79 = .ok (.iaload, 1) := by decide +kernel
theorem dX8_lay_80 : decode cX8_lay 80 = .ok (.istore 5, 2) := by decide +kernel
theorem dX8_lay_82 : decode cX8_lay 82 = .ok (.aload_n 0, 1) := by decide +kernel
theorem dX8_lay_83 : decode cX8_lay 83 = .ok (.getfield 28, 3) := by decide +kernel
theorem dX8_lay_86 : decode cX8_lay 86 = .ok (.iload_n 1, 1) := by decide +kernel
theorem dX8_lay_87 : decode cX8_lay 87 = .ok (.iload_n 2, 1) := by decide +kernel
theorem dX8_lay_88 : decode cX8_lay 88 = .ok (.iastore, 1) := by decide +kernel
theorem dX8_lay_89 : decode cX8_lay 89 = .ok (.aload_n 0, 1) := by decide +kernel
theorem dX8_lay_90 : decode cX8_lay 90 = .ok (.getfield 31, 3) := by decide +kernel
theorem dX8_lay_93 : decode cX8_lay 93 = .ok (.iload_n 1, 1) := by decide +kernel
theorem dX8_lay_94 : decode cX8_lay 94 = .ok (.iload_n 2, 1) := by decide +kernel
theorem dX8_lay_95 : decode cX8_lay 95 = .ok (.iconst 1, 1) := by decide +kernel
theorem dX8_lay_96 : decode cX8_lay 96 = .ok (.if_icmp .ne 12, 3) := by decide +kernel
theorem dX8_lay_99 : decode cX8_lay 99 = .ok (.aload_n 0, 1) := by decide +kernel
theorem dX8_lay_100 : decode cX8_lay 100 = .ok (.iload_n 3, 1) := by decide +kernel
theorem dX8_lay_101 : decode cX8_lay 101 = .ok (.iconst 0, 1) := by decide +kernel
theorem dX8_lay_102 : decode cX8_lay 102 = .ok (.invokevirtual 72, 3) := by decide +kernel
theorem dX8_lay_105 : decode cX8_lay 105 = .ok (.goto 4, 3) := by decide +kernel
theorem dX8_lay_108 : decode cX8_lay 108 = .ok (.iload_n 3, 1) := by decide +kernel
theorem dX8_lay_109 : decode cX8_lay 109 = .ok (.iastore, 1) := by decide +kernel
theorem dX8_lay_110 : decode cX8_lay 110 = .ok (.aload_n 0, 1) := by decide +kernel
theorem dX8_lay_111 : decode cX8_lay 111 = .ok (.getfield 34, 3) := by decide +kernel
theorem dX8_lay_114 : decode cX8_lay 114 = .ok (.iload_n 1, 1) := by decide +kernel
theorem dX8_lay_115 : decode cX8_lay 115 = .ok (.iload_n 2, 1) := by decide +kernel
theorem dX8_lay_116 : decode cX8_lay 116 = .ok (.iconst 1, 1) := by decide +kernel
theorem dX8_lay_117 : decode cX8_lay 117 = .ok (.if_icmp .ne 11, 3) := by decide +kernel
theorem dX8_lay_120 : decode cX8_lay 120 = .ok (.aload_n 0, 1) := by decide +kernel
theorem dX8_lay_121 : decode cX8_lay 121 = .ok (.iload_n 3, 1) := by decide +kernel
theorem dX8_lay_122 : decode cX8_lay 122 = .ok (.invokevirtual 124, 3) := by decide +kernel
theorem dX8_lay_125 : decode cX8_lay 125 = .ok (.goto 4, 3) := by decide +kernel
theorem dX8_lay_128 : decode cX8_lay 128 = .ok (.iconst 0, 1) := by decide +kernel
theorem dX8_lay_129 : decode cX8_lay 129 = .ok (.iastore, 1) := by decide +kernel
theorem dX8_lay_130 : decode cX8_lay 130 = .ok (.iload_n 2, 1) := by decide +kernel
theorem dX8_lay_131 : decode cX8_lay 131 = .ok (.iconst 2, 1) := by decide +kernel
theorem dX8_lay_132 : decode cX8_lay 132 = .ok (.if_icmp .ne 55, 3) := by decide +kernel
theorem dX8_lay_135 : decode cX8_lay 135 = .ok (.aload_n 0, 1) := by decide +kernel
theorem dX8_lay_136 : decode cX8_lay 136 = .ok (.getfield 37, 3) := by decide +kernel
theorem dX8_lay_139 : decode cX8_lay 139 = .ok (.iload_n 1, 1) := by decide +kernel
theorem dX8_lay_140 : decode cX8_lay 140 = .ok (.aload_n 0, 1) := by decide +kernel
theorem dX8_lay_141 : decode cX8_lay 141 = .ok (.getfield 22, 3) := by decide +kernel
theorem dX8_lay_144 : decode cX8_lay 144 = .ok (.iload_n 3, 1) := by decide +kernel
theorem dX8_lay_145 : decode cX8_lay 145 = .ok (.iaload, 1) := by decide +kernel
theorem dX8_lay_146 : decode cX8_lay 146 = .ok (.iastore, 1) := by decide +kernel
theorem dX8_lay_147 : decode cX8_lay 147 = .ok (.iconst 0, 1) := by decide +kernel
theorem dX8_lay_148 : decode cX8_lay 148 = .ok (.istore 6, 2) := by decide +kernel
theorem dX8_lay_150 : decode cX8_lay 150 = .ok (.iload 6, 2) := by decide +kernel
theorem dX8_lay_152 : decode cX8_lay 152 = .ok (.bipush 24, 2) := by decide +kernel
theorem dX8_lay_154 : decode cX8_lay 154 = .ok (.if_icmp .ge 33, 3) := by decide +kernel
theorem dX8_lay_157 : decode cX8_lay 157 = .ok (.aload_n 0, 1) := by decide +kernel
theorem dX8_lay_158 : decode cX8_lay 158 = .ok (.getfield 40, 3) := by decide +kernel
theorem dX8_lay_161 : decode cX8_lay 161 = .ok (.bipush 24, 2) := by decide +kernel
theorem dX8_lay_163 : decode cX8_lay 163 = .ok (.iload_n 1, 1) := by decide +kernel
theorem dX8_lay_164 : decode cX8_lay 164 = .ok (.imul, 1) := by decide +kernel
theorem dX8_lay_165 : decode cX8_lay 165 = .ok (.iload 6, 2) := by decide +kernel
theorem dX8_lay_167 : decode cX8_lay 167 = .ok (.iadd, 1) := by decide +kernel
theorem dX8_lay_168 : decode cX8_lay 168 = .ok (.aload_n 0, 1) := by decide +kernel
theorem dX8_lay_169 : decode cX8_lay 169 = .ok (.getfield 25, 3) := by decide +kernel
theorem dX8_lay_172 : decode cX8_lay 172 = .ok (.bipush 24, 2) := by decide +kernel
theorem dX8_lay_174 : decode cX8_lay 174 = .ok (.iload_n 3, 1) := by decide +kernel
theorem dX8_lay_175 : decode cX8_lay 175 = .ok (.imul, 1) := by decide +kernel
theorem dX8_lay_176 : decode cX8_lay 176 = .ok (.iload 6, 2) := by decide +kernel
theorem dX8_lay_178 : decode cX8_lay 178 = .ok (.iadd, 1) := by decide +kernel
theorem dX8_lay_179 : decode cX8_lay 179 = .ok (.iaload, 1) := by decide +kernel
theorem dX8_lay_180 : decode cX8_lay 180 = .ok (.iastore, 1) := by decide +kernel
theorem dX8_lay_181 : decode cX8_lay 181 = .ok (.iinc 6 1, 3) := by decide +kernel
theorem dX8_lay_184 : decode cX8_lay 184 = .ok (.goto (-34), 3) := by decide +kernel
theorem dX8_lay_187 : decode cX8_lay 187 = .ok (.iload 5, 2) := by decide +kernel
theorem dX8_lay_189 : decode cX8_lay 189 = .ok (.ireturn, 1) := by decide +kernel
theorem dX8_ask_0 : decode cX8_ask 0 = .ok (.iload_n 1, 1) := by decide +kernel
theorem dX8_ask_1 : decode cX8_ask 1 = .ok (.invokestatic 321, 3) := by decide +kernel
theorem dX8_ask_4 : decode cX8_ask 4 = .ok (.ifCond .eq 15, 3) := by decide +kernel
theorem dX8_ask_7 : decode cX8_ask 7 = .ok (.iload_n 2, 1) := by decide +kernel
theorem dX8_ask_8 : decode cX8_ask 8 = .ok (.i2l, 1) := by decide +kernel
theorem dX8_ask_9 : decode cX8_ask 9 = .ok (.lconst 0, 1) := by decide +kernel
theorem dX8_ask_10 : decode cX8_ask 10 = .ok (.ldc2_w 80, 3) := by decide +kernel
theorem dX8_ask_13 : decode cX8_ask 13 = .ok (.invokestatic 65, 3) := by decide +kernel
theorem dX8_ask_16 : decode cX8_ask 16 = .ok (.ifCond .ne 6, 3) := by decide +kernel
theorem dX8_ask_19 : decode cX8_ask 19 = .ok (.ldc 88, 2) := by decide +kernel
theorem dX8_ask_21 : decode cX8_ask 21 = .ok (.ireturn, 1) := by decide +kernel
theorem dX8_ask_22 : decode cX8_ask 22 = .ok (.aload_n 0, 1) := by decide +kernel
theorem dX8_ask_23 : decode cX8_ask 23 = .ok (.getfield 28, 3) := by decide +kernel
theorem dX8_ask_26 : decode cX8_ask 26 = .ok (.iload_n 1, 1) := by decide +kernel
theorem dX8_ask_27 : decode cX8_ask 27 = .ok (.iaload, 1) := by decide +kernel
theorem dX8_ask_28 : decode cX8_ask 28 = .ok (.ifCond .ne 7, 3) := by decide +kernel
theorem dX8_ask_31 : decode cX8_ask 31 = .ok (.ldc_w 312, 3) := by decide +kernel
theorem dX8_ask_34 : decode cX8_ask 34 = .ok (.ireturn, 1) := by decide +kernel
theorem dX8_ask_35 : decode cX8_ask 35 = .ok (.aload_n 0, 1) := by decide +kernel
theorem dX8_ask_36 : decode cX8_ask 36 = .ok (.getfield 28, 3) := by decide +kernel
theorem dX8_ask_39 : decode cX8_ask 39 = .ok (.iload_n 1, 1) := by decide +kernel
theorem dX8_ask_40 : decode cX8_ask 40 = .ok (.iaload, 1) := by decide +kernel
theorem dX8_ask_41 : decode cX8_ask 41 = .ok (.iconst 1, 1) := by decide +kernel
theorem dX8_ask_42 : decode cX8_ask 42 = .ok (.if_icmp .ne 25, 3) := by decide +kernel
theorem dX8_ask_45 : decode cX8_ask 45 = .ok (.aload_n 0, 1) := by decide +kernel
theorem dX8_ask_46 : decode cX8_ask 46 = .ok (.getfield 31, 3) := by decide +kernel
theorem dX8_ask_49 : decode cX8_ask 49 = .ok (.iload_n 1, 1) := by decide +kernel
theorem dX8_ask_50 : decode cX8_ask 50 = .ok (.iaload, 1) := by decide +kernel
theorem dX8_ask_51 : decode cX8_ask 51 = .ok (.iload_n 2, 1) := by decide +kernel
theorem dX8_ask_52 : decode cX8_ask 52 = .ok (.invokestatic 127, 3) := by decide +kernel
theorem dX8_ask_55 : decode cX8_ask 55 = .ok (.ifCond .eq 12, 3) := by decide +kernel
theorem dX8_ask_58 : decode cX8_ask 58 = .ok (.aload_n 0, 1) := by decide +kernel
theorem dX8_ask_59 : decode cX8_ask 59 = .ok (.getfield 34, 3) := by decide +kernel
theorem dX8_ask_62 : decode cX8_ask 62 = .ok (.iload_n 1, 1) := by decide +kernel
theorem dX8_ask_63 : decode cX8_ask 63 = .ok (.iaload, 1) := by decide +kernel
theorem dX8_ask_64 : decode cX8_ask 64 = .ok (.goto 5, 3) := by decide +kernel
theorem dX8_ask_67 : decode cX8_ask 67 = .ok (.ldc 131, 2) := by decide +kernel
theorem dX8_ask_69 : decode cX8_ask 69 = .ok (.ireturn, 1) := by decide +kernel
theorem dX8_item_0 : decode cX8_item 0 = .ok (.iload_n 1, 1) := by decide +kernel
theorem dX8_item_1 : decode cX8_item 1 = .ok (.invokestatic 321, 3) := by decide +kernel
theorem dX8_item_4 : decode cX8_item 4 = .ok (.ifCond .ne 6, 3) := by decide +kernel
theorem dX8_item_7 : decode cX8_item 7 = .ok (.ldc 88, 2) := by decide +kernel
theorem dX8_item_9 : decode cX8_item 9 = .ok (.ireturn, 1) := by decide +kernel
theorem dX8_item_10 : decode cX8_item 10 = .ok (.aload_n 0, 1) := by decide +kernel
theorem dX8_item_11 : decode cX8_item 11 = .ok (.getfield 28, 3) := by decide +kernel
theorem dX8_item_14 : decode cX8_item 14 = .ok (.iload_n 1, 1) := by decide +kernel
theorem dX8_item_15 : decode cX8_item 15 = .ok (.iaload, 1) := by decide +kernel
theorem dX8_item_16 : decode cX8_item 16 = .ok (.iconst 2, 1) := by decide +kernel
theorem dX8_item_17 : decode cX8_item 17 = .ok (.if_icmp .eq 21, 3) := by decide +kernel
theorem dX8_item_20 : decode cX8_item 20 = .ok (.aload_n 0, 1) := by decide +kernel
theorem dX8_item_21 : decode cX8_item 21 = .ok (.getfield 28, 3) := by decide +kernel
theorem dX8_item_24 : decode cX8_item 24 = .ok (.iload_n 1, 1) := by decide +kernel
theorem dX8_item_25 : decode cX8_item 25 = .ok (.iaload, 1) := by decide +kernel
theorem dX8_item_26 : decode cX8_item 26 = .ok (.ifCond .ne 9, 3) := by decide +kernel
theorem dX8_item_29 : decode cX8_item 29 = .ok (.ldc_w 312, 3) := by decide +kernel
theorem dX8_item_32 : decode cX8_item 32 = .ok (.goto 5, 3) := by decide +kernel
theorem dX8_item_35 : decode cX8_item 35 = .ok (.ldc 131, 2) := by decide +kernel
theorem dX8_item_37 : decode cX8_item 37 = .ok (.ireturn, 1) := by decide +kernel
theorem dX8_item_38 : decode cX8_item 38 = .ok (.iload_n 2, 1) := by decide +kernel
theorem dX8_item_39 : decode cX8_item 39 = .ok (.i2l, 1) := by decide +kernel
theorem dX8_item_40 : decode cX8_item 40 = .ok (.lconst 0, 1) := by decide +kernel
theorem dX8_item_41 : decode cX8_item 41 = .ok (.aload_n 0, 1) := by decide +kernel
theorem dX8_item_42 : decode cX8_item 42 = .ok (.getfield 37, 3) := by decide +kernel
theorem dX8_item_45 : decode cX8_item 45 = .ok (.iload_n 1, 1) := by decide +kernel
theorem dX8_item_46 : decode cX8_item 46 = .ok (.iaload, 1) := by decide +kernel
theorem dX8_item_47 : decode cX8_item 47 = .ok (.iconst 1, 1) := by decide +kernel
theorem dX8_item_48 : decode cX8_item 48 = .ok (.isub, 1) := by decide +kernel
theorem dX8_item_49 : decode cX8_item 49 = .ok (.i2l, 1) := by decide +kernel
theorem dX8_item_50 : decode cX8_item 50 = .ok (.invokestatic 65, 3) := by decide +kernel
theorem dX8_item_53 : decode cX8_item 53 = .ok (.ifCond .ne 7, 3) := by decide +kernel
theorem dX8_item_56 : decode cX8_item 56 = .ok (.ldc_w 313, 3) := by decide +kernel
theorem dX8_item_59 : decode cX8_item 59 = .ok (.ireturn, 1) := by decide +kernel
theorem dX8_item_60 : decode cX8_item 60 = .ok (.aload_n 0, 1) := by decide +kernel
theorem dX8_item_61 : decode cX8_item 61 = .ok (.getfield 40, 3) := by decide +kernel
theorem dX8_item_64 : decode cX8_item 64 = .ok (.bipush 24, 2) := by decide +kernel
theorem dX8_item_66 : decode cX8_item 66 = .ok (.iload_n 1, 1) := by decide +kernel
theorem dX8_item_67 : decode cX8_item 67 = .ok (.imul, 1) := by decide +kernel
theorem dX8_item_68 : decode cX8_item 68 = .ok (.iload_n 2, 1) := by decide +kernel
theorem dX8_item_69 : decode cX8_item 69 = .ok (.iadd, 1) := by decide +kernel
theorem dX8_item_70 : decode cX8_item 70 = .ok (.iaload, 1) := by decide +kernel
theorem dX8_item_71 : decode cX8_item 71 = .ok (.istore_n 3, 1) := by decide +kernel
theorem dX8_item_72 : decode cX8_item 72 = .ok (.iload_n 3, 1) := by decide +kernel
theorem dX8_item_73 : decode cX8_item 73 = .ok (.ldc 64, 2) := by decide +kernel
theorem dX8_item_75 : decode cX8_item 75 = .ok (.if_icmp .ne 8, 3) := by decide +kernel
theorem dX8_item_78 : decode cX8_item 78 = .ok (.ldc 131, 2) := by decide +kernel
theorem dX8_item_80 : decode cX8_item 80 = .ok (.goto 4, 3) := by decide +kernel
theorem dX8_item_83 : decode cX8_item 83 = .ok (.iload_n 3, 1) := by decide +kernel
theorem dX8_item_84 : decode cX8_item 84 = .ok (.ireturn, 1) := by decide +kernel
theorem dX8_rest_0 : decode cX8_rest 0 = .ok (.iload_n 1, 1) := by decide +kernel
theorem dX8_rest_1 : decode cX8_rest 1 = .ok (.invokestatic 321, 3) := by decide +kernel
theorem dX8_rest_4 : decode cX8_rest 4 = .ok (.ifCond .ne 6, 3) := by decide +kernel
theorem dX8_rest_7 : decode cX8_rest 7 = .ok (.ldc 88, 2) := by decide +kernel
theorem dX8_rest_9 : decode cX8_rest 9 = .ok (.ireturn, 1) := by decide +kernel
theorem dX8_rest_10 : decode cX8_rest 10 = .ok (.aload_n 0, 1) := by decide +kernel
theorem dX8_rest_11 : decode cX8_rest 11 = .ok (.getfield 28, 3) := by decide +kernel
theorem dX8_rest_14 : decode cX8_rest 14 = .ok (.iload_n 1, 1) := by decide +kernel
theorem dX8_rest_15 : decode cX8_rest 15 = .ok (.iaload, 1) := by decide +kernel
theorem dX8_rest_16 : decode cX8_rest 16 = .ok (.iconst 3, 1) := by decide +kernel
theorem dX8_rest_17 : decode cX8_rest 17 = .ok (.if_icmp .eq 21, 3) := by decide +kernel
theorem dX8_rest_20 : decode cX8_rest 20 = .ok (.aload_n 0, 1) := by decide +kernel
theorem dX8_rest_21 : decode cX8_rest 21 = .ok (.getfield 28, 3) := by decide +kernel
theorem dX8_rest_24 : decode cX8_rest 24 = .ok (.iload_n 1, 1) := by decide +kernel
theorem dX8_rest_25 : decode cX8_rest 25 = .ok (.iaload, 1) := by decide +kernel
theorem dX8_rest_26 : decode cX8_rest 26 = .ok (.ifCond .ne 9, 3) := by decide +kernel
theorem dX8_rest_29 : decode cX8_rest 29 = .ok (.ldc_w 312, 3) := by decide +kernel
theorem dX8_rest_32 : decode cX8_rest 32 = .ok (.goto 5, 3) := by decide +kernel
theorem dX8_rest_35 : decode cX8_rest 35 = .ok (.ldc 131, 2) := by decide +kernel
theorem dX8_rest_37 : decode cX8_rest 37 = .ok (.ireturn, 1) := by decide +kernel
theorem dX8_rest_38 : decode cX8_rest 38 = .ok (.iload_n 2, 1) := by decide +kernel
theorem dX8_rest_39 : decode cX8_rest 39 = .ok (.ifCond .ne 8, 3) := by decide +kernel
theorem dX8_rest_42 : decode cX8_rest 42 = .ok (.ldc 93, 2) := by decide +kernel
theorem dX8_rest_44 : decode cX8_rest 44 = .ok (.goto 11, 3) := by decide +kernel
theorem dX8_rest_47 : decode cX8_rest 47 = .ok (.aload_n 0, 1) := by decide +kernel
theorem dX8_rest_48 : decode cX8_rest 48 = .ok (.getfield 31, 3) := by decide +kernel
theorem dX8_rest_51 : decode cX8_rest 51 = .ok (.iload_n 1, 1) := by decide +kernel
theorem dX8_rest_52 : decode cX8_rest 52 = .ok (.iaload, 1) := by decide +kernel
theorem dX8_rest_53 : decode cX8_rest 53 = .ok (.iload_n 2, 1) := by decide +kernel
theorem dX8_rest_54 : decode cX8_rest 54 = .ok (.irem, 1) := by decide +kernel
theorem dX8_rest_55 : decode cX8_rest 55 = .ok (.ireturn, 1) := by decide +kernel
theorem dX8_tell_0 : decode cX8_tell 0 = .ok (.aload_n 0, 1) := by decide +kernel
theorem dX8_tell_1 : decode cX8_tell 1 = .ok (.getfield 324, 3) := by decide +kernel
theorem dX8_tell_4 : decode cX8_tell 4 = .ok (.bipush 60, 2) := by decide +kernel
theorem dX8_tell_6 : decode cX8_tell 6 = .ok (.if_icmp .ne 6, 3) := by decide +kernel
theorem dX8_tell_9 : decode cX8_tell 9 = .ok (.ldc 94, 2) := by decide +kernel
theorem dX8_tell_11 : decode cX8_tell 11 = .ok (.ireturn, 1) := by decide +kernel
theorem dX8_tell_12 : decode cX8_tell 12 = .ok (.aload_n 0, 1) := by decide +kernel
theorem dX8_tell_13 : decode cX8_tell 13 = .ok (.getfield 58, 3) := by decide +kernel
theorem dX8_tell_16 : decode cX8_tell 16 = .ok (.aload_n 0, 1) := by decide +kernel
theorem dX8_tell_17 : decode cX8_tell 17 = .ok (.getfield 324, 3) := by decide +kernel
theorem dX8_tell_20 : decode cX8_tell 20 = .ok (.iload_n 1, 1) := by decide +kernel
theorem dX8_tell_21 : decode cX8_tell 21 = .ok (.iastore, 1) := by decide +kernel
theorem dX8_tell_22 : decode cX8_tell 22 = .ok (.aload_n 0, 1) := by decide +kernel
theorem dX8_tell_23 : decode cX8_tell 23 = .ok (.dup, 1) := by decide +kernel
theorem dX8_tell_24 : decode cX8_tell 24 = .ok (.getfield 324, 3) := by decide +kernel
theorem dX8_tell_27 : decode cX8_tell 27 = .ok (.iconst 1, 1) := by decide +kernel
theorem dX8_tell_28 : decode cX8_tell 28 = .ok (.iadd, 1) := by decide +kernel
theorem dX8_tell_29 : decode cX8_tell 29 = .ok (.putfield 324, 3) := by decide +kernel
theorem dX8_tell_32 : decode cX8_tell 32 = .ok (.aload_n 0, 1) := by decide +kernel
theorem dX8_tell_33 : decode cX8_tell 33 = .ok (.getfield 324, 3) := by decide +kernel
theorem dX8_tell_36 : decode cX8_tell 36 = .ok (.ireturn, 1) := by decide +kernel
theorem dX8_setAside_0 : decode cX8_setAside 0 = .ok (.iconst 0, 1) := by decide +kernel
theorem dX8_setAside_1 : decode cX8_setAside 1 = .ok (.istore_n 3, 1) := by decide +kernel
theorem dX8_setAside_2 : decode cX8_setAside 2 = .ok (.iload_n 3, 1) := by decide +kernel
theorem dX8_setAside_3 : decode cX8_setAside 3 = .ok (.sipush 2862, 3) := by decide +kernel
theorem dX8_setAside_6 : decode cX8_setAside 6 = .ok (.if_icmp .ge 15, 3) := by decide +kernel
theorem dX8_setAside_9 : decode cX8_setAside 9 = .ok (.aload_n 2, 1) := by decide +kernel
theorem dX8_setAside_10 : decode cX8_setAside 10 = .ok (.iload_n 3, 1) := by decide +kernel
theorem dX8_setAside_11 : decode cX8_setAside 11 = .ok (.aload_n 1, 1) := by decide +kernel
theorem dX8_setAside_12 : decode cX8_setAside 12 = .ok (.iload_n 3, 1) := by decide +kernel
theorem dX8_setAside_13 : decode cX8_setAside 13 = .ok (.iaload, 1) := by decide +kernel
theorem dX8_setAside_14 : decode cX8_setAside 14 = .ok (.iastore, 1) := by decide +kernel
theorem dX8_setAside_15 : decode cX8_setAside 15 = .ok (.iinc 3 1, 3) := by decide +kernel
theorem dX8_setAside_18 : decode cX8_setAside 18 = .ok (.goto (-16), 3) := by decide +kernel
theorem dX8_setAside_21 : decode cX8_setAside 21 = .ok (.return_, 1) := by decide +kernel
theorem dX8_check_0 : decode cX8_check 0 = .ok (.aload_n 0, 1) := by decide +kernel
theorem dX8_check_1 : decode cX8_check 1 = .ok (.getfield 324, 3) := by decide +kernel
theorem dX8_check_4 : decode cX8_check 4 = .ok (.istore_n 2, 1) := by decide +kernel
theorem dX8_check_5 : decode cX8_check 5 = .ok (.aload_n 0, 1) := by decide +kernel
theorem dX8_check_6 : decode cX8_check 6 = .ok (.iconst 0, 1) := by decide +kernel
theorem dX8_check_7 : decode cX8_check 7 = .ok (.putfield 324, 3) := by decide +kernel
theorem dX8_check_10 : decode cX8_check 10 = .ok (.iload_n 1, 1) := by decide +kernel
theorem dX8_check_11 : decode cX8_check 11 = .ok (.i2l, 1) := by decide +kernel
theorem dX8_check_12 : decode cX8_check 12 = .ok (.lconst 1, 1) := by decide +kernel
theorem dX8_check_13 : decode cX8_check 13 = .ok (.ldc2_w 327, 3) := by decide +kernel
theorem dX8_check_16 : decode cX8_check 16 = .ok (.invokestatic 65, 3) := by decide +kernel
theorem dX8_check_19 : decode cX8_check 19 = .ok (.ifCond .ne 6, 3) := by decide +kernel
theorem dX8_check_22 : decode cX8_check 22 = .ok (.ldc 88, 2) := by decide +kernel
theorem dX8_check_24 : decode cX8_check 24 = .ok (.ireturn, 1) := by decide +kernel
theorem dX8_check_25 : decode cX8_check 25 = .ok (.aload_n 0, 1) := by decide +kernel
theorem dX8_check_26 : decode cX8_check 26 = .ok (.getfield 329, 3) := by decide +kernel
theorem dX8_check_29 : decode cX8_check 29 = .ok (.ifCond .ne 6, 3) := by decide +kernel
theorem dX8_check_32 : decode cX8_check 32 = .ok (.ldc 93, 2) := by decide +kernel
theorem dX8_check_34 : decode cX8_check 34 = .ok (.ireturn, 1) := by decide +kernel
theorem dX8_check_35 : decode cX8_check 35 = .ok (.aload_n 0, 1) := by decide +kernel
theorem dX8_check_36 : decode cX8_check 36 = .ok (.aload_n 0, 1) := by decide +kernel
theorem dX8_check_37 : decode cX8_check 37 = .ok (.getfield 7, 3) := by decide +kernel
theorem dX8_check_40 : decode cX8_check 40 = .ok (.aload_n 0, 1) := by decide +kernel
theorem dX8_check_41 : decode cX8_check 41 = .ok (.getfield 16, 3) := by decide +kernel
theorem dX8_check_44 : decode cX8_check 44 = .ok (.invokevirtual 333, 3) := by decide +kernel
theorem dX8_check_47 : decode cX8_check 47 = .ok (.aload_n 0, 1) := by decide +kernel
theorem dX8_check_48 : decode cX8_check 48 = .ok (.aload_n 0, 1) := by decide +kernel
theorem dX8_check_49 : decode cX8_check 49 = .ok (.getfield 13, 3) := by decide +kernel
theorem dX8_check_52 : decode cX8_check 52 = .ok (.aload_n 0, 1) := by decide +kernel
theorem dX8_check_53 : decode cX8_check 53 = .ok (.getfield 7, 3) := by decide +kernel
theorem dX8_check_56 : decode cX8_check 56 = .ok (.invokevirtual 333, 3) := by decide +kernel
theorem dX8_check_59 : decode cX8_check 59 = .ok (.iconst 0, 1) := by decide +kernel
theorem dX8_check_60 : decode cX8_check 60 = .ok (.istore_n 3, 1) := by decide +kernel
theorem dX8_check_61 : decode cX8_check 61 = .ok (.iconst 0, 1) := by decide +kernel
theorem dX8_check_62 : decode cX8_check 62 = .ok (.istore 4, 2) := by decide +kernel
theorem dX8_check_64 : decode cX8_check 64 = .ok (.iload 4, 2) := by decide +kernel
theorem dX8_check_66 : decode cX8_check 66 = .ok (.iload_n 1, 1) := by decide +kernel
theorem dX8_check_67 : decode cX8_check 67 = .ok (.if_icmp .ge 53, 3) := by decide +kernel
theorem dX8_check_70 : decode cX8_check 70 = .ok (.aload_n 0, 1) := by decide +kernel
theorem dX8_check_71 : decode cX8_check 71 = .ok (.getfield 7, 3) := by decide +kernel
theorem dX8_check_74 : decode cX8_check 74 = .ok (.iconst 2, 1) := by decide +kernel
theorem dX8_check_75 : decode cX8_check 75 = .ok (.iaload, 1) := by decide +kernel
theorem dX8_check_76 : decode cX8_check 76 = .ok (.sipush 9999, 3) := by decide +kernel
theorem dX8_check_79 : decode cX8_check 79 = .ok (.if_icmp .ge 41, 3) := by decide +kernel
theorem dX8_check_82 : decode cX8_check 82 = .ok (.aload_n 0, 1) := by decide +kernel
theorem dX8_check_83 : decode cX8_check 83 = .ok (.invokevirtual 176, 3) := by decide +kernel
theorem dX8_check_86 : decode cX8_check 86 = .ok (.aload_n 0, 1) := by decide +kernel
theorem dX8_check_87 : decode cX8_check 87 = .ok (.getfield 61, 3) := by decide +kernel
theorem dX8_check_90 : decode cX8_check 90 = .ok (.iload_n 3, 1) := by decide +kernel
theorem dX8_check_91 : decode cX8_check 91 = .ok (.aload_n 0, 1) := by decide +kernel
theorem dX8_check_92 : decode cX8_check 92 = .ok (.getfield 7, 3) := by decide +kernel
theorem dX8_check_95 : decode cX8_check 95 = .ok (.bipush 7, 2) := by decide +kernel
theorem dX8_check_97 : decode cX8_check 97 = .ok (.iaload, 1) := by decide +kernel
theorem dX8_check_98 : decode cX8_check 98 = .ok (.iastore, 1) := by decide +kernel
theorem dX8_check_99 : decode cX8_check 99 = .ok (.aload_n 0, 1) := by decide +kernel
theorem dX8_check_100 : decode cX8_check 100 = .ok (.getfield 61, 3) := by decide +kernel
theorem dX8_check_103 : decode cX8_check 103 = .ok (.iload_n 3, 1) := by decide +kernel
theorem dX8_check_104 : decode cX8_check 104 = .ok (.iconst 1, 1) := by decide +kernel
theorem dX8_check_105 : decode cX8_check 105 = .ok (.iadd, 1) := by decide +kernel
theorem dX8_check_106 : decode cX8_check 106 = .ok (.aload_n 0, 1) := by decide +kernel
theorem dX8_check_107 : decode cX8_check 107 = .ok (.invokevirtual 190, 3) := by decide +kernel
theorem dX8_check_110 : decode cX8_check 110 = .ok (.iastore, 1) := by decide +kernel
theorem dX8_check_111 : decode cX8_check 111 = .ok (.iinc 3 2, 3) := by decide +kernel
theorem dX8_check_114 : decode cX8_check 114 = .ok (.iinc 4 1, 3) := by decide +kernel
theorem dX8_check_117 : decode cX8_check 117 = .ok (.goto (-53), 3) := by decide +kernel
theorem dX8_check_120 : decode cX8_check 120 = .ok (.aload_n 0, 1) := by decide +kernel
theorem dX8_check_121 : decode cX8_check 121 = .ok (.aload_n 0, 1) := by decide +kernel
theorem dX8_check_122 : decode cX8_check 122 = .ok (.getfield 16, 3) := by decide +kernel
theorem dX8_check_125 : decode cX8_check 125 = .ok (.aload_n 0, 1) := by decide +kernel
theorem dX8_check_126 : decode cX8_check 126 = .ok (.getfield 7, 3) := by decide +kernel
theorem dX8_check_129 : decode cX8_check 129 = .ok (.invokevirtual 333, 3) := by decide +kernel
theorem dX8_check_132 : decode cX8_check 132 = .ok (.iconst 0, 1) := by decide +kernel
theorem dX8_check_133 : decode cX8_check 133 = .ok (.istore 4, 2) := by decide +kernel
theorem dX8_check_135 : decode cX8_check 135 = .ok (.iload 4, 2) := by decide +kernel
theorem dX8_check_137 : decode cX8_check 137 = .ok (.iload_n 2, 1) := by decide +kernel
theorem dX8_check_138 : decode cX8_check 138 = .ok (.if_icmp .ge 32, 3) := by decide +kernel
theorem dX8_check_141 : decode cX8_check 141 = .ok (.iload 4, 2) := by decide +kernel
theorem dX8_check_143 : decode cX8_check 143 = .ok (.iload_n 3, 1) := by decide +kernel
theorem dX8_check_144 : decode cX8_check 144 = .ok (.if_icmp .ge 26, 3) := by decide +kernel
theorem dX8_check_147 : decode cX8_check 147 = .ok (.aload_n 0, 1) := by decide +kernel
theorem dX8_check_148 : decode cX8_check 148 = .ok (.getfield 58, 3) := by decide +kernel
theorem dX8_check_151 : decode cX8_check 151 = .ok (.iload 4, 2) := by decide +kernel
theorem dX8_check_153 : decode cX8_check 153 = .ok (.iaload, 1) := by decide +kernel
theorem dX8_check_154 : decode cX8_check 154 = .ok (.aload_n 0, 1) := by decide +kernel
theorem dX8_check_155 : decode cX8_check 155 = .ok (.getfield 61, 3) := by decide +kernel
theorem dX8_check_158 : decode cX8_check 158 = .ok (.iload 4, 2) := by decide +kernel
theorem dX8_check_160 : decode cX8_check 160 = .ok (.iaload, 1) := by decide +kernel
theorem dX8_check_161 : decode cX8_check 161 = .ok (.if_icmp .ne 9, 3) := by decide +kernel
theorem dX8_check_164 : decode cX8_check 164 = .ok (.iinc 4 1, 3) := by decide +kernel
theorem dX8_check_167 : decode cX8_check 167 = .ok (.goto (-32), 3) := by decide +kernel
theorem dX8_check_170 : decode cX8_check 170 = .ok (.iload 4, 2) := by decide +kernel
theorem dX8_check_172 : decode cX8_check 172 = .ok (.iload_n 2, 1) := by decide +kernel
theorem dX8_check_173 : decode cX8_check 173 = .ok (.if_icmp .ne 13, 3) := by decide +kernel
theorem dX8_check_176 : decode cX8_check 176 = .ok (.iload 4, 2) := by decide +kernel
theorem dX8_check_178 : decode cX8_check 178 = .ok (.iload_n 3, 1) := by decide +kernel
theorem dX8_check_179 : decode cX8_check 179 = .ok (.if_icmp .ne 7, 3) := by decide +kernel
theorem dX8_check_182 : decode cX8_check 182 = .ok (.iconst 0, 1) := by decide +kernel
theorem dX8_check_183 : decode cX8_check 183 = .ok (.goto 7, 3) := by decide +kernel
theorem dX8_check_186 : decode cX8_check 186 = .ok (.iconst 1, 1) := by decide +kernel
theorem dX8_check_187 : decode cX8_check 187 = .ok (.iload 4, 2) := by decide +kernel
theorem dX8_check_189 : decode cX8_check 189 = .ok (.iadd, 1) := by decide +kernel
theorem dX8_check_190 : decode cX8_check 190 = .ok (.ireturn, 1) := by decide +kernel
theorem dX8_keep_0 : decode cX8_keep 0 = .ok (.aload_n 0, 1) := by decide +kernel
theorem dX8_keep_1 : decode cX8_keep 1 = .ok (.iconst 1, 1) := by decide +kernel
theorem dX8_keep_2 : decode cX8_keep 2 = .ok (.putfield 329, 3) := by decide +kernel
theorem dX8_keep_5 : decode cX8_keep 5 = .ok (.aload_n 0, 1) := by decide +kernel
theorem dX8_keep_6 : decode cX8_keep 6 = .ok (.aload_n 0, 1) := by decide +kernel
theorem dX8_keep_7 : decode cX8_keep 7 = .ok (.getfield 7, 3) := by decide +kernel
theorem dX8_keep_10 : decode cX8_keep 10 = .ok (.aload_n 0, 1) := by decide +kernel
theorem dX8_keep_11 : decode cX8_keep 11 = .ok (.getfield 13, 3) := by decide +kernel
theorem dX8_keep_14 : decode cX8_keep 14 = .ok (.invokevirtual 333, 3) := by decide +kernel
theorem dX8_keep_17 : decode cX8_keep 17 = .ok (.aload_n 0, 1) := by decide +kernel
theorem dX8_keep_18 : decode cX8_keep 18 = .ok (.getfield 7, 3) := by decide +kernel
theorem dX8_keep_21 : decode cX8_keep 21 = .ok (.iconst 0, 1) := by decide +kernel
theorem dX8_keep_22 : decode cX8_keep 22 = .ok (.iaload, 1) := by decide +kernel
theorem dX8_keep_23 : decode cX8_keep 23 = .ok (.ireturn, 1) := by decide +kernel
theorem dX8_back_0 : decode cX8_back 0 = .ok (.aload_n 0, 1) := by decide +kernel
theorem dX8_back_1 : decode cX8_back 1 = .ok (.getfield 329, 3) := by decide +kernel
theorem dX8_back_4 : decode cX8_back 4 = .ok (.ifCond .ne 6, 3) := by decide +kernel
theorem dX8_back_7 : decode cX8_back 7 = .ok (.ldc 93, 2) := by decide +kernel
theorem dX8_back_9 : decode cX8_back 9 = .ok (.ireturn, 1) := by decide +kernel
theorem dX8_back_10 : decode cX8_back 10 = .ok (.aload_n 0, 1) := by decide +kernel
theorem dX8_back_11 : decode cX8_back 11 = .ok (.aload_n 0, 1) := by decide +kernel
theorem dX8_back_12 : decode cX8_back 12 = .ok (.getfield 13, 3) := by decide +kernel
theorem dX8_back_15 : decode cX8_back 15 = .ok (.aload_n 0, 1) := by decide +kernel
theorem dX8_back_16 : decode cX8_back 16 = .ok (.getfield 7, 3) := by decide +kernel
theorem dX8_back_19 : decode cX8_back 19 = .ok (.invokevirtual 333, 3) := by decide +kernel
theorem dX8_back_22 : decode cX8_back 22 = .ok (.aload_n 0, 1) := by decide +kernel
theorem dX8_back_23 : decode cX8_back 23 = .ok (.getfield 7, 3) := by decide +kernel
theorem dX8_back_26 : decode cX8_back 26 = .ok (.iconst 0, 1) := by decide +kernel
theorem dX8_back_27 : decode cX8_back 27 = .ok (.iaload, 1) := by decide +kernel
theorem dX8_back_28 : decode cX8_back 28 = .ok (.ireturn, 1) := by decide +kernel
theorem dX8_count_0 : decode cX8_count 0 = .ok (.iload_n 1, 1) := by decide +kernel
theorem dX8_count_1 : decode cX8_count 1 = .ok (.tableswitch 123 0 9 #[55, 62, 69, 76, 83, 90, 98, 105, 110, 115], 55) := by decide +kernel
theorem dX8_count_56 : decode cX8_count 56 = .ok (.aload_n 0, 1) := by decide +kernel
theorem dX8_count_57 : decode cX8_count 57 = .ok (.getfield 7, 3) := by decide +kernel
theorem dX8_count_60 : decode cX8_count 60 = .ok (.iconst 0, 1) := by decide +kernel
theorem dX8_count_61 : decode cX8_count 61 = .ok (.iaload, 1) := by decide +kernel
theorem dX8_count_62 : decode cX8_count 62 = .ok (.ireturn, 1) := by decide +kernel
theorem dX8_count_63 : decode cX8_count 63 = .ok (.aload_n 0, 1) := by decide +kernel
theorem dX8_count_64 : decode cX8_count 64 = .ok (.getfield 7, 3) := by decide +kernel
theorem dX8_count_67 : decode cX8_count 67 = .ok (.iconst 2, 1) := by decide +kernel
theorem dX8_count_68 : decode cX8_count 68 = .ok (.iaload, 1) := by decide +kernel
theorem dX8_count_69 : decode cX8_count 69 = .ok (.ireturn, 1) := by decide +kernel
theorem dX8_count_70 : decode cX8_count 70 = .ok (.aload_n 0, 1) := by decide +kernel
theorem dX8_count_71 : decode cX8_count 71 = .ok (.getfield 7, 3) := by decide +kernel
theorem dX8_count_74 : decode cX8_count 74 = .ok (.iconst 3, 1) := by decide +kernel
theorem dX8_count_75 : decode cX8_count 75 = .ok (.iaload, 1) := by decide +kernel
theorem dX8_count_76 : decode cX8_count 76 = .ok (.ireturn, 1) := by decide +kernel
theorem dX8_count_77 : decode cX8_count 77 = .ok (.aload_n 0, 1) := by decide +kernel
theorem dX8_count_78 : decode cX8_count 78 = .ok (.getfield 7, 3) := by decide +kernel
theorem dX8_count_81 : decode cX8_count 81 = .ok (.iconst 4, 1) := by decide +kernel
theorem dX8_count_82 : decode cX8_count 82 = .ok (.iaload, 1) := by decide +kernel
theorem dX8_count_83 : decode cX8_count 83 = .ok (.ireturn, 1) := by decide +kernel
theorem dX8_count_84 : decode cX8_count 84 = .ok (.aload_n 0, 1) := by decide +kernel
theorem dX8_count_85 : decode cX8_count 85 = .ok (.getfield 7, 3) := by decide +kernel
theorem dX8_count_88 : decode cX8_count 88 = .ok (.iconst 5, 1) := by decide +kernel
theorem dX8_count_89 : decode cX8_count 89 = .ok (.iaload, 1) := by decide +kernel
theorem dX8_count_90 : decode cX8_count 90 = .ok (.ireturn, 1) := by decide +kernel
theorem dX8_count_91 : decode cX8_count 91 = .ok (.aload_n 0, 1) := by decide +kernel
theorem dX8_count_92 : decode cX8_count 92 = .ok (.getfield 7, 3) := by decide +kernel
theorem dX8_count_95 : decode cX8_count 95 = .ok (.bipush 6, 2) := by decide +kernel
theorem dX8_count_97 : decode cX8_count 97 = .ok (.iaload, 1) := by decide +kernel
theorem dX8_count_98 : decode cX8_count 98 = .ok (.ireturn, 1) := by decide +kernel
theorem dX8_count_99 : decode cX8_count 99 = .ok (.aload_n 0, 1) := by decide +kernel
theorem dX8_count_100 : decode cX8_count 100 = .ok (.getfield 7, 3) := by decide +kernel
theorem dX8_count_103 : decode cX8_count 103 = .ok (.iconst 1, 1) := by decide +kernel
theorem dX8_count_104 : decode cX8_count 104 = .ok (.iaload, 1) := by decide +kernel
theorem dX8_count_105 : decode cX8_count 105 = .ok (.ireturn, 1) := by decide +kernel
theorem dX8_count_106 : decode cX8_count 106 = .ok (.aload_n 0, 1) := by decide +kernel
theorem dX8_count_107 : decode cX8_count 107 = .ok (.getfield 324, 3) := by decide +kernel
theorem dX8_count_110 : decode cX8_count 110 = .ok (.ireturn, 1) := by decide +kernel
theorem dX8_count_111 : decode cX8_count 111 = .ok (.aload_n 0, 1) := by decide +kernel
theorem dX8_count_112 : decode cX8_count 112 = .ok (.getfield 207, 3) := by decide +kernel
theorem dX8_count_115 : decode cX8_count 115 = .ok (.ireturn, 1) := by decide +kernel
theorem dX8_count_116 : decode cX8_count 116 = .ok (.aload_n 0, 1) := by decide +kernel
theorem dX8_count_117 : decode cX8_count 117 = .ok (.getfield 7, 3) := by decide +kernel
theorem dX8_count_120 : decode cX8_count 120 = .ok (.bipush 11, 2) := by decide +kernel
theorem dX8_count_122 : decode cX8_count 122 = .ok (.iaload, 1) := by decide +kernel
theorem dX8_count_123 : decode cX8_count 123 = .ok (.ireturn, 1) := by decide +kernel
theorem dX8_count_124 : decode cX8_count 124 = .ok (.ldc 88, 2) := by decide +kernel
theorem dX8_count_126 : decode cX8_count 126 = .ok (.ireturn, 1) := by decide +kernel
theorem dJ9_abs_0f7a4_0 : decode cJ9_abs_0f7a4 0 = .ok (.iload_n 0, 1) := by decide +kernel
theorem dJ9_abs_0f7a4_1 : decode cJ9_abs_0f7a4 1 = .ok (.ifCond .ge 8, 3) := by decide +kernel
theorem dJ9_abs_0f7a4_4 : decode cJ9_abs_0f7a4 4 = .ok (.iload_n 0, 1) := by decide +kernel
theorem dJ9_abs_0f7a4_5 : decode cJ9_abs_0f7a4 5 = .ok (.ineg, 1) := by decide +kernel
theorem dJ9_abs_0f7a4_6 : decode cJ9_abs_0f7a4 6 = .ok (.goto 4, 3) := by decide +kernel
theorem dJ9_abs_0f7a4_9 : decode cJ9_abs_0f7a4 9 = .ok (.iload_n 0, 1) := by decide +kernel
theorem dJ9_abs_0f7a4_10 : decode cJ9_abs_0f7a4 10 = .ok (.ireturn, 1) := by decide +kernel
theorem dJ9_max_7cf53_0 : decode cJ9_max_7cf53 0 = .ok (.iload_n 0, 1) := by decide +kernel
theorem dJ9_max_7cf53_1 : decode cJ9_max_7cf53 1 = .ok (.iload_n 1, 1) := by decide +kernel
theorem dJ9_max_7cf53_2 : decode cJ9_max_7cf53 2 = .ok (.if_icmp .lt 7, 3) := by decide +kernel
theorem dJ9_max_7cf53_5 : decode cJ9_max_7cf53 5 = .ok (.iload_n 0, 1) := by decide +kernel
theorem dJ9_max_7cf53_6 : decode cJ9_max_7cf53 6 = .ok (.goto 4, 3) := by decide +kernel
theorem dJ9_max_7cf53_9 : decode cJ9_max_7cf53 9 = .ok (.iload_n 1, 1) := by decide +kernel
theorem dJ9_max_7cf53_10 : decode cJ9_max_7cf53 10 = .ok (.ireturn, 1) := by decide +kernel
theorem dJ9_min_7cf53_0 : decode cJ9_min_7cf53 0 = .ok (.iload_n 0, 1) := by decide +kernel
theorem dJ9_min_7cf53_1 : decode cJ9_min_7cf53 1 = .ok (.iload_n 1, 1) := by decide +kernel
theorem dJ9_min_7cf53_2 : decode cJ9_min_7cf53 2 = .ok (.if_icmp .gt 7, 3) := by decide +kernel
theorem dJ9_min_7cf53_5 : decode cJ9_min_7cf53 5 = .ok (.iload_n 0, 1) := by decide +kernel
theorem dJ9_min_7cf53_6 : decode cJ9_min_7cf53 6 = .ok (.goto 4, 3) := by decide +kernel
theorem dJ9_min_7cf53_9 : decode cJ9_min_7cf53 9 = .ok (.iload_n 1, 1) := by decide +kernel
theorem dJ9_min_7cf53_10 : decode cJ9_min_7cf53 10 = .ok (.ireturn, 1) := by decide +kernel
theorem dJ0_length_8abf5_0 : decode cJ0_length_8abf5 0 = .ok (.aload_n 0, 1) := by decide +kernel
theorem dJ0_length_8abf5_1 : decode cJ0_length_8abf5 1 = .ok (.getfield 9, 3) := by decide +kernel
theorem dJ0_length_8abf5_4 : decode cJ0_length_8abf5 4 = .ok (.arraylength, 1) := by decide +kernel
theorem dJ0_length_8abf5_5 : decode cJ0_length_8abf5 5 = .ok (.aload_n 0, 1) := by decide +kernel
theorem dJ0_length_8abf5_6 : decode cJ0_length_8abf5 6 = .ok (.invokevirtual 335, 3) := by decide +kernel
theorem dJ0_length_8abf5_9 : decode cJ0_length_8abf5 9 = .ok (.ishr, 1) := by decide +kernel
theorem dJ0_length_8abf5_10 : decode cJ0_length_8abf5 10 = .ok (.ireturn, 1) := by decide +kernel
theorem dJ0_charAt_5068e_0 : decode cJ0_charAt_5068e 0 = .ok (.aload_n 0, 1) := by decide +kernel
theorem dJ0_charAt_5068e_1 : decode cJ0_charAt_5068e 1 = .ok (.invokevirtual 492, 3) := by decide +kernel
theorem dJ0_charAt_5068e_4 : decode cJ0_charAt_5068e 4 = .ok (.ifCond .eq 12, 3) := by decide +kernel
theorem dJ0_charAt_5068e_7 : decode cJ0_charAt_5068e 7 = .ok (.aload_n 0, 1) := by decide +kernel
theorem dJ0_charAt_5068e_8 : decode cJ0_charAt_5068e 8 = .ok (.getfield 9, 3) := by decide +kernel
theorem dJ0_charAt_5068e_11 : decode cJ0_charAt_5068e 11 = .ok (.iload_n 1, 1) := by decide +kernel
theorem dJ0_charAt_5068e_12 : decode cJ0_charAt_5068e 12 = .ok (.invokestatic 495, 3) := by decide +kernel
theorem dJ0_charAt_5068e_15 : decode cJ0_charAt_5068e 15 = .ok (.ireturn, 1) := by decide +kernel
theorem dJ0_charAt_5068e_16 : decode cJ0_charAt_5068e 16 = .ok (.aload_n 0, 1) := by decide +kernel
theorem dJ0_charAt_5068e_17 : decode cJ0_charAt_5068e 17 = .ok (.getfield 9, 3) := by decide +kernel
theorem dJ0_charAt_5068e_20 : decode cJ0_charAt_5068e 20 = .ok (.iload_n 1, 1) := by decide +kernel
theorem dJ0_charAt_5068e_21 : decode cJ0_charAt_5068e 21 = .ok (.invokestatic 498, 3) := by decide +kernel
theorem dJ0_charAt_5068e_24 : decode cJ0_charAt_5068e 24 = .ok (.ireturn, 1) := by decide +kernel
theorem dJ0_indexOf_0f7a4_0 : decode cJ0_indexOf_0f7a4 0 = .ok (.aload_n 0, 1) := by decide +kernel
theorem dJ0_indexOf_0f7a4_1 : decode cJ0_indexOf_0f7a4 1 = .ok (.iload_n 1, 1) := by decide +kernel
theorem dJ0_indexOf_0f7a4_2 : decode cJ0_indexOf_0f7a4 2 = .ok (.iconst 0, 1) := by decide +kernel
theorem dJ0_indexOf_0f7a4_3 : decode cJ0_indexOf_0f7a4 3 = .ok (.invokevirtual 633, 3) := by decide +kernel
theorem dJ0_indexOf_0f7a4_6 : decode cJ0_indexOf_0f7a4 6 = .ok (.ireturn, 1) := by decide +kernel
theorem dJ0_indexOf_7cf53_0 : decode cJ0_indexOf_7cf53 0 = .ok (.aload_n 0, 1) := by decide +kernel
theorem dJ0_indexOf_7cf53_1 : decode cJ0_indexOf_7cf53 1 = .ok (.invokevirtual 492, 3) := by decide +kernel
theorem dJ0_indexOf_7cf53_4 : decode cJ0_indexOf_7cf53 4 = .ok (.ifCond .eq 19, 3) := by decide +kernel
theorem dJ0_indexOf_7cf53_7 : decode cJ0_indexOf_7cf53 7 = .ok (.aload_n 0, 1) := by decide +kernel
theorem dJ0_indexOf_7cf53_8 : decode cJ0_indexOf_7cf53 8 = .ok (.getfield 9, 3) := by decide +kernel
theorem dJ0_indexOf_7cf53_11 : decode cJ0_indexOf_7cf53 11 = .ok (.iload_n 1, 1) := by decide +kernel
theorem dJ0_indexOf_7cf53_12 : decode cJ0_indexOf_7cf53 12 = .ok (.iload_n 2, 1) := by decide +kernel
theorem dJ0_indexOf_7cf53_13 : decode cJ0_indexOf_7cf53 13 = .ok (.aload_n 0, 1) := by decide +kernel
theorem dJ0_indexOf_7cf53_14 : decode cJ0_indexOf_7cf53 14 = .ok (.invokevirtual 505, 3) := by decide +kernel
theorem dJ0_indexOf_7cf53_17 : decode cJ0_indexOf_7cf53 17 = .ok (.invokestatic 637, 3) := by decide +kernel
theorem dJ0_indexOf_7cf53_20 : decode cJ0_indexOf_7cf53 20 = .ok (.goto 16, 3) := by decide +kernel
theorem dJ0_indexOf_7cf53_23 : decode cJ0_indexOf_7cf53 23 = .ok (.aload_n 0, 1) := by decide +kernel
theorem dJ0_indexOf_7cf53_24 : decode cJ0_indexOf_7cf53 24 = .ok (.getfield 9, 3) := by decide +kernel
theorem dJ0_indexOf_7cf53_27 : decode cJ0_indexOf_7cf53 27 = .ok (.iload_n 1, 1) := by decide +kernel
theorem dJ0_indexOf_7cf53_28 : decode cJ0_indexOf_7cf53 28 = .ok (.iload_n 2, 1) := by decide +kernel
theorem dJ0_indexOf_7cf53_29 : decode cJ0_indexOf_7cf53 29 = .ok (.aload_n 0, 1) := by decide +kernel
theorem dJ0_indexOf_7cf53_30 : decode cJ0_indexOf_7cf53 30 = .ok (.invokevirtual 505, 3) := by decide +kernel
theorem dJ0_indexOf_7cf53_33 : decode cJ0_indexOf_7cf53 33 = .ok (.invokestatic 640, 3) := by decide +kernel
theorem dJ0_indexOf_7cf53_36 : decode cJ0_indexOf_7cf53 36 = .ok (.ireturn, 1) := by decide +kernel
theorem dJ0_coder_7d493_0 : decode cJ0_coder_7d493 0 = .ok (.getstatic 38, 3) := by decide +kernel
theorem dJ0_coder_7d493_3 : decode cJ0_coder_7d493 3 = .ok (.ifCond .eq 10, 3) := by decide +kernel
theorem dJ0_coder_7d493_6 : decode cJ0_coder_7d493 6 = .ok (.aload_n 0, 1) := by decide +kernel
theorem dJ0_coder_7d493_7 : decode cJ0_coder_7d493 7 = .ok (.getfield 15, 3) := by decide +kernel
theorem dJ0_coder_7d493_10 : decode cJ0_coder_7d493 10 = .ok (.goto 4, 3) := by decide +kernel
theorem dJ0_coder_7d493_13 : decode cJ0_coder_7d493 13 = .ok (.iconst 1, 1) := by decide +kernel
theorem dJ0_coder_7d493_14 : decode cJ0_coder_7d493 14 = .ok (.ireturn, 1) := by decide +kernel
theorem dJ0_isLatin1_aae02_0 : decode cJ0_isLatin1_aae02 0 = .ok (.getstatic 38, 3) := by decide +kernel
theorem dJ0_isLatin1_aae02_3 : decode cJ0_isLatin1_aae02 3 = .ok (.ifCond .eq 14, 3) := by decide +kernel
theorem dJ0_isLatin1_aae02_6 : decode cJ0_isLatin1_aae02 6 = .ok (.aload_n 0, 1) := by decide +kernel
theorem dJ0_isLatin1_aae02_7 : decode cJ0_isLatin1_aae02 7 = .ok (.getfield 15, 3) := by decide +kernel
theorem dJ0_isLatin1_aae02_10 : decode cJ0_isLatin1_aae02 10 = .ok (.ifCond .ne 7, 3) := by decide +kernel
theorem dJ0_isLatin1_aae02_13 : decode cJ0_isLatin1_aae02 13 = .ok (.iconst 1, 1) := by decide +kernel
theorem dJ0_isLatin1_aae02_14 : decode cJ0_isLatin1_aae02 14 = .ok (.goto 4, 3) := by decide +kernel
theorem dJ0_isLatin1_aae02_17 : decode cJ0_isLatin1_aae02 17 = .ok (.iconst 0, 1) := by decide +kernel
theorem dJ0_isLatin1_aae02_18 : decode cJ0_isLatin1_aae02 18 = .ok (.ireturn, 1) := by decide +kernel
theorem dJ0_checkIndex_df160_0 : decode cJ0_checkIndex_df160 0 = .ok (.iload_n 0, 1) := by decide +kernel
theorem dJ0_checkIndex_df160_1 : decode cJ0_checkIndex_df160 1 = .ok (.iload_n 1, 1) := by decide +kernel
theorem dJ0_checkIndex_df160_2 : decode cJ0_checkIndex_df160 2 = .ok (.getstatic 1053, 3) := by decide +kernel
theorem dJ0_checkIndex_df160_5 : decode cJ0_checkIndex_df160 5 = .ok (.invokestatic 1059, 3) := by decide +kernel
theorem dJ0_checkIndex_df160_8 : decode cJ0_checkIndex_df160 8 = .ok (.pop, 1) := by decide +kernel
theorem dJ0_checkIndex_df160_9 : decode cJ0_checkIndex_df160 9 = .ok (.return_, 1) := by decide +kernel
theorem dJ0_checkBoundsBeginEnd_23922_0 : decode cJ0_checkBoundsBeginEnd_23922 0 = .ok (.iload_n 0, 1) := by decide +kernel
theorem dJ0_checkBoundsBeginEnd_23922_1 : decode cJ0_checkBoundsBeginEnd_23922 1 = .ok (.iload_n 1, 1) := by decide +kernel
theorem dJ0_checkBoundsBeginEnd_23922_2 : decode cJ0_checkBoundsBeginEnd_23922 2 = .ok (.iload_n 2, 1) := by decide +kernel
theorem dJ0_checkBoundsBeginEnd_23922_3 : decode cJ0_checkBoundsBeginEnd_23922 3 = .ok (.getstatic 1053, 3) := by decide +kernel
theorem dJ0_checkBoundsBeginEnd_23922_6 : decode cJ0_checkBoundsBeginEnd_23922 6 = .ok (.invokestatic 1062, 3) := by decide +kernel
theorem dJ0_checkBoundsBeginEnd_23922_9 : decode cJ0_checkBoundsBeginEnd_23922 9 = .ok (.pop, 1) := by decide +kernel
theorem dJ0_checkBoundsBeginEnd_23922_10 : decode cJ0_checkBoundsBeginEnd_23922 10 = .ok (.return_, 1) := by decide +kernel
theorem dJ1_charAt_3b067_0 : decode cJ1_charAt_3b067 0 = .ok (.iload_n 1, 1) := by decide +kernel
theorem dJ1_charAt_3b067_1 : decode cJ1_charAt_3b067 1 = .ok (.aload_n 0, 1) := by decide +kernel
theorem dJ1_charAt_3b067_2 : decode cJ1_charAt_3b067 2 = .ok (.arraylength, 1) := by decide +kernel
theorem dJ1_charAt_3b067_3 : decode cJ1_charAt_3b067 3 = .ok (.invokestatic 9, 3) := by decide +kernel
theorem dJ1_charAt_3b067_6 : decode cJ1_charAt_3b067 6 = .ok (.aload_n 0, 1) := by decide +kernel
theorem dJ1_charAt_3b067_7 : decode cJ1_charAt_3b067 7 = .ok (.iload_n 1, 1) := by decide +kernel
theorem dJ1_charAt_3b067_8 : decode cJ1_charAt_3b067 8 = .ok (.baload, 1) := by decide +kernel
theorem dJ1_charAt_3b067_9 : decode cJ1_charAt_3b067 9 = .ok (.sipush 255, 3) := by decide +kernel
theorem dJ1_charAt_3b067_12 : decode cJ1_charAt_3b067 12 = .ok (.iand, 1) := by decide +kernel
theorem dJ1_charAt_3b067_13 : decode cJ1_charAt_3b067 13 = .ok (.i2c, 1) := by decide +kernel
theorem dJ1_charAt_3b067_14 : decode cJ1_charAt_3b067 14 = .ok (.ireturn, 1) := by decide +kernel
theorem dJ1_canEncode_9a6ad_0 : decode cJ1_canEncode_9a6ad 0 = .ok (.iload_n 0, 1) := by decide +kernel
theorem dJ1_canEncode_9a6ad_1 : decode cJ1_canEncode_9a6ad 1 = .ok (.ifCond .lt 14, 3) := by decide +kernel
theorem dJ1_canEncode_9a6ad_4 : decode cJ1_canEncode_9a6ad 4 = .ok (.iload_n 0, 1) := by decide +kernel
theorem dJ1_canEncode_9a6ad_5 : decode cJ1_canEncode_9a6ad 5 = .ok (.sipush 255, 3) := by decide +kernel
theorem dJ1_canEncode_9a6ad_8 : decode cJ1_canEncode_9a6ad 8 = .ok (.if_icmp .gt 7, 3) := by decide +kernel
theorem dJ1_canEncode_9a6ad_11 : decode cJ1_canEncode_9a6ad 11 = .ok (.iconst 1, 1) := by decide +kernel
theorem dJ1_canEncode_9a6ad_12 : decode cJ1_canEncode_9a6ad 12 = .ok (.goto 4, 3) := by decide +kernel
theorem dJ1_canEncode_9a6ad_15 : decode cJ1_canEncode_9a6ad 15 = .ok (.iconst 0, 1) := by decide +kernel
theorem dJ1_canEncode_9a6ad_16 : decode cJ1_canEncode_9a6ad 16 = .ok (.ireturn, 1) := by decide +kernel
theorem dJ1_indexOf_4cfef_0 : decode cJ1_indexOf_4cfef 0 = .ok (.iload_n 1, 1) := by decide +kernel
theorem dJ1_indexOf_4cfef_1 : decode cJ1_indexOf_4cfef 1 = .ok (.invokestatic 88, 3) := by decide +kernel
theorem dJ1_indexOf_4cfef_4 : decode cJ1_indexOf_4cfef 4 = .ok (.ifCond .ne 5, 3) := by decide +kernel
theorem dJ1_indexOf_4cfef_7 : decode cJ1_indexOf_4cfef 7 = .ok (.iconst (-1), 1) := by decide +kernel
theorem dJ1_indexOf_4cfef_8 : decode cJ1_indexOf_4cfef 8 = .ok (.ireturn, 1) := by decide +kernel
theorem dJ1_indexOf_4cfef_9 : decode cJ1_indexOf_4cfef 9 = .ok (.iload_n 2, 1) := by decide +kernel
theorem dJ1_indexOf_4cfef_10 : decode cJ1_indexOf_4cfef 10 = .ok (.iconst 0, 1) := by decide +kernel
theorem dJ1_indexOf_4cfef_11 : decode cJ1_indexOf_4cfef 11 = .ok (.invokestatic 92, 3) := by decide +kernel
theorem dJ1_indexOf_4cfef_14 : decode cJ1_indexOf_4cfef 14 = .ok (.istore_n 2, 1) := by decide +kernel
theorem dJ1_indexOf_4cfef_15 : decode cJ1_indexOf_4cfef 15 = .ok (.iload_n 3, 1) := by decide +kernel
theorem dJ1_indexOf_4cfef_16 : decode cJ1_indexOf_4cfef 16 = .ok (.aload_n 0, 1) := by decide +kernel
theorem dJ1_indexOf_4cfef_17 : decode cJ1_indexOf_4cfef 17 = .ok (.arraylength, 1) := by decide +kernel
theorem dJ1_indexOf_4cfef_18 : decode cJ1_indexOf_4cfef 18 = .ok (.invokestatic 38, 3) := by decide +kernel
theorem dJ1_indexOf_4cfef_21 : decode cJ1_indexOf_4cfef 21 = .ok (.istore_n 3, 1) := by decide +kernel
theorem dJ1_indexOf_4cfef_22 : decode cJ1_indexOf_4cfef 22 = .ok (.iload_n 2, 1) := by decide +kernel
theorem dJ1_indexOf_4cfef_23 : decode cJ1_indexOf_4cfef 23 = .ok (.iload_n 3, 1) := by decide +kernel
theorem dJ1_indexOf_4cfef_24 : decode cJ1_indexOf_4cfef 24 = .ok (.if_icmp .lt 5, 3) := by decide +kernel
theorem dJ1_indexOf_4cfef_27 : decode cJ1_indexOf_4cfef 27 = .ok (.iconst (-1), 1) := by decide +kernel
theorem dJ1_indexOf_4cfef_28 : decode cJ1_indexOf_4cfef 28 = .ok (.ireturn, 1) := by decide +kernel
theorem dJ1_indexOf_4cfef_29 : decode cJ1_indexOf_4cfef 29 = .ok (.aload_n 0, 1) := by decide +kernel
theorem dJ1_indexOf_4cfef_30 : decode cJ1_indexOf_4cfef 30 = .ok (.iload_n 1, 1) := by decide +kernel
theorem dJ1_indexOf_4cfef_31 : decode cJ1_indexOf_4cfef 31 = .ok (.iload_n 2, 1) := by decide +kernel
theorem dJ1_indexOf_4cfef_32 : decode cJ1_indexOf_4cfef 32 = .ok (.iload_n 3, 1) := by decide +kernel
theorem dJ1_indexOf_4cfef_33 : decode cJ1_indexOf_4cfef 33 = .ok (.invokestatic 95, 3) := by decide +kernel
theorem dJ1_indexOf_4cfef_36 : decode cJ1_indexOf_4cfef 36 = .ok (.ireturn, 1) := by decide +kernel
theorem dJ1_indexOfChar_4cfef_0 : decode cJ1_indexOfChar_4cfef 0 = .ok (.iload_n 1, 1) := by decide +kernel
theorem dJ1_indexOfChar_4cfef_1 : decode cJ1_indexOfChar_4cfef 1 = .ok (.i2b, 1) := by decide +kernel
theorem dJ1_indexOfChar_4cfef_2 : decode cJ1_indexOfChar_4cfef 2 = .ok (.istore 4, 2) := by decide +kernel
theorem dJ1_indexOfChar_4cfef_4 : decode cJ1_indexOfChar_4cfef 4 = .ok (.iload_n 2, 1) := by decide +kernel
theorem dJ1_indexOfChar_4cfef_5 : decode cJ1_indexOfChar_4cfef 5 = .ok (.istore 5, 2) := by decide +kernel
theorem dJ1_indexOfChar_4cfef_7 : decode cJ1_indexOfChar_4cfef 7 = .ok (.iload 5, 2) := by decide +kernel
theorem dJ1_indexOfChar_4cfef_9 : decode cJ1_indexOfChar_4cfef 9 = .ok (.iload_n 3, 1) := by decide +kernel
theorem dJ1_indexOfChar_4cfef_10 : decode cJ1_indexOfChar_4cfef 10 = .ok (.if_icmp .ge 21, 3) := by decide +kernel
theorem dJ1_indexOfChar_4cfef_13 : decode cJ1_indexOfChar_4cfef 13 = .ok (.aload_n 0, 1) := by decide +kernel
theorem dJ1_indexOfChar_4cfef_14 : decode cJ1_indexOfChar_4cfef 14 = .ok (.iload 5, 2) := by decide +kernel
theorem dJ1_indexOfChar_4cfef_16 : decode cJ1_indexOfChar_4cfef 16 = .ok (.baload, 1) := by decide +kernel
theorem dJ1_indexOfChar_4cfef_17 : decode cJ1_indexOfChar_4cfef 17 = .ok (.iload 4, 2) := by decide +kernel
theorem dJ1_indexOfChar_4cfef_19 : decode cJ1_indexOfChar_4cfef 19 = .ok (.if_icmp .ne 6, 3) := by decide +kernel
theorem dJ1_indexOfChar_4cfef_22 : decode cJ1_indexOfChar_4cfef 22 = .ok (.iload 5, 2) := by decide +kernel
theorem dJ1_indexOfChar_4cfef_24 : decode cJ1_indexOfChar_4cfef 24 = .ok (.ireturn, 1) := by decide +kernel
theorem dJ1_indexOfChar_4cfef_25 : decode cJ1_indexOfChar_4cfef 25 = .ok (.iinc 5 1, 3) := by decide +kernel
theorem dJ1_indexOfChar_4cfef_28 : decode cJ1_indexOfChar_4cfef 28 = .ok (.goto (-21), 3) := by decide +kernel
theorem dJ1_indexOfChar_4cfef_31 : decode cJ1_indexOfChar_4cfef 31 = .ok (.iconst (-1), 1) := by decide +kernel
theorem dJ1_indexOfChar_4cfef_32 : decode cJ1_indexOfChar_4cfef 32 = .ok (.ireturn, 1) := by decide +kernel
theorem dJ7_fill_53178_0 : decode cJ7_fill_53178 0 = .ok (.iconst 0, 1) := by decide +kernel
theorem dJ7_fill_53178_1 : decode cJ7_fill_53178 1 = .ok (.istore_n 2, 1) := by decide +kernel
theorem dJ7_fill_53178_2 : decode cJ7_fill_53178 2 = .ok (.aload_n 0, 1) := by decide +kernel
theorem dJ7_fill_53178_3 : decode cJ7_fill_53178 3 = .ok (.arraylength, 1) := by decide +kernel
theorem dJ7_fill_53178_4 : decode cJ7_fill_53178 4 = .ok (.istore_n 3, 1) := by decide +kernel
theorem dJ7_fill_53178_5 : decode cJ7_fill_53178 5 = .ok (.iload_n 2, 1) := by decide +kernel
theorem dJ7_fill_53178_6 : decode cJ7_fill_53178 6 = .ok (.iload_n 3, 1) := by decide +kernel
theorem dJ7_fill_53178_7 : decode cJ7_fill_53178 7 = .ok (.if_icmp .ge 13, 3) := by decide +kernel
theorem dJ7_fill_53178_10 : decode cJ7_fill_53178 10 = .ok (.aload_n 0, 1) := by decide +kernel
theorem dJ7_fill_53178_11 : decode cJ7_fill_53178 11 = .ok (.iload_n 2, 1) := by decide +kernel
theorem dJ7_fill_53178_12 : decode cJ7_fill_53178 12 = .ok (.iload_n 1, 1) := by decide +kernel
theorem dJ7_fill_53178_13 : decode cJ7_fill_53178 13 = .ok (.iastore, 1) := by decide +kernel
theorem dJ7_fill_53178_14 : decode cJ7_fill_53178 14 = .ok (.iinc 2 1, 3) := by decide +kernel
theorem dJ7_fill_53178_17 : decode cJ7_fill_53178 17 = .ok (.goto (-12), 3) := by decide +kernel
theorem dJ7_fill_53178_20 : decode cJ7_fill_53178 20 = .ok (.return_, 1) := by decide +kernel
theorem dJ7_copyOf_59c91_0 : decode cJ7_copyOf_59c91 0 = .ok (.iload_n 1, 1) := by decide +kernel
theorem dJ7_copyOf_59c91_1 : decode cJ7_copyOf_59c91 1 = .ok (.aload_n 0, 1) := by decide +kernel
theorem dJ7_copyOf_59c91_2 : decode cJ7_copyOf_59c91 2 = .ok (.arraylength, 1) := by decide +kernel
theorem dJ7_copyOf_59c91_3 : decode cJ7_copyOf_59c91 3 = .ok (.if_icmp .ne 11, 3) := by decide +kernel
theorem dJ7_copyOf_59c91_6 : decode cJ7_copyOf_59c91 6 = .ok (.aload_n 0, 1) := by decide +kernel
theorem dJ7_copyOf_59c91_7 : decode cJ7_copyOf_59c91 7 = .ok (.invokevirtual 316, 3) := by decide +kernel
theorem dJ7_copyOf_59c91_10 : decode cJ7_copyOf_59c91 10 = .ok (.checkcast 317, 3) := by decide +kernel
theorem dJ7_copyOf_59c91_13 : decode cJ7_copyOf_59c91 13 = .ok (.areturn, 1) := by decide +kernel
theorem dJ7_copyOf_59c91_14 : decode cJ7_copyOf_59c91 14 = .ok (.iload_n 1, 1) := by decide +kernel
theorem dJ7_copyOf_59c91_15 : decode cJ7_copyOf_59c91 15 = .ok (.newarray .int, 2) := by decide +kernel
theorem dJ7_copyOf_59c91_17 : decode cJ7_copyOf_59c91 17 = .ok (.astore_n 2, 1) := by decide +kernel
theorem dJ7_copyOf_59c91_18 : decode cJ7_copyOf_59c91 18 = .ok (.aload_n 0, 1) := by decide +kernel
theorem dJ7_copyOf_59c91_19 : decode cJ7_copyOf_59c91 19 = .ok (.iconst 0, 1) := by decide +kernel
theorem dJ7_copyOf_59c91_20 : decode cJ7_copyOf_59c91 20 = .ok (.aload_n 2, 1) := by decide +kernel
theorem dJ7_copyOf_59c91_21 : decode cJ7_copyOf_59c91 21 = .ok (.iconst 0, 1) := by decide +kernel
theorem dJ7_copyOf_59c91_22 : decode cJ7_copyOf_59c91 22 = .ok (.aload_n 0, 1) := by decide +kernel
theorem dJ7_copyOf_59c91_23 : decode cJ7_copyOf_59c91 23 = .ok (.arraylength, 1) := by decide +kernel
theorem dJ7_copyOf_59c91_24 : decode cJ7_copyOf_59c91 24 = .ok (.iload_n 1, 1) := by decide +kernel
theorem dJ7_copyOf_59c91_25 : decode cJ7_copyOf_59c91 25 = .ok (.invokestatic 304, 3) := by decide +kernel
theorem dJ7_copyOf_59c91_28 : decode cJ7_copyOf_59c91 28 = .ok (.invokestatic 150, 3) := by decide +kernel
theorem dJ7_copyOf_59c91_31 : decode cJ7_copyOf_59c91 31 = .ok (.aload_n 2, 1) := by decide +kernel
theorem dJ7_copyOf_59c91_32 : decode cJ7_copyOf_59c91 32 = .ok (.areturn, 1) := by decide +kernel
theorem dJ3_checkIndex_8e157_0 : decode cJ3_checkIndex_8e157 0 = .ok (.iload_n 0, 1) := by decide +kernel
theorem dJ3_checkIndex_8e157_1 : decode cJ3_checkIndex_8e157 1 = .ok (.ifCond .lt 8, 3) := by decide +kernel
theorem dJ3_checkIndex_8e157_4 : decode cJ3_checkIndex_8e157 4 = .ok (.iload_n 0, 1) := by decide +kernel
theorem dJ3_checkIndex_8e157_5 : decode cJ3_checkIndex_8e157 5 = .ok (.iload_n 1, 1) := by decide +kernel
theorem dJ3_checkIndex_8e157_6 : decode cJ3_checkIndex_8e157 6 = .ok (.if_icmp .lt 10, 3) := by decide +kernel
theorem dJ3_checkIndex_8e157_9 : decode cJ3_checkIndex_8e157 9 = .ok (.aload_n 2, 1) := by decide +kernel
theorem dJ3_checkIndex_8e157_10 : decode cJ3_checkIndex_8e157 10 = .ok (.iload_n 0, 1) := by decide +kernel
theorem dJ3_checkIndex_8e157_11 : decode cJ3_checkIndex_8e157 11 = .ok (.iload_n 1, 1) := by decide +kernel
theorem dJ3_checkIndex_8e157_12 : decode cJ3_checkIndex_8e157 12 = .ok (.invokestatic 95, 3) := by decide +kernel
theorem dJ3_checkIndex_8e157_15 : decode cJ3_checkIndex_8e157 15 = .ok (.athrow, 1) := by decide +kernel
theorem dJ3_checkIndex_8e157_16 : decode cJ3_checkIndex_8e157 16 = .ok (.iload_n 0, 1) := by decide +kernel
theorem dJ3_checkIndex_8e157_17 : decode cJ3_checkIndex_8e157 17 = .ok (.ireturn, 1) := by decide +kernel
theorem dJ3_checkFromToIndex_8c36e_0 : decode cJ3_checkFromToIndex_8c36e 0 = .ok (.iload_n 0, 1) := by decide +kernel
theorem dJ3_checkFromToIndex_8c36e_1 : decode cJ3_checkFromToIndex_8c36e 1 = .ok (.ifCond .lt 13, 3) := by decide +kernel
theorem dJ3_checkFromToIndex_8c36e_4 : decode cJ3_checkFromToIndex_8c36e 4 = .ok (.iload_n 0, 1) := by decide +kernel
theorem dJ3_checkFromToIndex_8c36e_5 : decode cJ3_checkFromToIndex_8c36e 5 = .ok (.iload_n 1, 1) := by decide +kernel
theorem dJ3_checkFromToIndex_8c36e_6 : decode cJ3_checkFromToIndex_8c36e 6 = .ok (.if_icmp .gt 8, 3) := by decide +kernel
theorem dJ3_checkFromToIndex_8c36e_9 : decode cJ3_checkFromToIndex_8c36e 9 = .ok (.iload_n 1, 1) := by decide +kernel
theorem dJ3_checkFromToIndex_8c36e_10 : decode cJ3_checkFromToIndex_8c36e 10 = .ok (.iload_n 2, 1) := by decide +kernel
theorem dJ3_checkFromToIndex_8c36e_11 : decode cJ3_checkFromToIndex_8c36e 11 = .ok (.if_icmp .le 11, 3) := by decide +kernel
theorem dJ3_checkFromToIndex_8c36e_14 : decode cJ3_checkFromToIndex_8c36e 14 = .ok (.aload_n 3, 1) := by decide +kernel
theorem dJ3_checkFromToIndex_8c36e_15 : decode cJ3_checkFromToIndex_8c36e 15 = .ok (.iload_n 0, 1) := by decide +kernel
theorem dJ3_checkFromToIndex_8c36e_16 : decode cJ3_checkFromToIndex_8c36e 16 = .ok (.iload_n 1, 1) := by decide +kernel
theorem dJ3_checkFromToIndex_8c36e_17 : decode cJ3_checkFromToIndex_8c36e 17 = .ok (.iload_n 2, 1) := by decide +kernel
theorem dJ3_checkFromToIndex_8c36e_18 : decode cJ3_checkFromToIndex_8c36e 18 = .ok (.invokestatic 99, 3) := by decide +kernel
theorem dJ3_checkFromToIndex_8c36e_21 : decode cJ3_checkFromToIndex_8c36e 21 = .ok (.athrow, 1) := by decide +kernel
theorem dJ3_checkFromToIndex_8c36e_22 : decode cJ3_checkFromToIndex_8c36e 22 = .ok (.iload_n 0, 1) := by decide +kernel
theorem dJ3_checkFromToIndex_8c36e_23 : decode cJ3_checkFromToIndex_8c36e 23 = .ok (.ireturn, 1) := by decide +kernel
theorem dL_law_0 : decode cL_law 0 = .ok (.new 7, 3) := by decide +kernel
theorem dL_law_3 : decode cL_law 3 = .ok (.dup, 1) := by decide +kernel
theorem dL_law_4 : decode cL_law 4 = .ok (.invokespecial 9, 3) := by decide +kernel
theorem dL_law_7 : decode cL_law 7 = .ok (.astore_n 1, 1) := by decide +kernel
theorem dL_law_8 : decode cL_law 8 = .ok (.new 10, 3) := by decide +kernel
theorem dL_law_11 : decode cL_law 11 = .ok (.dup, 1) := by decide +kernel
theorem dL_law_12 : decode cL_law 12 = .ok (.invokespecial 12, 3) := by decide +kernel
theorem dL_law_15 : decode cL_law 15 = .ok (.astore_n 2, 1) := by decide +kernel
theorem dL_law_16 : decode cL_law 16 = .ok (.iconst 0, 1) := by decide +kernel
theorem dL_law_17 : decode cL_law 17 = .ok (.istore_n 3, 1) := by decide +kernel
theorem dL_law_18 : decode cL_law 18 = .ok (.iload_n 3, 1) := by decide +kernel
theorem dL_law_19 : decode cL_law 19 = .ok (.aload_n 0, 1) := by decide +kernel
theorem dL_law_20 : decode cL_law 20 = .ok (.arraylength, 1) := by decide +kernel
theorem dL_law_21 : decode cL_law 21 = .ok (.bipush 6, 2) := by decide +kernel
theorem dL_law_23 : decode cL_law 23 = .ok (.isub, 1) := by decide +kernel
theorem dL_law_24 : decode cL_law 24 = .ok (.if_icmp .gt 1414, 3) := by decide +kernel
theorem dL_law_27 : decode cL_law 27 = .ok (.aload_n 0, 1) := by decide +kernel
theorem dL_law_28 : decode cL_law 28 = .ok (.iload_n 3, 1) := by decide +kernel
theorem dL_law_29 : decode cL_law 29 = .ok (.iaload, 1) := by decide +kernel
theorem dL_law_30 : decode cL_law 30 = .ok (.bipush 63, 2) := by decide +kernel
theorem dL_law_32 : decode cL_law 32 = .ok (.iand, 1) := by decide +kernel
theorem dL_law_33 : decode cL_law 33 = .ok (.tableswitch 1399 0 41 #[183, 226, 259, 292, 325, 368, 401, 424, 457, 480, 503, 526, 549, 572, 605, 618, 651, 664, 697, 720, 763, 796, 809, 832, 875, 898, 911, 944, 967, 1010, 1053, 1076, 1099, 1162, 1205, 1238, 1271, 1304, 1327, 1350, 1363, 1376], 183) := by decide +kernel
theorem dL_law_216 : decode cL_law 216 = .ok (.aload_n 1, 1) := by decide +kernel
theorem dL_law_217 : decode cL_law 217 = .ok (.aload_n 0, 1) := by decide +kernel
theorem dL_law_218 : decode cL_law 218 = .ok (.iload_n 3, 1) := by decide +kernel
theorem dL_law_219 : decode cL_law 219 = .ok (.iconst 1, 1) := by decide +kernel
theorem dL_law_220 : decode cL_law 220 = .ok (.iadd, 1) := by decide +kernel
theorem dL_law_221 : decode cL_law 221 = .ok (.iaload, 1) := by decide +kernel
theorem dL_law_222 : decode cL_law 222 = .ok (.aload_n 0, 1) := by decide +kernel
theorem dL_law_223 : decode cL_law 223 = .ok (.iload_n 3, 1) := by decide +kernel
theorem dL_law_224 : decode cL_law 224 = .ok (.iconst 2, 1) := by decide +kernel
theorem dL_law_225 : decode cL_law 225 = .ok (.iadd, 1) := by decide +kernel
theorem dL_law_226 : decode cL_law 226 = .ok (.iaload, 1) := by decide +kernel
theorem dL_law_227 : decode cL_law 227 = .ok (.aload_n 0, 1) := by decide +kernel
theorem dL_law_228 : decode cL_law 228 = .ok (.iload_n 3, 1) := by decide +kernel
theorem dL_law_229 : decode cL_law 229 = .ok (.iconst 3, 1) := by decide +kernel
theorem dL_law_230 : decode cL_law 230 = .ok (.iadd, 1) := by decide +kernel
theorem dL_law_231 : decode cL_law 231 = .ok (.iaload, 1) := by decide +kernel
theorem dL_law_232 : decode cL_law 232 = .ok (.invokevirtual 13, 3) := by decide +kernel
theorem dL_law_235 : decode cL_law 235 = .ok (.aload_n 2, 1) := by decide +kernel
theorem dL_law_236 : decode cL_law 236 = .ok (.aload_n 0, 1) := by decide +kernel
theorem dL_law_237 : decode cL_law 237 = .ok (.iload_n 3, 1) := by decide +kernel
theorem dL_law_238 : decode cL_law 238 = .ok (.iconst 1, 1) := by decide +kernel
theorem dL_law_239 : decode cL_law 239 = .ok (.iadd, 1) := by decide +kernel
theorem dL_law_240 : decode cL_law 240 = .ok (.iaload, 1) := by decide +kernel
theorem dL_law_241 : decode cL_law 241 = .ok (.aload_n 0, 1) := by decide +kernel
theorem dL_law_242 : decode cL_law 242 = .ok (.iload_n 3, 1) := by decide +kernel
theorem dL_law_243 : decode cL_law 243 = .ok (.iconst 2, 1) := by decide +kernel
theorem dL_law_244 : decode cL_law 244 = .ok (.iadd, 1) := by decide +kernel
theorem dL_law_245 : decode cL_law 245 = .ok (.iaload, 1) := by decide +kernel
theorem dL_law_246 : decode cL_law 246 = .ok (.aload_n 0, 1) := by decide +kernel
theorem dL_law_247 : decode cL_law 247 = .ok (.iload_n 3, 1) := by decide +kernel
theorem dL_law_248 : decode cL_law 248 = .ok (.iconst 3, 1) := by decide +kernel
theorem dL_law_249 : decode cL_law 249 = .ok (.iadd, 1) := by decide +kernel
theorem dL_law_250 : decode cL_law 250 = .ok (.iaload, 1) := by decide +kernel
theorem dL_law_251 : decode cL_law 251 = .ok (.invokevirtual 17, 3) := by decide +kernel
theorem dL_law_254 : decode cL_law 254 = .ok (.if_icmp .eq 1178, 3) := by decide +kernel
theorem dL_law_257 : decode cL_law 257 = .ok (.iconst 0, 1) := by decide +kernel
theorem dL_law_258 : decode cL_law 258 = .ok (.ireturn, 1) := by decide +kernel
theorem dL_law_259 : decode cL_law 259 = .ok (.aload_n 1, 1) := by decide +kernel
theorem dL_law_260 : decode cL_law 260 = .ok (.aload_n 0, 1) := by decide +kernel
theorem dL_law_261 : decode cL_law 261 = .ok (.iload_n 3, 1) := by decide +kernel
theorem dL_law_262 : decode cL_law 262 = .ok (.iconst 1, 1) := by decide +kernel
theorem dL_law_263 : decode cL_law 263 = .ok (.iadd, 1) := by decide +kernel
theorem dL_law_264 : decode cL_law 264 = .ok (.iaload, 1) := by decide +kernel
theorem dL_law_265 : decode cL_law 265 = .ok (.aload_n 0, 1) := by decide +kernel
theorem dL_law_266 : decode cL_law 266 = .ok (.iload_n 3, 1) := by decide +kernel
theorem dL_law_267 : decode cL_law 267 = .ok (.iconst 2, 1) := by decide +kernel
theorem dL_law_268 : decode cL_law 268 = .ok (.iadd, 1) := by decide +kernel
theorem dL_law_269 : decode cL_law 269 = .ok (.iaload, 1) := by decide +kernel
theorem dL_law_270 : decode cL_law 270 = .ok (.invokevirtual 18, 3) := by decide +kernel
theorem dL_law_273 : decode cL_law 273 = .ok (.aload_n 2, 1) := by decide +kernel
theorem dL_law_274 : decode cL_law 274 = .ok (.aload_n 0, 1) := by decide +kernel
theorem dL_law_275 : decode cL_law 275 = .ok (.iload_n 3, 1) := by decide +kernel
theorem dL_law_276 : decode cL_law 276 = .ok (.iconst 1, 1) := by decide +kernel
theorem dL_law_277 : decode cL_law 277 = .ok (.iadd, 1) := by decide +kernel
theorem dL_law_278 : decode cL_law 278 = .ok (.iaload, 1) := by decide +kernel
theorem dL_law_279 : decode cL_law 279 = .ok (.aload_n 0, 1) := by decide +kernel
theorem dL_law_280 : decode cL_law 280 = .ok (.iload_n 3, 1) := by decide +kernel
theorem dL_law_281 : decode cL_law 281 = .ok (.iconst 2, 1) := by decide +kernel
theorem dL_law_282 : decode cL_law 282 = .ok (.iadd, 1) := by decide +kernel
theorem dL_law_283 : decode cL_law 283 = .ok (.iaload, 1) := by decide +kernel
theorem dL_law_284 : decode cL_law 284 = .ok (.invokevirtual 22, 3) := by decide +kernel
theorem dL_law_287 : decode cL_law 287 = .ok (.if_icmp .eq 1145, 3) := by decide +kernel
theorem dL_law_290 : decode cL_law 290 = .ok (.iconst 0, 1) := by decide +kernel
theorem dL_law_291 : decode cL_law 291 = .ok (.ireturn, 1) := by decide +kernel
theorem dL_law_292 : decode cL_law 292 = .ok (.aload_n 1, 1) := by decide +kernel
theorem dL_law_293 : decode cL_law 293 = .ok (.aload_n 0, 1) := by decide +kernel
theorem dL_law_294 : decode cL_law 294 = .ok (.iload_n 3, 1) := by decide +kernel
theorem dL_law_295 : decode cL_law 295 = .ok (.iconst 1, 1) := by decide +kernel
theorem dL_law_296 : decode cL_law 296 = .ok (.iadd, 1) := by decide +kernel
theorem dL_law_297 : decode cL_law 297 = .ok (.iaload, 1) := by decide +kernel
theorem dL_law_298 : decode cL_law 298 = .ok (.aload_n 0, 1) := by decide +kernel
theorem dL_law_299 : decode cL_law 299 = .ok (.iload_n 3, 1) := by decide +kernel
theorem dL_law_300 : decode cL_law 300 = .ok (.iconst 2, 1) := by decide +kernel
theorem dL_law_301 : decode cL_law 301 = .ok (.iadd, 1) := by decide +kernel
theorem dL_law_302 : decode cL_law 302 = .ok (.iaload, 1) := by decide +kernel
theorem dL_law_303 : decode cL_law 303 = .ok (.invokevirtual 23, 3) := by decide +kernel
theorem dL_law_306 : decode cL_law 306 = .ok (.aload_n 2, 1) := by decide +kernel
theorem dL_law_307 : decode cL_law 307 = .ok (.aload_n 0, 1) := by decide +kernel
theorem dL_law_308 : decode cL_law 308 = .ok (.iload_n 3, 1) := by decide +kernel
theorem dL_law_309 : decode cL_law 309 = .ok (.iconst 1, 1) := by decide +kernel
theorem dL_law_310 : decode cL_law 310 = .ok (.iadd, 1) := by decide +kernel
theorem dL_law_311 : decode cL_law 311 = .ok (.iaload, 1) := by decide +kernel
theorem dL_law_312 : decode cL_law 312 = .ok (.aload_n 0, 1) := by decide +kernel
theorem dL_law_313 : decode cL_law 313 = .ok (.iload_n 3, 1) := by decide +kernel
theorem dL_law_314 : decode cL_law 314 = .ok (.iconst 2, 1) := by decide +kernel
theorem dL_law_315 : decode cL_law 315 = .ok (.iadd, 1) := by decide +kernel
theorem dL_law_316 : decode cL_law 316 = .ok (.iaload, 1) := by decide +kernel
theorem dL_law_317 : decode cL_law 317 = .ok (.invokevirtual 26, 3) := by decide +kernel
theorem dL_law_320 : decode cL_law 320 = .ok (.if_icmp .eq 1112, 3) := by decide +kernel
theorem dL_law_323 : decode cL_law 323 = .ok (.iconst 0, 1) := by decide +kernel
theorem dL_law_324 : decode cL_law 324 = .ok (.ireturn, 1) := by decide +kernel
theorem dL_law_325 : decode cL_law 325 = .ok (.aload_n 1, 1) := by decide +kernel
theorem dL_law_326 : decode cL_law 326 = .ok (.aload_n 0, 1) := by decide +kernel
theorem dL_law_327 : decode cL_law 327 = .ok (.iload_n 3, 1) := by decide +kernel
theorem dL_law_328 : decode cL_law 328 = .ok (.iconst 1, 1) := by decide +kernel
theorem dL_law_329 : decode cL_law 329 = .ok (.iadd, 1) := by decide +kernel
theorem dL_law_330 : decode cL_law 330 = .ok (.iaload, 1) := by decide +kernel
theorem dL_law_331 : decode cL_law 331 = .ok (.aload_n 0, 1) := by decide +kernel
theorem dL_law_332 : decode cL_law 332 = .ok (.iload_n 3, 1) := by decide +kernel
theorem dL_law_333 : decode cL_law 333 = .ok (.iconst 2, 1) := by decide +kernel
theorem dL_law_334 : decode cL_law 334 = .ok (.iadd, 1) := by decide +kernel
theorem dL_law_335 : decode cL_law 335 = .ok (.iaload, 1) := by decide +kernel
theorem dL_law_336 : decode cL_law 336 = .ok (.invokevirtual 27, 3) := by decide +kernel
theorem dL_law_339 : decode cL_law 339 = .ok (.aload_n 2, 1) := by decide +kernel
theorem dL_law_340 : decode cL_law 340 = .ok (.aload_n 0, 1) := by decide +kernel
theorem dL_law_341 : decode cL_law 341 = .ok (.iload_n 3, 1) := by decide +kernel
theorem dL_law_342 : decode cL_law 342 = .ok (.iconst 1, 1) := by decide +kernel
theorem dL_law_343 : decode cL_law 343 = .ok (.iadd, 1) := by decide +kernel
theorem dL_law_344 : decode cL_law 344 = .ok (.iaload, 1) := by decide +kernel
theorem dL_law_345 : decode cL_law 345 = .ok (.aload_n 0, 1) := by decide +kernel
theorem dL_law_346 : decode cL_law 346 = .ok (.iload_n 3, 1) := by decide +kernel
theorem dL_law_347 : decode cL_law 347 = .ok (.iconst 2, 1) := by decide +kernel
theorem dL_law_348 : decode cL_law 348 = .ok (.iadd, 1) := by decide +kernel
theorem dL_law_349 : decode cL_law 349 = .ok (.iaload, 1) := by decide +kernel
theorem dL_law_350 : decode cL_law 350 = .ok (.invokevirtual 30, 3) := by decide +kernel
theorem dL_law_353 : decode cL_law 353 = .ok (.if_icmp .eq 1079, 3) := by decide +kernel
theorem dL_law_356 : decode cL_law 356 = .ok (.iconst 0, 1) := by decide +kernel
theorem dL_law_357 : decode cL_law 357 = .ok (.ireturn, 1) := by decide +kernel
theorem dL_law_358 : decode cL_law 358 = .ok (.aload_n 1, 1) := by decide +kernel
theorem dL_law_359 : decode cL_law 359 = .ok (.aload_n 0, 1) := by decide +kernel
theorem dL_law_360 : decode cL_law 360 = .ok (.iload_n 3, 1) := by decide +kernel
theorem dL_law_361 : decode cL_law 361 = .ok (.iconst 1, 1) := by decide +kernel
theorem dL_law_362 : decode cL_law 362 = .ok (.iadd, 1) := by decide +kernel
theorem dL_law_363 : decode cL_law 363 = .ok (.iaload, 1) := by decide +kernel
theorem dL_law_364 : decode cL_law 364 = .ok (.aload_n 0, 1) := by decide +kernel
theorem dL_law_365 : decode cL_law 365 = .ok (.iload_n 3, 1) := by decide +kernel
theorem dL_law_366 : decode cL_law 366 = .ok (.iconst 2, 1) := by decide +kernel
theorem dL_law_367 : decode cL_law 367 = .ok (.iadd, 1) := by decide +kernel
theorem dL_law_368 : decode cL_law 368 = .ok (.iaload, 1) := by decide +kernel
theorem dL_law_369 : decode cL_law 369 = .ok (.aload_n 0, 1) := by decide +kernel
theorem dL_law_370 : decode cL_law 370 = .ok (.iload_n 3, 1) := by decide +kernel
theorem dL_law_371 : decode cL_law 371 = .ok (.iconst 3, 1) := by decide +kernel
theorem dL_law_372 : decode cL_law 372 = .ok (.iadd, 1) := by decide +kernel
theorem dL_law_373 : decode cL_law 373 = .ok (.iaload, 1) := by decide +kernel
theorem dL_law_374 : decode cL_law 374 = .ok (.invokevirtual 31, 3) := by decide +kernel
theorem dL_law_377 : decode cL_law 377 = .ok (.aload_n 2, 1) := by decide +kernel
theorem dL_law_378 : decode cL_law 378 = .ok (.aload_n 0, 1) := by decide +kernel
theorem dL_law_379 : decode cL_law 379 = .ok (.iload_n 3, 1) := by decide +kernel
theorem dL_law_380 : decode cL_law 380 = .ok (.iconst 1, 1) := by decide +kernel
theorem dL_law_381 : decode cL_law 381 = .ok (.iadd, 1) := by decide +kernel
theorem dL_law_382 : decode cL_law 382 = .ok (.iaload, 1) := by decide +kernel
theorem dL_law_383 : decode cL_law 383 = .ok (.aload_n 0, 1) := by decide +kernel
theorem dL_law_384 : decode cL_law 384 = .ok (.iload_n 3, 1) := by decide +kernel
theorem dL_law_385 : decode cL_law 385 = .ok (.iconst 2, 1) := by decide +kernel
theorem dL_law_386 : decode cL_law 386 = .ok (.iadd, 1) := by decide +kernel
theorem dL_law_387 : decode cL_law 387 = .ok (.iaload, 1) := by decide +kernel
theorem dL_law_388 : decode cL_law 388 = .ok (.aload_n 0, 1) := by decide +kernel
theorem dL_law_389 : decode cL_law 389 = .ok (.iload_n 3, 1) := by decide +kernel
theorem dL_law_390 : decode cL_law 390 = .ok (.iconst 3, 1) := by decide +kernel
theorem dL_law_391 : decode cL_law 391 = .ok (.iadd, 1) := by decide +kernel
theorem dL_law_392 : decode cL_law 392 = .ok (.iaload, 1) := by decide +kernel
theorem dL_law_393 : decode cL_law 393 = .ok (.invokevirtual 34, 3) := by decide +kernel
theorem dL_law_396 : decode cL_law 396 = .ok (.if_icmp .eq 1036, 3) := by decide +kernel
theorem dL_law_399 : decode cL_law 399 = .ok (.iconst 0, 1) := by decide +kernel
theorem dL_law_400 : decode cL_law 400 = .ok (.ireturn, 1) := by decide +kernel
theorem dL_law_401 : decode cL_law 401 = .ok (.aload_n 1, 1) := by decide +kernel
theorem dL_law_402 : decode cL_law 402 = .ok (.aload_n 0, 1) := by decide +kernel
theorem dL_law_403 : decode cL_law 403 = .ok (.iload_n 3, 1) := by decide +kernel
theorem dL_law_404 : decode cL_law 404 = .ok (.iconst 1, 1) := by decide +kernel
theorem dL_law_405 : decode cL_law 405 = .ok (.iadd, 1) := by decide +kernel
theorem dL_law_406 : decode cL_law 406 = .ok (.iaload, 1) := by decide +kernel
theorem dL_law_407 : decode cL_law 407 = .ok (.aload_n 0, 1) := by decide +kernel
theorem dL_law_408 : decode cL_law 408 = .ok (.iload_n 3, 1) := by decide +kernel
theorem dL_law_409 : decode cL_law 409 = .ok (.iconst 2, 1) := by decide +kernel
theorem dL_law_410 : decode cL_law 410 = .ok (.iadd, 1) := by decide +kernel
theorem dL_law_411 : decode cL_law 411 = .ok (.iaload, 1) := by decide +kernel
theorem dL_law_412 : decode cL_law 412 = .ok (.invokevirtual 35, 3) := by decide +kernel
theorem dL_law_415 : decode cL_law 415 = .ok (.aload_n 2, 1) := by decide +kernel
theorem dL_law_416 : decode cL_law 416 = .ok (.aload_n 0, 1) := by decide +kernel
theorem dL_law_417 : decode cL_law 417 = .ok (.iload_n 3, 1) := by decide +kernel
theorem dL_law_418 : decode cL_law 418 = .ok (.iconst 1, 1) := by decide +kernel
theorem dL_law_419 : decode cL_law 419 = .ok (.iadd, 1) := by decide +kernel
theorem dL_law_420 : decode cL_law 420 = .ok (.iaload, 1) := by decide +kernel
theorem dL_law_421 : decode cL_law 421 = .ok (.aload_n 0, 1) := by decide +kernel
theorem dL_law_422 : decode cL_law 422 = .ok (.iload_n 3, 1) := by decide +kernel
theorem dL_law_423 : decode cL_law 423 = .ok (.iconst 2, 1) := by decide +kernel
theorem dL_law_424 : decode cL_law 424 = .ok (.iadd, 1) := by decide +kernel
theorem dL_law_425 : decode cL_law 425 = .ok (.iaload, 1) := by decide +kernel
theorem dL_law_426 : decode cL_law 426 = .ok (.invokevirtual 38, 3) := by decide +kernel
theorem dL_law_429 : decode cL_law 429 = .ok (.if_icmp .eq 1003, 3) := by decide +kernel
theorem dL_law_432 : decode cL_law 432 = .ok (.iconst 0, 1) := by decide +kernel
theorem dL_law_433 : decode cL_law 433 = .ok (.ireturn, 1) := by decide +kernel
theorem dL_law_434 : decode cL_law 434 = .ok (.aload_n 1, 1) := by decide +kernel
theorem dL_law_435 : decode cL_law 435 = .ok (.aload_n 0, 1) := by decide +kernel
theorem dL_law_436 : decode cL_law 436 = .ok (.iload_n 3, 1) := by decide +kernel
theorem dL_law_437 : decode cL_law 437 = .ok (.iconst 1, 1) := by decide +kernel
theorem dL_law_438 : decode cL_law 438 = .ok (.iadd, 1) := by decide +kernel
theorem dL_law_439 : decode cL_law 439 = .ok (.iaload, 1) := by decide +kernel
theorem dL_law_440 : decode cL_law 440 = .ok (.invokevirtual 39, 3) := by decide +kernel
theorem dL_law_443 : decode cL_law 443 = .ok (.aload_n 2, 1) := by decide +kernel
theorem dL_law_444 : decode cL_law 444 = .ok (.aload_n 0, 1) := by decide +kernel
theorem dL_law_445 : decode cL_law 445 = .ok (.iload_n 3, 1) := by decide +kernel
theorem dL_law_446 : decode cL_law 446 = .ok (.iconst 1, 1) := by decide +kernel
theorem dL_law_447 : decode cL_law 447 = .ok (.iadd, 1) := by decide +kernel
theorem dL_law_448 : decode cL_law 448 = .ok (.iaload, 1) := by decide +kernel
theorem dL_law_449 : decode cL_law 449 = .ok (.invokevirtual 43, 3) := by decide +kernel
theorem dL_law_452 : decode cL_law 452 = .ok (.if_icmp .eq 980, 3) := by decide +kernel
theorem dL_law_455 : decode cL_law 455 = .ok (.iconst 0, 1) := by decide +kernel
theorem dL_law_456 : decode cL_law 456 = .ok (.ireturn, 1) := by decide +kernel
theorem dL_law_457 : decode cL_law 457 = .ok (.aload_n 1, 1) := by decide +kernel
theorem dL_law_458 : decode cL_law 458 = .ok (.aload_n 0, 1) := by decide +kernel
theorem dL_law_459 : decode cL_law 459 = .ok (.iload_n 3, 1) := by decide +kernel
theorem dL_law_460 : decode cL_law 460 = .ok (.iconst 1, 1) := by decide +kernel
theorem dL_law_461 : decode cL_law 461 = .ok (.iadd, 1) := by decide +kernel
theorem dL_law_462 : decode cL_law 462 = .ok (.iaload, 1) := by decide +kernel
theorem dL_law_463 : decode cL_law 463 = .ok (.aload_n 0, 1) := by decide +kernel
theorem dL_law_464 : decode cL_law 464 = .ok (.iload_n 3, 1) := by decide +kernel
theorem dL_law_465 : decode cL_law 465 = .ok (.iconst 2, 1) := by decide +kernel
theorem dL_law_466 : decode cL_law 466 = .ok (.iadd, 1) := by decide +kernel
theorem dL_law_467 : decode cL_law 467 = .ok (.iaload, 1) := by decide +kernel
theorem dL_law_468 : decode cL_law 468 = .ok (.invokevirtual 44, 3) := by decide +kernel
theorem dL_law_471 : decode cL_law 471 = .ok (.aload_n 2, 1) := by decide +kernel
theorem dL_law_472 : decode cL_law 472 = .ok (.aload_n 0, 1) := by decide +kernel
theorem dL_law_473 : decode cL_law 473 = .ok (.iload_n 3, 1) := by decide +kernel
theorem dL_law_474 : decode cL_law 474 = .ok (.iconst 1, 1) := by decide +kernel
theorem dL_law_475 : decode cL_law 475 = .ok (.iadd, 1) := by decide +kernel
theorem dL_law_476 : decode cL_law 476 = .ok (.iaload, 1) := by decide +kernel
theorem dL_law_477 : decode cL_law 477 = .ok (.aload_n 0, 1) := by decide +kernel
theorem dL_law_478 : decode cL_law 478 = .ok (.iload_n 3, 1) := by decide +kernel
theorem dL_law_479 : decode cL_law 479 = .ok (.iconst 2, 1) := by decide +kernel
theorem dL_law_480 : decode cL_law 480 = .ok (.iadd, 1) := by decide +kernel
theorem dL_law_481 : decode cL_law 481 = .ok (.iaload, 1) := by decide +kernel
theorem dL_law_482 : decode cL_law 482 = .ok (.invokevirtual 47, 3) := by decide +kernel
theorem dL_law_485 : decode cL_law 485 = .ok (.if_icmp .eq 947, 3) := by decide +kernel
theorem dL_law_488 : decode cL_law 488 = .ok (.iconst 0, 1) := by decide +kernel
theorem dL_law_489 : decode cL_law 489 = .ok (.ireturn, 1) := by decide +kernel
theorem dL_law_490 : decode cL_law 490 = .ok (.aload_n 1, 1) := by decide +kernel
theorem dL_law_491 : decode cL_law 491 = .ok (.aload_n 0, 1) := by decide +kernel
theorem dL_law_492 : decode cL_law 492 = .ok (.iload_n 3, 1) := by decide +kernel
theorem dL_law_493 : decode cL_law 493 = .ok (.iconst 1, 1) := by decide +kernel
theorem dL_law_494 : decode cL_law 494 = .ok (.iadd, 1) := by decide +kernel
theorem dL_law_495 : decode cL_law 495 = .ok (.iaload, 1) := by decide +kernel
theorem dL_law_496 : decode cL_law 496 = .ok (.invokevirtual 48, 3) := by decide +kernel
theorem dL_law_499 : decode cL_law 499 = .ok (.aload_n 2, 1) := by decide +kernel
theorem dL_law_500 : decode cL_law 500 = .ok (.aload_n 0, 1) := by decide +kernel
theorem dL_law_501 : decode cL_law 501 = .ok (.iload_n 3, 1) := by decide +kernel
theorem dL_law_502 : decode cL_law 502 = .ok (.iconst 1, 1) := by decide +kernel
theorem dL_law_503 : decode cL_law 503 = .ok (.iadd, 1) := by decide +kernel
theorem dL_law_504 : decode cL_law 504 = .ok (.iaload, 1) := by decide +kernel
theorem dL_law_505 : decode cL_law 505 = .ok (.invokevirtual 51, 3) := by decide +kernel
theorem dL_law_508 : decode cL_law 508 = .ok (.if_icmp .eq 924, 3) := by decide +kernel
theorem dL_law_511 : decode cL_law 511 = .ok (.iconst 0, 1) := by decide +kernel
theorem dL_law_512 : decode cL_law 512 = .ok (.ireturn, 1) := by decide +kernel
theorem dL_law_513 : decode cL_law 513 = .ok (.aload_n 1, 1) := by decide +kernel
theorem dL_law_514 : decode cL_law 514 = .ok (.aload_n 0, 1) := by decide +kernel
theorem dL_law_515 : decode cL_law 515 = .ok (.iload_n 3, 1) := by decide +kernel
theorem dL_law_516 : decode cL_law 516 = .ok (.iconst 1, 1) := by decide +kernel
theorem dL_law_517 : decode cL_law 517 = .ok (.iadd, 1) := by decide +kernel
theorem dL_law_518 : decode cL_law 518 = .ok (.iaload, 1) := by decide +kernel
theorem dL_law_519 : decode cL_law 519 = .ok (.invokevirtual 52, 3) := by decide +kernel
theorem dL_law_522 : decode cL_law 522 = .ok (.aload_n 2, 1) := by decide +kernel
theorem dL_law_523 : decode cL_law 523 = .ok (.aload_n 0, 1) := by decide +kernel
theorem dL_law_524 : decode cL_law 524 = .ok (.iload_n 3, 1) := by decide +kernel
theorem dL_law_525 : decode cL_law 525 = .ok (.iconst 1, 1) := by decide +kernel
theorem dL_law_526 : decode cL_law 526 = .ok (.iadd, 1) := by decide +kernel
theorem dL_law_527 : decode cL_law 527 = .ok (.iaload, 1) := by decide +kernel
theorem dL_law_528 : decode cL_law 528 = .ok (.invokevirtual 55, 3) := by decide +kernel
theorem dL_law_531 : decode cL_law 531 = .ok (.if_icmp .eq 901, 3) := by decide +kernel
theorem dL_law_534 : decode cL_law 534 = .ok (.iconst 0, 1) := by decide +kernel
theorem dL_law_535 : decode cL_law 535 = .ok (.ireturn, 1) := by decide +kernel
theorem dL_law_536 : decode cL_law 536 = .ok (.aload_n 1, 1) := by decide +kernel
theorem dL_law_537 : decode cL_law 537 = .ok (.aload_n 0, 1) := by decide +kernel
theorem dL_law_538 : decode cL_law 538 = .ok (.iload_n 3, 1) := by decide +kernel
theorem dL_law_539 : decode cL_law 539 = .ok (.iconst 1, 1) := by decide +kernel
theorem dL_law_540 : decode cL_law 540 = .ok (.iadd, 1) := by decide +kernel
theorem dL_law_541 : decode cL_law 541 = .ok (.iaload, 1) := by decide +kernel
theorem dL_law_542 : decode cL_law 542 = .ok (.invokevirtual 56, 3) := by decide +kernel
theorem dL_law_545 : decode cL_law 545 = .ok (.aload_n 2, 1) := by decide +kernel
theorem dL_law_546 : decode cL_law 546 = .ok (.aload_n 0, 1) := by decide +kernel
theorem dL_law_547 : decode cL_law 547 = .ok (.iload_n 3, 1) := by decide +kernel
theorem dL_law_548 : decode cL_law 548 = .ok (.iconst 1, 1) := by decide +kernel
theorem dL_law_549 : decode cL_law 549 = .ok (.iadd, 1) := by decide +kernel
theorem dL_law_550 : decode cL_law 550 = .ok (.iaload, 1) := by decide +kernel
theorem dL_law_551 : decode cL_law 551 = .ok (.invokevirtual 59, 3) := by decide +kernel
theorem dL_law_554 : decode cL_law 554 = .ok (.if_icmp .eq 878, 3) := by decide +kernel
theorem dL_law_557 : decode cL_law 557 = .ok (.iconst 0, 1) := by decide +kernel
theorem dL_law_558 : decode cL_law 558 = .ok (.ireturn, 1) := by decide +kernel
theorem dL_law_559 : decode cL_law 559 = .ok (.aload_n 1, 1) := by decide +kernel
theorem dL_law_560 : decode cL_law 560 = .ok (.aload_n 0, 1) := by decide +kernel
theorem dL_law_561 : decode cL_law 561 = .ok (.iload_n 3, 1) := by decide +kernel
theorem dL_law_562 : decode cL_law 562 = .ok (.iconst 1, 1) := by decide +kernel
theorem dL_law_563 : decode cL_law 563 = .ok (.iadd, 1) := by decide +kernel
theorem dL_law_564 : decode cL_law 564 = .ok (.iaload, 1) := by decide +kernel
theorem dL_law_565 : decode cL_law 565 = .ok (.invokevirtual 60, 3) := by decide +kernel
theorem dL_law_568 : decode cL_law 568 = .ok (.aload_n 2, 1) := by decide +kernel
theorem dL_law_569 : decode cL_law 569 = .ok (.aload_n 0, 1) := by decide +kernel
theorem dL_law_570 : decode cL_law 570 = .ok (.iload_n 3, 1) := by decide +kernel
theorem dL_law_571 : decode cL_law 571 = .ok (.iconst 1, 1) := by decide +kernel
theorem dL_law_572 : decode cL_law 572 = .ok (.iadd, 1) := by decide +kernel
theorem dL_law_573 : decode cL_law 573 = .ok (.iaload, 1) := by decide +kernel
theorem dL_law_574 : decode cL_law 574 = .ok (.invokevirtual 63, 3) := by decide +kernel
theorem dL_law_577 : decode cL_law 577 = .ok (.if_icmp .eq 855, 3) := by decide +kernel
theorem dL_law_580 : decode cL_law 580 = .ok (.iconst 0, 1) := by decide +kernel
theorem dL_law_581 : decode cL_law 581 = .ok (.ireturn, 1) := by decide +kernel
theorem dL_law_582 : decode cL_law 582 = .ok (.aload_n 1, 1) := by decide +kernel
theorem dL_law_583 : decode cL_law 583 = .ok (.aload_n 0, 1) := by decide +kernel
theorem dL_law_584 : decode cL_law 584 = .ok (.iload_n 3, 1) := by decide +kernel
theorem dL_law_585 : decode cL_law 585 = .ok (.iconst 1, 1) := by decide +kernel
theorem dL_law_586 : decode cL_law 586 = .ok (.iadd, 1) := by decide +kernel
theorem dL_law_587 : decode cL_law 587 = .ok (.iaload, 1) := by decide +kernel
theorem dL_law_588 : decode cL_law 588 = .ok (.invokevirtual 64, 3) := by decide +kernel
theorem dL_law_591 : decode cL_law 591 = .ok (.aload_n 2, 1) := by decide +kernel
theorem dL_law_592 : decode cL_law 592 = .ok (.aload_n 0, 1) := by decide +kernel
theorem dL_law_593 : decode cL_law 593 = .ok (.iload_n 3, 1) := by decide +kernel
theorem dL_law_594 : decode cL_law 594 = .ok (.iconst 1, 1) := by decide +kernel
theorem dL_law_595 : decode cL_law 595 = .ok (.iadd, 1) := by decide +kernel
theorem dL_law_596 : decode cL_law 596 = .ok (.iaload, 1) := by decide +kernel
theorem dL_law_597 : decode cL_law 597 = .ok (.invokevirtual 67, 3) := by decide +kernel
theorem dL_law_600 : decode cL_law 600 = .ok (.if_icmp .eq 832, 3) := by decide +kernel
theorem dL_law_603 : decode cL_law 603 = .ok (.iconst 0, 1) := by decide +kernel
theorem dL_law_604 : decode cL_law 604 = .ok (.ireturn, 1) := by decide +kernel
theorem dL_law_605 : decode cL_law 605 = .ok (.aload_n 1, 1) := by decide +kernel
theorem dL_law_606 : decode cL_law 606 = .ok (.aload_n 0, 1) := by decide +kernel
theorem dL_law_607 : decode cL_law 607 = .ok (.iload_n 3, 1) := by decide +kernel
theorem dL_law_608 : decode cL_law 608 = .ok (.iconst 1, 1) := by decide +kernel
theorem dL_law_609 : decode cL_law 609 = .ok (.iadd, 1) := by decide +kernel
theorem dL_law_610 : decode cL_law 610 = .ok (.iaload, 1) := by decide +kernel
theorem dL_law_611 : decode cL_law 611 = .ok (.aload_n 0, 1) := by decide +kernel
theorem dL_law_612 : decode cL_law 612 = .ok (.iload_n 3, 1) := by decide +kernel
theorem dL_law_613 : decode cL_law 613 = .ok (.iconst 2, 1) := by decide +kernel
theorem dL_law_614 : decode cL_law 614 = .ok (.iadd, 1) := by decide +kernel
theorem dL_law_615 : decode cL_law 615 = .ok (.iaload, 1) := by decide +kernel
theorem dL_law_616 : decode cL_law 616 = .ok (.invokevirtual 68, 3) := by decide +kernel
theorem dL_law_619 : decode cL_law 619 = .ok (.aload_n 2, 1) := by decide +kernel
theorem dL_law_620 : decode cL_law 620 = .ok (.aload_n 0, 1) := by decide +kernel
theorem dL_law_621 : decode cL_law 621 = .ok (.iload_n 3, 1) := by decide +kernel
theorem dL_law_622 : decode cL_law 622 = .ok (.iconst 1, 1) := by decide +kernel
theorem dL_law_623 : decode cL_law 623 = .ok (.iadd, 1) := by decide +kernel
theorem dL_law_624 : decode cL_law 624 = .ok (.iaload, 1) := by decide +kernel
theorem dL_law_625 : decode cL_law 625 = .ok (.aload_n 0, 1) := by decide +kernel
theorem dL_law_626 : decode cL_law 626 = .ok (.iload_n 3, 1) := by decide +kernel
theorem dL_law_627 : decode cL_law 627 = .ok (.iconst 2, 1) := by decide +kernel
theorem dL_law_628 : decode cL_law 628 = .ok (.iadd, 1) := by decide +kernel
theorem dL_law_629 : decode cL_law 629 = .ok (.iaload, 1) := by decide +kernel
theorem dL_law_630 : decode cL_law 630 = .ok (.invokevirtual 71, 3) := by decide +kernel
theorem dL_law_633 : decode cL_law 633 = .ok (.if_icmp .eq 799, 3) := by decide +kernel
theorem dL_law_636 : decode cL_law 636 = .ok (.iconst 0, 1) := by decide +kernel
theorem dL_law_637 : decode cL_law 637 = .ok (.ireturn, 1) := by decide +kernel
theorem dL_law_638 : decode cL_law 638 = .ok (.aload_n 1, 1) := by decide +kernel
theorem dL_law_639 : decode cL_law 639 = .ok (.invokevirtual 72, 3) := by decide +kernel
theorem dL_law_642 : decode cL_law 642 = .ok (.aload_n 2, 1) := by decide +kernel
theorem dL_law_643 : decode cL_law 643 = .ok (.invokevirtual 76, 3) := by decide +kernel
theorem dL_law_646 : decode cL_law 646 = .ok (.if_icmp .eq 786, 3) := by decide +kernel
theorem dL_law_649 : decode cL_law 649 = .ok (.iconst 0, 1) := by decide +kernel
theorem dL_law_650 : decode cL_law 650 = .ok (.ireturn, 1) := by decide +kernel
theorem dL_law_651 : decode cL_law 651 = .ok (.aload_n 1, 1) := by decide +kernel
theorem dL_law_652 : decode cL_law 652 = .ok (.aload_n 0, 1) := by decide +kernel
theorem dL_law_653 : decode cL_law 653 = .ok (.iload_n 3, 1) := by decide +kernel
theorem dL_law_654 : decode cL_law 654 = .ok (.iconst 1, 1) := by decide +kernel
theorem dL_law_655 : decode cL_law 655 = .ok (.iadd, 1) := by decide +kernel
theorem dL_law_656 : decode cL_law 656 = .ok (.iaload, 1) := by decide +kernel
theorem dL_law_657 : decode cL_law 657 = .ok (.aload_n 0, 1) := by decide +kernel
theorem dL_law_658 : decode cL_law 658 = .ok (.iload_n 3, 1) := by decide +kernel
theorem dL_law_659 : decode cL_law 659 = .ok (.iconst 2, 1) := by decide +kernel
theorem dL_law_660 : decode cL_law 660 = .ok (.iadd, 1) := by decide +kernel
theorem dL_law_661 : decode cL_law 661 = .ok (.iaload, 1) := by decide +kernel
theorem dL_law_662 : decode cL_law 662 = .ok (.invokevirtual 77, 3) := by decide +kernel
theorem dL_law_665 : decode cL_law 665 = .ok (.aload_n 2, 1) := by decide +kernel
theorem dL_law_666 : decode cL_law 666 = .ok (.aload_n 0, 1) := by decide +kernel
theorem dL_law_667 : decode cL_law 667 = .ok (.iload_n 3, 1) := by decide +kernel
theorem dL_law_668 : decode cL_law 668 = .ok (.iconst 1, 1) := by decide +kernel
theorem dL_law_669 : decode cL_law 669 = .ok (.iadd, 1) := by decide +kernel
theorem dL_law_670 : decode cL_law 670 = .ok (.iaload, 1) := by decide +kernel
theorem dL_law_671 : decode cL_law 671 = .ok (.aload_n 0, 1) := by decide +kernel
theorem dL_law_672 : decode cL_law 672 = .ok (.iload_n 3, 1) := by decide +kernel
theorem dL_law_673 : decode cL_law 673 = .ok (.iconst 2, 1) := by decide +kernel
theorem dL_law_674 : decode cL_law 674 = .ok (.iadd, 1) := by decide +kernel
theorem dL_law_675 : decode cL_law 675 = .ok (.iaload, 1) := by decide +kernel
theorem dL_law_676 : decode cL_law 676 = .ok (.invokevirtual 80, 3) := by decide +kernel
theorem dL_law_679 : decode cL_law 679 = .ok (.if_icmp .eq 753, 3) := by decide +kernel
theorem dL_law_682 : decode cL_law 682 = .ok (.iconst 0, 1) := by decide +kernel
theorem dL_law_683 : decode cL_law 683 = .ok (.ireturn, 1) := by decide +kernel
theorem dL_law_684 : decode cL_law 684 = .ok (.aload_n 1, 1) := by decide +kernel
theorem dL_law_685 : decode cL_law 685 = .ok (.invokevirtual 81, 3) := by decide +kernel
theorem dL_law_688 : decode cL_law 688 = .ok (.aload_n 2, 1) := by decide +kernel
theorem dL_law_689 : decode cL_law 689 = .ok (.invokevirtual 84, 3) := by decide +kernel
theorem dL_law_692 : decode cL_law 692 = .ok (.if_icmp .eq 740, 3) := by decide +kernel
theorem dL_law_695 : decode cL_law 695 = .ok (.iconst 0, 1) := by decide +kernel
theorem dL_law_696 : decode cL_law 696 = .ok (.ireturn, 1) := by decide +kernel
theorem dL_law_697 : decode cL_law 697 = .ok (.aload_n 1, 1) := by decide +kernel
theorem dL_law_698 : decode cL_law 698 = .ok (.aload_n 0, 1) := by decide +kernel
theorem dL_law_699 : decode cL_law 699 = .ok (.iload_n 3, 1) := by decide +kernel
theorem dL_law_700 : decode cL_law 700 = .ok (.iconst 1, 1) := by decide +kernel
theorem dL_law_701 : decode cL_law 701 = .ok (.iadd, 1) := by decide +kernel
theorem dL_law_702 : decode cL_law 702 = .ok (.iaload, 1) := by decide +kernel
theorem dL_law_703 : decode cL_law 703 = .ok (.aload_n 0, 1) := by decide +kernel
theorem dL_law_704 : decode cL_law 704 = .ok (.iload_n 3, 1) := by decide +kernel
theorem dL_law_705 : decode cL_law 705 = .ok (.iconst 2, 1) := by decide +kernel
theorem dL_law_706 : decode cL_law 706 = .ok (.iadd, 1) := by decide +kernel
theorem dL_law_707 : decode cL_law 707 = .ok (.iaload, 1) := by decide +kernel
theorem dL_law_708 : decode cL_law 708 = .ok (.invokevirtual 85, 3) := by decide +kernel
theorem dL_law_711 : decode cL_law 711 = .ok (.aload_n 2, 1) := by decide +kernel
theorem dL_law_712 : decode cL_law 712 = .ok (.aload_n 0, 1) := by decide +kernel
theorem dL_law_713 : decode cL_law 713 = .ok (.iload_n 3, 1) := by decide +kernel
theorem dL_law_714 : decode cL_law 714 = .ok (.iconst 1, 1) := by decide +kernel
theorem dL_law_715 : decode cL_law 715 = .ok (.iadd, 1) := by decide +kernel
theorem dL_law_716 : decode cL_law 716 = .ok (.iaload, 1) := by decide +kernel
theorem dL_law_717 : decode cL_law 717 = .ok (.aload_n 0, 1) := by decide +kernel
theorem dL_law_718 : decode cL_law 718 = .ok (.iload_n 3, 1) := by decide +kernel
theorem dL_law_719 : decode cL_law 719 = .ok (.iconst 2, 1) := by decide +kernel
theorem dL_law_720 : decode cL_law 720 = .ok (.iadd, 1) := by decide +kernel
theorem dL_law_721 : decode cL_law 721 = .ok (.iaload, 1) := by decide +kernel
theorem dL_law_722 : decode cL_law 722 = .ok (.invokevirtual 88, 3) := by decide +kernel
theorem dL_law_725 : decode cL_law 725 = .ok (.if_icmp .eq 707, 3) := by decide +kernel
theorem dL_law_728 : decode cL_law 728 = .ok (.iconst 0, 1) := by decide +kernel
theorem dL_law_729 : decode cL_law 729 = .ok (.ireturn, 1) := by decide +kernel
theorem dL_law_730 : decode cL_law 730 = .ok (.aload_n 1, 1) := by decide +kernel
theorem dL_law_731 : decode cL_law 731 = .ok (.aload_n 0, 1) := by decide +kernel
theorem dL_law_732 : decode cL_law 732 = .ok (.iload_n 3, 1) := by decide +kernel
theorem dL_law_733 : decode cL_law 733 = .ok (.iconst 1, 1) := by decide +kernel
theorem dL_law_734 : decode cL_law 734 = .ok (.iadd, 1) := by decide +kernel
theorem dL_law_735 : decode cL_law 735 = .ok (.iaload, 1) := by decide +kernel
theorem dL_law_736 : decode cL_law 736 = .ok (.invokevirtual 89, 3) := by decide +kernel
theorem dL_law_739 : decode cL_law 739 = .ok (.aload_n 2, 1) := by decide +kernel
theorem dL_law_740 : decode cL_law 740 = .ok (.aload_n 0, 1) := by decide +kernel
theorem dL_law_741 : decode cL_law 741 = .ok (.iload_n 3, 1) := by decide +kernel
theorem dL_law_742 : decode cL_law 742 = .ok (.iconst 1, 1) := by decide +kernel
theorem dL_law_743 : decode cL_law 743 = .ok (.iadd, 1) := by decide +kernel
theorem dL_law_744 : decode cL_law 744 = .ok (.iaload, 1) := by decide +kernel
theorem dL_law_745 : decode cL_law 745 = .ok (.invokevirtual 92, 3) := by decide +kernel
theorem dL_law_748 : decode cL_law 748 = .ok (.if_icmp .eq 684, 3) := by decide +kernel
theorem dL_law_751 : decode cL_law 751 = .ok (.iconst 0, 1) := by decide +kernel
theorem dL_law_752 : decode cL_law 752 = .ok (.ireturn, 1) := by decide +kernel
theorem dL_law_753 : decode cL_law 753 = .ok (.aload_n 1, 1) := by decide +kernel
theorem dL_law_754 : decode cL_law 754 = .ok (.aload_n 0, 1) := by decide +kernel
theorem dL_law_755 : decode cL_law 755 = .ok (.iload_n 3, 1) := by decide +kernel
theorem dL_law_756 : decode cL_law 756 = .ok (.iconst 1, 1) := by decide +kernel
theorem dL_law_757 : decode cL_law 757 = .ok (.iadd, 1) := by decide +kernel
theorem dL_law_758 : decode cL_law 758 = .ok (.iaload, 1) := by decide +kernel
theorem dL_law_759 : decode cL_law 759 = .ok (.aload_n 0, 1) := by decide +kernel
theorem dL_law_760 : decode cL_law 760 = .ok (.iload_n 3, 1) := by decide +kernel
theorem dL_law_761 : decode cL_law 761 = .ok (.iconst 2, 1) := by decide +kernel
theorem dL_law_762 : decode cL_law 762 = .ok (.iadd, 1) := by decide +kernel
theorem dL_law_763 : decode cL_law 763 = .ok (.iaload, 1) := by decide +kernel
theorem dL_law_764 : decode cL_law 764 = .ok (.aload_n 0, 1) := by decide +kernel
theorem dL_law_765 : decode cL_law 765 = .ok (.iload_n 3, 1) := by decide +kernel
theorem dL_law_766 : decode cL_law 766 = .ok (.iconst 3, 1) := by decide +kernel
theorem dL_law_767 : decode cL_law 767 = .ok (.iadd, 1) := by decide +kernel
theorem dL_law_768 : decode cL_law 768 = .ok (.iaload, 1) := by decide +kernel
theorem dL_law_769 : decode cL_law 769 = .ok (.invokevirtual 93, 3) := by decide +kernel
theorem dL_law_772 : decode cL_law 772 = .ok (.aload_n 2, 1) := by decide +kernel
theorem dL_law_773 : decode cL_law 773 = .ok (.aload_n 0, 1) := by decide +kernel
theorem dL_law_774 : decode cL_law 774 = .ok (.iload_n 3, 1) := by decide +kernel
theorem dL_law_775 : decode cL_law 775 = .ok (.iconst 1, 1) := by decide +kernel
theorem dL_law_776 : decode cL_law 776 = .ok (.iadd, 1) := by decide +kernel
theorem dL_law_777 : decode cL_law 777 = .ok (.iaload, 1) := by decide +kernel
theorem dL_law_778 : decode cL_law 778 = .ok (.aload_n 0, 1) := by decide +kernel
theorem dL_law_779 : decode cL_law 779 = .ok (.iload_n 3, 1) := by decide +kernel
theorem dL_law_780 : decode cL_law 780 = .ok (.iconst 2, 1) := by decide +kernel
theorem dL_law_781 : decode cL_law 781 = .ok (.iadd, 1) := by decide +kernel
theorem dL_law_782 : decode cL_law 782 = .ok (.iaload, 1) := by decide +kernel
theorem dL_law_783 : decode cL_law 783 = .ok (.aload_n 0, 1) := by decide +kernel
theorem dL_law_784 : decode cL_law 784 = .ok (.iload_n 3, 1) := by decide +kernel
theorem dL_law_785 : decode cL_law 785 = .ok (.iconst 3, 1) := by decide +kernel
theorem dL_law_786 : decode cL_law 786 = .ok (.iadd, 1) := by decide +kernel
theorem dL_law_787 : decode cL_law 787 = .ok (.iaload, 1) := by decide +kernel
theorem dL_law_788 : decode cL_law 788 = .ok (.invokevirtual 96, 3) := by decide +kernel
theorem dL_law_791 : decode cL_law 791 = .ok (.if_icmp .eq 641, 3) := by decide +kernel
theorem dL_law_794 : decode cL_law 794 = .ok (.iconst 0, 1) := by decide +kernel
theorem dL_law_795 : decode cL_law 795 = .ok (.ireturn, 1) := by decide +kernel
theorem dL_law_796 : decode cL_law 796 = .ok (.aload_n 1, 1) := by decide +kernel
theorem dL_law_797 : decode cL_law 797 = .ok (.aload_n 0, 1) := by decide +kernel
theorem dL_law_798 : decode cL_law 798 = .ok (.iload_n 3, 1) := by decide +kernel
theorem dL_law_799 : decode cL_law 799 = .ok (.iconst 1, 1) := by decide +kernel
theorem dL_law_800 : decode cL_law 800 = .ok (.iadd, 1) := by decide +kernel
theorem dL_law_801 : decode cL_law 801 = .ok (.iaload, 1) := by decide +kernel
theorem dL_law_802 : decode cL_law 802 = .ok (.aload_n 0, 1) := by decide +kernel
theorem dL_law_803 : decode cL_law 803 = .ok (.iload_n 3, 1) := by decide +kernel
theorem dL_law_804 : decode cL_law 804 = .ok (.iconst 2, 1) := by decide +kernel
theorem dL_law_805 : decode cL_law 805 = .ok (.iadd, 1) := by decide +kernel
theorem dL_law_806 : decode cL_law 806 = .ok (.iaload, 1) := by decide +kernel
theorem dL_law_807 : decode cL_law 807 = .ok (.invokevirtual 97, 3) := by decide +kernel
theorem dL_law_810 : decode cL_law 810 = .ok (.aload_n 2, 1) := by decide +kernel
theorem dL_law_811 : decode cL_law 811 = .ok (.aload_n 0, 1) := by decide +kernel
theorem dL_law_812 : decode cL_law 812 = .ok (.iload_n 3, 1) := by decide +kernel
theorem dL_law_813 : decode cL_law 813 = .ok (.iconst 1, 1) := by decide +kernel
theorem dL_law_814 : decode cL_law 814 = .ok (.iadd, 1) := by decide +kernel
theorem dL_law_815 : decode cL_law 815 = .ok (.iaload, 1) := by decide +kernel
theorem dL_law_816 : decode cL_law 816 = .ok (.aload_n 0, 1) := by decide +kernel
theorem dL_law_817 : decode cL_law 817 = .ok (.iload_n 3, 1) := by decide +kernel
theorem dL_law_818 : decode cL_law 818 = .ok (.iconst 2, 1) := by decide +kernel
theorem dL_law_819 : decode cL_law 819 = .ok (.iadd, 1) := by decide +kernel
theorem dL_law_820 : decode cL_law 820 = .ok (.iaload, 1) := by decide +kernel
theorem dL_law_821 : decode cL_law 821 = .ok (.invokevirtual 100, 3) := by decide +kernel
theorem dL_law_824 : decode cL_law 824 = .ok (.if_icmp .eq 608, 3) := by decide +kernel
theorem dL_law_827 : decode cL_law 827 = .ok (.iconst 0, 1) := by decide +kernel
theorem dL_law_828 : decode cL_law 828 = .ok (.ireturn, 1) := by decide +kernel
theorem dL_law_829 : decode cL_law 829 = .ok (.aload_n 1, 1) := by decide +kernel
theorem dL_law_830 : decode cL_law 830 = .ok (.invokevirtual 101, 3) := by decide +kernel
theorem dL_law_833 : decode cL_law 833 = .ok (.aload_n 2, 1) := by decide +kernel
theorem dL_law_834 : decode cL_law 834 = .ok (.invokevirtual 104, 3) := by decide +kernel
theorem dL_law_837 : decode cL_law 837 = .ok (.if_icmp .eq 595, 3) := by decide +kernel
theorem dL_law_840 : decode cL_law 840 = .ok (.iconst 0, 1) := by decide +kernel
theorem dL_law_841 : decode cL_law 841 = .ok (.ireturn, 1) := by decide +kernel
theorem dL_law_842 : decode cL_law 842 = .ok (.aload_n 1, 1) := by decide +kernel
theorem dL_law_843 : decode cL_law 843 = .ok (.aload_n 0, 1) := by decide +kernel
theorem dL_law_844 : decode cL_law 844 = .ok (.iload_n 3, 1) := by decide +kernel
theorem dL_law_845 : decode cL_law 845 = .ok (.iconst 1, 1) := by decide +kernel
theorem dL_law_846 : decode cL_law 846 = .ok (.iadd, 1) := by decide +kernel
theorem dL_law_847 : decode cL_law 847 = .ok (.iaload, 1) := by decide +kernel
theorem dL_law_848 : decode cL_law 848 = .ok (.invokevirtual 105, 3) := by decide +kernel
theorem dL_law_851 : decode cL_law 851 = .ok (.aload_n 2, 1) := by decide +kernel
theorem dL_law_852 : decode cL_law 852 = .ok (.aload_n 0, 1) := by decide +kernel
theorem dL_law_853 : decode cL_law 853 = .ok (.iload_n 3, 1) := by decide +kernel
theorem dL_law_854 : decode cL_law 854 = .ok (.iconst 1, 1) := by decide +kernel
theorem dL_law_855 : decode cL_law 855 = .ok (.iadd, 1) := by decide +kernel
theorem dL_law_856 : decode cL_law 856 = .ok (.iaload, 1) := by decide +kernel
theorem dL_law_857 : decode cL_law 857 = .ok (.invokevirtual 108, 3) := by decide +kernel
theorem dL_law_860 : decode cL_law 860 = .ok (.if_icmp .eq 572, 3) := by decide +kernel
theorem dL_law_863 : decode cL_law 863 = .ok (.iconst 0, 1) := by decide +kernel
theorem dL_law_864 : decode cL_law 864 = .ok (.ireturn, 1) := by decide +kernel
theorem dL_law_865 : decode cL_law 865 = .ok (.aload_n 1, 1) := by decide +kernel
theorem dL_law_866 : decode cL_law 866 = .ok (.aload_n 0, 1) := by decide +kernel
theorem dL_law_867 : decode cL_law 867 = .ok (.iload_n 3, 1) := by decide +kernel
theorem dL_law_868 : decode cL_law 868 = .ok (.iconst 1, 1) := by decide +kernel
theorem dL_law_869 : decode cL_law 869 = .ok (.iadd, 1) := by decide +kernel
theorem dL_law_870 : decode cL_law 870 = .ok (.iaload, 1) := by decide +kernel
theorem dL_law_871 : decode cL_law 871 = .ok (.aload_n 0, 1) := by decide +kernel
theorem dL_law_872 : decode cL_law 872 = .ok (.iload_n 3, 1) := by decide +kernel
theorem dL_law_873 : decode cL_law 873 = .ok (.iconst 2, 1) := by decide +kernel
theorem dL_law_874 : decode cL_law 874 = .ok (.iadd, 1) := by decide +kernel
theorem dL_law_875 : decode cL_law 875 = .ok (.iaload, 1) := by decide +kernel
theorem dL_law_876 : decode cL_law 876 = .ok (.aload_n 0, 1) := by decide +kernel
theorem dL_law_877 : decode cL_law 877 = .ok (.iload_n 3, 1) := by decide +kernel
theorem dL_law_878 : decode cL_law 878 = .ok (.iconst 3, 1) := by decide +kernel
theorem dL_law_879 : decode cL_law 879 = .ok (.iadd, 1) := by decide +kernel
theorem dL_law_880 : decode cL_law 880 = .ok (.iaload, 1) := by decide +kernel
theorem dL_law_881 : decode cL_law 881 = .ok (.invokevirtual 109, 3) := by decide +kernel
theorem dL_law_884 : decode cL_law 884 = .ok (.aload_n 2, 1) := by decide +kernel
theorem dL_law_885 : decode cL_law 885 = .ok (.aload_n 0, 1) := by decide +kernel
theorem dL_law_886 : decode cL_law 886 = .ok (.iload_n 3, 1) := by decide +kernel
theorem dL_law_887 : decode cL_law 887 = .ok (.iconst 1, 1) := by decide +kernel
theorem dL_law_888 : decode cL_law 888 = .ok (.iadd, 1) := by decide +kernel
theorem dL_law_889 : decode cL_law 889 = .ok (.iaload, 1) := by decide +kernel
theorem dL_law_890 : decode cL_law 890 = .ok (.aload_n 0, 1) := by decide +kernel
theorem dL_law_891 : decode cL_law 891 = .ok (.iload_n 3, 1) := by decide +kernel
theorem dL_law_892 : decode cL_law 892 = .ok (.iconst 2, 1) := by decide +kernel
theorem dL_law_893 : decode cL_law 893 = .ok (.iadd, 1) := by decide +kernel
theorem dL_law_894 : decode cL_law 894 = .ok (.iaload, 1) := by decide +kernel
theorem dL_law_895 : decode cL_law 895 = .ok (.aload_n 0, 1) := by decide +kernel
theorem dL_law_896 : decode cL_law 896 = .ok (.iload_n 3, 1) := by decide +kernel
theorem dL_law_897 : decode cL_law 897 = .ok (.iconst 3, 1) := by decide +kernel
theorem dL_law_898 : decode cL_law 898 = .ok (.iadd, 1) := by decide +kernel
theorem dL_law_899 : decode cL_law 899 = .ok (.iaload, 1) := by decide +kernel
theorem dL_law_900 : decode cL_law 900 = .ok (.invokevirtual 112, 3) := by decide +kernel
theorem dL_law_903 : decode cL_law 903 = .ok (.if_icmp .eq 529, 3) := by decide +kernel
theorem dL_law_906 : decode cL_law 906 = .ok (.iconst 0, 1) := by decide +kernel
theorem dL_law_907 : decode cL_law 907 = .ok (.ireturn, 1) := by decide +kernel
theorem dL_law_908 : decode cL_law 908 = .ok (.aload_n 1, 1) := by decide +kernel
theorem dL_law_909 : decode cL_law 909 = .ok (.aload_n 0, 1) := by decide +kernel
theorem dL_law_910 : decode cL_law 910 = .ok (.iload_n 3, 1) := by decide +kernel
theorem dL_law_911 : decode cL_law 911 = .ok (.iconst 1, 1) := by decide +kernel
theorem dL_law_912 : decode cL_law 912 = .ok (.iadd, 1) := by decide +kernel
theorem dL_law_913 : decode cL_law 913 = .ok (.iaload, 1) := by decide +kernel
theorem dL_law_914 : decode cL_law 914 = .ok (.invokevirtual 113, 3) := by decide +kernel
theorem dL_law_917 : decode cL_law 917 = .ok (.aload_n 2, 1) := by decide +kernel
theorem dL_law_918 : decode cL_law 918 = .ok (.aload_n 0, 1) := by decide +kernel
theorem dL_law_919 : decode cL_law 919 = .ok (.iload_n 3, 1) := by decide +kernel
theorem dL_law_920 : decode cL_law 920 = .ok (.iconst 1, 1) := by decide +kernel
theorem dL_law_921 : decode cL_law 921 = .ok (.iadd, 1) := by decide +kernel
theorem dL_law_922 : decode cL_law 922 = .ok (.iaload, 1) := by decide +kernel
theorem dL_law_923 : decode cL_law 923 = .ok (.invokevirtual 116, 3) := by decide +kernel
theorem dL_law_926 : decode cL_law 926 = .ok (.if_icmp .eq 506, 3) := by decide +kernel
theorem dL_law_929 : decode cL_law 929 = .ok (.iconst 0, 1) := by decide +kernel
theorem dL_law_930 : decode cL_law 930 = .ok (.ireturn, 1) := by decide +kernel
theorem dL_law_931 : decode cL_law 931 = .ok (.aload_n 1, 1) := by decide +kernel
theorem dL_law_932 : decode cL_law 932 = .ok (.invokevirtual 117, 3) := by decide +kernel
theorem dL_law_935 : decode cL_law 935 = .ok (.aload_n 2, 1) := by decide +kernel
theorem dL_law_936 : decode cL_law 936 = .ok (.invokevirtual 120, 3) := by decide +kernel
theorem dL_law_939 : decode cL_law 939 = .ok (.if_icmp .eq 493, 3) := by decide +kernel
theorem dL_law_942 : decode cL_law 942 = .ok (.iconst 0, 1) := by decide +kernel
theorem dL_law_943 : decode cL_law 943 = .ok (.ireturn, 1) := by decide +kernel
theorem dL_law_944 : decode cL_law 944 = .ok (.aload_n 1, 1) := by decide +kernel
theorem dL_law_945 : decode cL_law 945 = .ok (.aload_n 0, 1) := by decide +kernel
theorem dL_law_946 : decode cL_law 946 = .ok (.iload_n 3, 1) := by decide +kernel
theorem dL_law_947 : decode cL_law 947 = .ok (.iconst 1, 1) := by decide +kernel
theorem dL_law_948 : decode cL_law 948 = .ok (.iadd, 1) := by decide +kernel
theorem dL_law_949 : decode cL_law 949 = .ok (.iaload, 1) := by decide +kernel
theorem dL_law_950 : decode cL_law 950 = .ok (.aload_n 0, 1) := by decide +kernel
theorem dL_law_951 : decode cL_law 951 = .ok (.iload_n 3, 1) := by decide +kernel
theorem dL_law_952 : decode cL_law 952 = .ok (.iconst 2, 1) := by decide +kernel
theorem dL_law_953 : decode cL_law 953 = .ok (.iadd, 1) := by decide +kernel
theorem dL_law_954 : decode cL_law 954 = .ok (.iaload, 1) := by decide +kernel
theorem dL_law_955 : decode cL_law 955 = .ok (.invokevirtual 121, 3) := by decide +kernel
theorem dL_law_958 : decode cL_law 958 = .ok (.aload_n 2, 1) := by decide +kernel
theorem dL_law_959 : decode cL_law 959 = .ok (.aload_n 0, 1) := by decide +kernel
theorem dL_law_960 : decode cL_law 960 = .ok (.iload_n 3, 1) := by decide +kernel
theorem dL_law_961 : decode cL_law 961 = .ok (.iconst 1, 1) := by decide +kernel
theorem dL_law_962 : decode cL_law 962 = .ok (.iadd, 1) := by decide +kernel
theorem dL_law_963 : decode cL_law 963 = .ok (.iaload, 1) := by decide +kernel
theorem dL_law_964 : decode cL_law 964 = .ok (.aload_n 0, 1) := by decide +kernel
theorem dL_law_965 : decode cL_law 965 = .ok (.iload_n 3, 1) := by decide +kernel
theorem dL_law_966 : decode cL_law 966 = .ok (.iconst 2, 1) := by decide +kernel
theorem dL_law_967 : decode cL_law 967 = .ok (.iadd, 1) := by decide +kernel
theorem dL_law_968 : decode cL_law 968 = .ok (.iaload, 1) := by decide +kernel
theorem dL_law_969 : decode cL_law 969 = .ok (.invokevirtual 124, 3) := by decide +kernel
theorem dL_law_972 : decode cL_law 972 = .ok (.if_icmp .eq 460, 3) := by decide +kernel
theorem dL_law_975 : decode cL_law 975 = .ok (.iconst 0, 1) := by decide +kernel
theorem dL_law_976 : decode cL_law 976 = .ok (.ireturn, 1) := by decide +kernel
theorem dL_law_977 : decode cL_law 977 = .ok (.aload_n 1, 1) := by decide +kernel
theorem dL_law_978 : decode cL_law 978 = .ok (.aload_n 0, 1) := by decide +kernel
theorem dL_law_979 : decode cL_law 979 = .ok (.iload_n 3, 1) := by decide +kernel
theorem dL_law_980 : decode cL_law 980 = .ok (.iconst 1, 1) := by decide +kernel
theorem dL_law_981 : decode cL_law 981 = .ok (.iadd, 1) := by decide +kernel
theorem dL_law_982 : decode cL_law 982 = .ok (.iaload, 1) := by decide +kernel
theorem dL_law_983 : decode cL_law 983 = .ok (.invokevirtual 125, 3) := by decide +kernel
theorem dL_law_986 : decode cL_law 986 = .ok (.aload_n 2, 1) := by decide +kernel
theorem dL_law_987 : decode cL_law 987 = .ok (.aload_n 0, 1) := by decide +kernel
theorem dL_law_988 : decode cL_law 988 = .ok (.iload_n 3, 1) := by decide +kernel
theorem dL_law_989 : decode cL_law 989 = .ok (.iconst 1, 1) := by decide +kernel
theorem dL_law_990 : decode cL_law 990 = .ok (.iadd, 1) := by decide +kernel
theorem dL_law_991 : decode cL_law 991 = .ok (.iaload, 1) := by decide +kernel
theorem dL_law_992 : decode cL_law 992 = .ok (.invokevirtual 128, 3) := by decide +kernel
theorem dL_law_995 : decode cL_law 995 = .ok (.if_icmp .eq 437, 3) := by decide +kernel
theorem dL_law_998 : decode cL_law 998 = .ok (.iconst 0, 1) := by decide +kernel
theorem dL_law_999 : decode cL_law 999 = .ok (.ireturn, 1) := by decide +kernel
theorem dL_law_1000 : decode cL_law 1000 = .ok (.aload_n 1, 1) := by decide +kernel
theorem dL_law_1001 : decode cL_law 1001 = .ok (.aload_n 0, 1) := by decide +kernel
theorem dL_law_1002 : decode cL_law 1002 = .ok (.iload_n 3, 1) := by decide +kernel
theorem dL_law_1003 : decode cL_law 1003 = .ok (.iconst 1, 1) := by decide +kernel
theorem dL_law_1004 : decode cL_law 1004 = .ok (.iadd, 1) := by decide +kernel
theorem dL_law_1005 : decode cL_law 1005 = .ok (.iaload, 1) := by decide +kernel
theorem dL_law_1006 : decode cL_law 1006 = .ok (.aload_n 0, 1) := by decide +kernel
theorem dL_law_1007 : decode cL_law 1007 = .ok (.iload_n 3, 1) := by decide +kernel
theorem dL_law_1008 : decode cL_law 1008 = .ok (.iconst 2, 1) := by decide +kernel
theorem dL_law_1009 : decode cL_law 1009 = .ok (.iadd, 1) := by decide +kernel
theorem dL_law_1010 : decode cL_law 1010 = .ok (.iaload, 1) := by decide +kernel
theorem dL_law_1011 : decode cL_law 1011 = .ok (.aload_n 0, 1) := by decide +kernel
theorem dL_law_1012 : decode cL_law 1012 = .ok (.iload_n 3, 1) := by decide +kernel
theorem dL_law_1013 : decode cL_law 1013 = .ok (.iconst 3, 1) := by decide +kernel
theorem dL_law_1014 : decode cL_law 1014 = .ok (.iadd, 1) := by decide +kernel
theorem dL_law_1015 : decode cL_law 1015 = .ok (.iaload, 1) := by decide +kernel
theorem dL_law_1016 : decode cL_law 1016 = .ok (.invokevirtual 129, 3) := by decide +kernel
theorem dL_law_1019 : decode cL_law 1019 = .ok (.aload_n 2, 1) := by decide +kernel
theorem dL_law_1020 : decode cL_law 1020 = .ok (.aload_n 0, 1) := by decide +kernel
theorem dL_law_1021 : decode cL_law 1021 = .ok (.iload_n 3, 1) := by decide +kernel
theorem dL_law_1022 : decode cL_law 1022 = .ok (.iconst 1, 1) := by decide +kernel
theorem dL_law_1023 : decode cL_law 1023 = .ok (.iadd, 1) := by decide +kernel
theorem dL_law_1024 : decode cL_law 1024 = .ok (.iaload, 1) := by decide +kernel
theorem dL_law_1025 : decode cL_law 1025 = .ok (.aload_n 0, 1) := by decide +kernel
theorem dL_law_1026 : decode cL_law 1026 = .ok (.iload_n 3, 1) := by decide +kernel
theorem dL_law_1027 : decode cL_law 1027 = .ok (.iconst 2, 1) := by decide +kernel
theorem dL_law_1028 : decode cL_law 1028 = .ok (.iadd, 1) := by decide +kernel
theorem dL_law_1029 : decode cL_law 1029 = .ok (.iaload, 1) := by decide +kernel
theorem dL_law_1030 : decode cL_law 1030 = .ok (.aload_n 0, 1) := by decide +kernel
theorem dL_law_1031 : decode cL_law 1031 = .ok (.iload_n 3, 1) := by decide +kernel
theorem dL_law_1032 : decode cL_law 1032 = .ok (.iconst 3, 1) := by decide +kernel
theorem dL_law_1033 : decode cL_law 1033 = .ok (.iadd, 1) := by decide +kernel
theorem dL_law_1034 : decode cL_law 1034 = .ok (.iaload, 1) := by decide +kernel
theorem dL_law_1035 : decode cL_law 1035 = .ok (.invokevirtual 132, 3) := by decide +kernel
theorem dL_law_1038 : decode cL_law 1038 = .ok (.if_icmp .eq 394, 3) := by decide +kernel
theorem dL_law_1041 : decode cL_law 1041 = .ok (.iconst 0, 1) := by decide +kernel
theorem dL_law_1042 : decode cL_law 1042 = .ok (.ireturn, 1) := by decide +kernel
theorem dL_law_1043 : decode cL_law 1043 = .ok (.aload_n 1, 1) := by decide +kernel
theorem dL_law_1044 : decode cL_law 1044 = .ok (.aload_n 0, 1) := by decide +kernel
theorem dL_law_1045 : decode cL_law 1045 = .ok (.iload_n 3, 1) := by decide +kernel
theorem dL_law_1046 : decode cL_law 1046 = .ok (.iconst 1, 1) := by decide +kernel
theorem dL_law_1047 : decode cL_law 1047 = .ok (.iadd, 1) := by decide +kernel
theorem dL_law_1048 : decode cL_law 1048 = .ok (.iaload, 1) := by decide +kernel
theorem dL_law_1049 : decode cL_law 1049 = .ok (.aload_n 0, 1) := by decide +kernel
theorem dL_law_1050 : decode cL_law 1050 = .ok (.iload_n 3, 1) := by decide +kernel
theorem dL_law_1051 : decode cL_law 1051 = .ok (.iconst 2, 1) := by decide +kernel
theorem dL_law_1052 : decode cL_law 1052 = .ok (.iadd, 1) := by decide +kernel
theorem dL_law_1053 : decode cL_law 1053 = .ok (.iaload, 1) := by decide +kernel
theorem dL_law_1054 : decode cL_law 1054 = .ok (.aload_n 0, 1) := by decide +kernel
theorem dL_law_1055 : decode cL_law 1055 = .ok (.iload_n 3, 1) := by decide +kernel
theorem dL_law_1056 : decode cL_law 1056 = .ok (.iconst 3, 1) := by decide +kernel
theorem dL_law_1057 : decode cL_law 1057 = .ok (.iadd, 1) := by decide +kernel
theorem dL_law_1058 : decode cL_law 1058 = .ok (.iaload, 1) := by decide +kernel
theorem dL_law_1059 : decode cL_law 1059 = .ok (.invokevirtual 133, 3) := by decide +kernel
theorem dL_law_1062 : decode cL_law 1062 = .ok (.aload_n 2, 1) := by decide +kernel
theorem dL_law_1063 : decode cL_law 1063 = .ok (.aload_n 0, 1) := by decide +kernel
theorem dL_law_1064 : decode cL_law 1064 = .ok (.iload_n 3, 1) := by decide +kernel
theorem dL_law_1065 : decode cL_law 1065 = .ok (.iconst 1, 1) := by decide +kernel
theorem dL_law_1066 : decode cL_law 1066 = .ok (.iadd, 1) := by decide +kernel
theorem dL_law_1067 : decode cL_law 1067 = .ok (.iaload, 1) := by decide +kernel
theorem dL_law_1068 : decode cL_law 1068 = .ok (.aload_n 0, 1) := by decide +kernel
theorem dL_law_1069 : decode cL_law 1069 = .ok (.iload_n 3, 1) := by decide +kernel
theorem dL_law_1070 : decode cL_law 1070 = .ok (.iconst 2, 1) := by decide +kernel
theorem dL_law_1071 : decode cL_law 1071 = .ok (.iadd, 1) := by decide +kernel
theorem dL_law_1072 : decode cL_law 1072 = .ok (.iaload, 1) := by decide +kernel
theorem dL_law_1073 : decode cL_law 1073 = .ok (.aload_n 0, 1) := by decide +kernel
theorem dL_law_1074 : decode cL_law 1074 = .ok (.iload_n 3, 1) := by decide +kernel
theorem dL_law_1075 : decode cL_law 1075 = .ok (.iconst 3, 1) := by decide +kernel
theorem dL_law_1076 : decode cL_law 1076 = .ok (.iadd, 1) := by decide +kernel
theorem dL_law_1077 : decode cL_law 1077 = .ok (.iaload, 1) := by decide +kernel
theorem dL_law_1078 : decode cL_law 1078 = .ok (.invokevirtual 136, 3) := by decide +kernel
theorem dL_law_1081 : decode cL_law 1081 = .ok (.if_icmp .eq 351, 3) := by decide +kernel
theorem dL_law_1084 : decode cL_law 1084 = .ok (.iconst 0, 1) := by decide +kernel
theorem dL_law_1085 : decode cL_law 1085 = .ok (.ireturn, 1) := by decide +kernel
theorem dL_law_1086 : decode cL_law 1086 = .ok (.aload_n 1, 1) := by decide +kernel
theorem dL_law_1087 : decode cL_law 1087 = .ok (.aload_n 0, 1) := by decide +kernel
theorem dL_law_1088 : decode cL_law 1088 = .ok (.iload_n 3, 1) := by decide +kernel
theorem dL_law_1089 : decode cL_law 1089 = .ok (.iconst 1, 1) := by decide +kernel
theorem dL_law_1090 : decode cL_law 1090 = .ok (.iadd, 1) := by decide +kernel
theorem dL_law_1091 : decode cL_law 1091 = .ok (.iaload, 1) := by decide +kernel
theorem dL_law_1092 : decode cL_law 1092 = .ok (.invokevirtual 137, 3) := by decide +kernel
theorem dL_law_1095 : decode cL_law 1095 = .ok (.aload_n 2, 1) := by decide +kernel
theorem dL_law_1096 : decode cL_law 1096 = .ok (.aload_n 0, 1) := by decide +kernel
theorem dL_law_1097 : decode cL_law 1097 = .ok (.iload_n 3, 1) := by decide +kernel
theorem dL_law_1098 : decode cL_law 1098 = .ok (.iconst 1, 1) := by decide +kernel
theorem dL_law_1099 : decode cL_law 1099 = .ok (.iadd, 1) := by decide +kernel
theorem dL_law_1100 : decode cL_law 1100 = .ok (.iaload, 1) := by decide +kernel
theorem dL_law_1101 : decode cL_law 1101 = .ok (.invokevirtual 140, 3) := by decide +kernel
theorem dL_law_1104 : decode cL_law 1104 = .ok (.if_icmp .eq 328, 3) := by decide +kernel
theorem dL_law_1107 : decode cL_law 1107 = .ok (.iconst 0, 1) := by decide +kernel
theorem dL_law_1108 : decode cL_law 1108 = .ok (.ireturn, 1) := by decide +kernel
theorem dL_law_1109 : decode cL_law 1109 = .ok (.aload_n 1, 1) := by decide +kernel
theorem dL_law_1110 : decode cL_law 1110 = .ok (.aload_n 0, 1) := by decide +kernel
theorem dL_law_1111 : decode cL_law 1111 = .ok (.iload_n 3, 1) := by decide +kernel
theorem dL_law_1112 : decode cL_law 1112 = .ok (.iconst 1, 1) := by decide +kernel
theorem dL_law_1113 : decode cL_law 1113 = .ok (.iadd, 1) := by decide +kernel
theorem dL_law_1114 : decode cL_law 1114 = .ok (.iaload, 1) := by decide +kernel
theorem dL_law_1115 : decode cL_law 1115 = .ok (.invokevirtual 141, 3) := by decide +kernel
theorem dL_law_1118 : decode cL_law 1118 = .ok (.aload_n 2, 1) := by decide +kernel
theorem dL_law_1119 : decode cL_law 1119 = .ok (.aload_n 0, 1) := by decide +kernel
theorem dL_law_1120 : decode cL_law 1120 = .ok (.iload_n 3, 1) := by decide +kernel
theorem dL_law_1121 : decode cL_law 1121 = .ok (.iconst 1, 1) := by decide +kernel
theorem dL_law_1122 : decode cL_law 1122 = .ok (.iadd, 1) := by decide +kernel
theorem dL_law_1123 : decode cL_law 1123 = .ok (.iaload, 1) := by decide +kernel
theorem dL_law_1124 : decode cL_law 1124 = .ok (.invokevirtual 144, 3) := by decide +kernel
theorem dL_law_1127 : decode cL_law 1127 = .ok (.if_icmp .eq 305, 3) := by decide +kernel
theorem dL_law_1130 : decode cL_law 1130 = .ok (.iconst 0, 1) := by decide +kernel
theorem dL_law_1131 : decode cL_law 1131 = .ok (.ireturn, 1) := by decide +kernel
theorem dL_law_1132 : decode cL_law 1132 = .ok (.aload_n 1, 1) := by decide +kernel
theorem dL_law_1133 : decode cL_law 1133 = .ok (.aload_n 0, 1) := by decide +kernel
theorem dL_law_1134 : decode cL_law 1134 = .ok (.iload_n 3, 1) := by decide +kernel
theorem dL_law_1135 : decode cL_law 1135 = .ok (.iconst 1, 1) := by decide +kernel
theorem dL_law_1136 : decode cL_law 1136 = .ok (.iadd, 1) := by decide +kernel
theorem dL_law_1137 : decode cL_law 1137 = .ok (.iaload, 1) := by decide +kernel
theorem dL_law_1138 : decode cL_law 1138 = .ok (.aload_n 0, 1) := by decide +kernel
theorem dL_law_1139 : decode cL_law 1139 = .ok (.iload_n 3, 1) := by decide +kernel
theorem dL_law_1140 : decode cL_law 1140 = .ok (.iconst 2, 1) := by decide +kernel
theorem dL_law_1141 : decode cL_law 1141 = .ok (.iadd, 1) := by decide +kernel
theorem dL_law_1142 : decode cL_law 1142 = .ok (.iaload, 1) := by decide +kernel
theorem dL_law_1143 : decode cL_law 1143 = .ok (.aload_n 0, 1) := by decide +kernel
theorem dL_law_1144 : decode cL_law 1144 = .ok (.iload_n 3, 1) := by decide +kernel
theorem dL_law_1145 : decode cL_law 1145 = .ok (.iconst 3, 1) := by decide +kernel
theorem dL_law_1146 : decode cL_law 1146 = .ok (.iadd, 1) := by decide +kernel
theorem dL_law_1147 : decode cL_law 1147 = .ok (.iaload, 1) := by decide +kernel
theorem dL_law_1148 : decode cL_law 1148 = .ok (.aload_n 0, 1) := by decide +kernel
theorem dL_law_1149 : decode cL_law 1149 = .ok (.iload_n 3, 1) := by decide +kernel
theorem dL_law_1150 : decode cL_law 1150 = .ok (.iconst 4, 1) := by decide +kernel
theorem dL_law_1151 : decode cL_law 1151 = .ok (.iadd, 1) := by decide +kernel
theorem dL_law_1152 : decode cL_law 1152 = .ok (.iaload, 1) := by decide +kernel
theorem dL_law_1153 : decode cL_law 1153 = .ok (.aload_n 0, 1) := by decide +kernel
theorem dL_law_1154 : decode cL_law 1154 = .ok (.iload_n 3, 1) := by decide +kernel
theorem dL_law_1155 : decode cL_law 1155 = .ok (.iconst 5, 1) := by decide +kernel
theorem dL_law_1156 : decode cL_law 1156 = .ok (.iadd, 1) := by decide +kernel
theorem dL_law_1157 : decode cL_law 1157 = .ok (.iaload, 1) := by decide +kernel
theorem dL_law_1158 : decode cL_law 1158 = .ok (.invokevirtual 145, 3) := by decide +kernel
theorem dL_law_1161 : decode cL_law 1161 = .ok (.aload_n 2, 1) := by decide +kernel
theorem dL_law_1162 : decode cL_law 1162 = .ok (.aload_n 0, 1) := by decide +kernel
theorem dL_law_1163 : decode cL_law 1163 = .ok (.iload_n 3, 1) := by decide +kernel
theorem dL_law_1164 : decode cL_law 1164 = .ok (.iconst 1, 1) := by decide +kernel
theorem dL_law_1165 : decode cL_law 1165 = .ok (.iadd, 1) := by decide +kernel
theorem dL_law_1166 : decode cL_law 1166 = .ok (.iaload, 1) := by decide +kernel
theorem dL_law_1167 : decode cL_law 1167 = .ok (.aload_n 0, 1) := by decide +kernel
theorem dL_law_1168 : decode cL_law 1168 = .ok (.iload_n 3, 1) := by decide +kernel
theorem dL_law_1169 : decode cL_law 1169 = .ok (.iconst 2, 1) := by decide +kernel
theorem dL_law_1170 : decode cL_law 1170 = .ok (.iadd, 1) := by decide +kernel
theorem dL_law_1171 : decode cL_law 1171 = .ok (.iaload, 1) := by decide +kernel
theorem dL_law_1172 : decode cL_law 1172 = .ok (.aload_n 0, 1) := by decide +kernel
theorem dL_law_1173 : decode cL_law 1173 = .ok (.iload_n 3, 1) := by decide +kernel
theorem dL_law_1174 : decode cL_law 1174 = .ok (.iconst 3, 1) := by decide +kernel
theorem dL_law_1175 : decode cL_law 1175 = .ok (.iadd, 1) := by decide +kernel
theorem dL_law_1176 : decode cL_law 1176 = .ok (.iaload, 1) := by decide +kernel
theorem dL_law_1177 : decode cL_law 1177 = .ok (.aload_n 0, 1) := by decide +kernel
theorem dL_law_1178 : decode cL_law 1178 = .ok (.iload_n 3, 1) := by decide +kernel
theorem dL_law_1179 : decode cL_law 1179 = .ok (.iconst 4, 1) := by decide +kernel
theorem dL_law_1180 : decode cL_law 1180 = .ok (.iadd, 1) := by decide +kernel
theorem dL_law_1181 : decode cL_law 1181 = .ok (.iaload, 1) := by decide +kernel
theorem dL_law_1182 : decode cL_law 1182 = .ok (.aload_n 0, 1) := by decide +kernel
theorem dL_law_1183 : decode cL_law 1183 = .ok (.iload_n 3, 1) := by decide +kernel
theorem dL_law_1184 : decode cL_law 1184 = .ok (.iconst 5, 1) := by decide +kernel
theorem dL_law_1185 : decode cL_law 1185 = .ok (.iadd, 1) := by decide +kernel
theorem dL_law_1186 : decode cL_law 1186 = .ok (.iaload, 1) := by decide +kernel
theorem dL_law_1187 : decode cL_law 1187 = .ok (.invokevirtual 149, 3) := by decide +kernel
theorem dL_law_1190 : decode cL_law 1190 = .ok (.if_icmp .eq 242, 3) := by decide +kernel
theorem dL_law_1193 : decode cL_law 1193 = .ok (.iconst 0, 1) := by decide +kernel
theorem dL_law_1194 : decode cL_law 1194 = .ok (.ireturn, 1) := by decide +kernel
theorem dL_law_1195 : decode cL_law 1195 = .ok (.aload_n 1, 1) := by decide +kernel
theorem dL_law_1196 : decode cL_law 1196 = .ok (.aload_n 0, 1) := by decide +kernel
theorem dL_law_1197 : decode cL_law 1197 = .ok (.iload_n 3, 1) := by decide +kernel
theorem dL_law_1198 : decode cL_law 1198 = .ok (.iconst 1, 1) := by decide +kernel
theorem dL_law_1199 : decode cL_law 1199 = .ok (.iadd, 1) := by decide +kernel
theorem dL_law_1200 : decode cL_law 1200 = .ok (.iaload, 1) := by decide +kernel
theorem dL_law_1201 : decode cL_law 1201 = .ok (.aload_n 0, 1) := by decide +kernel
theorem dL_law_1202 : decode cL_law 1202 = .ok (.iload_n 3, 1) := by decide +kernel
theorem dL_law_1203 : decode cL_law 1203 = .ok (.iconst 2, 1) := by decide +kernel
theorem dL_law_1204 : decode cL_law 1204 = .ok (.iadd, 1) := by decide +kernel
theorem dL_law_1205 : decode cL_law 1205 = .ok (.iaload, 1) := by decide +kernel
theorem dL_law_1206 : decode cL_law 1206 = .ok (.aload_n 0, 1) := by decide +kernel
theorem dL_law_1207 : decode cL_law 1207 = .ok (.iload_n 3, 1) := by decide +kernel
theorem dL_law_1208 : decode cL_law 1208 = .ok (.iconst 3, 1) := by decide +kernel
theorem dL_law_1209 : decode cL_law 1209 = .ok (.iadd, 1) := by decide +kernel
theorem dL_law_1210 : decode cL_law 1210 = .ok (.iaload, 1) := by decide +kernel
theorem dL_law_1211 : decode cL_law 1211 = .ok (.invokevirtual 150, 3) := by decide +kernel
theorem dL_law_1214 : decode cL_law 1214 = .ok (.aload_n 2, 1) := by decide +kernel
theorem dL_law_1215 : decode cL_law 1215 = .ok (.aload_n 0, 1) := by decide +kernel
theorem dL_law_1216 : decode cL_law 1216 = .ok (.iload_n 3, 1) := by decide +kernel
theorem dL_law_1217 : decode cL_law 1217 = .ok (.iconst 1, 1) := by decide +kernel
theorem dL_law_1218 : decode cL_law 1218 = .ok (.iadd, 1) := by decide +kernel
theorem dL_law_1219 : decode cL_law 1219 = .ok (.iaload, 1) := by decide +kernel
theorem dL_law_1220 : decode cL_law 1220 = .ok (.aload_n 0, 1) := by decide +kernel
theorem dL_law_1221 : decode cL_law 1221 = .ok (.iload_n 3, 1) := by decide +kernel
theorem dL_law_1222 : decode cL_law 1222 = .ok (.iconst 2, 1) := by decide +kernel
theorem dL_law_1223 : decode cL_law 1223 = .ok (.iadd, 1) := by decide +kernel
theorem dL_law_1224 : decode cL_law 1224 = .ok (.iaload, 1) := by decide +kernel
theorem dL_law_1225 : decode cL_law 1225 = .ok (.aload_n 0, 1) := by decide +kernel
theorem dL_law_1226 : decode cL_law 1226 = .ok (.iload_n 3, 1) := by decide +kernel
theorem dL_law_1227 : decode cL_law 1227 = .ok (.iconst 3, 1) := by decide +kernel
theorem dL_law_1228 : decode cL_law 1228 = .ok (.iadd, 1) := by decide +kernel
theorem dL_law_1229 : decode cL_law 1229 = .ok (.iaload, 1) := by decide +kernel
theorem dL_law_1230 : decode cL_law 1230 = .ok (.invokevirtual 153, 3) := by decide +kernel
theorem dL_law_1233 : decode cL_law 1233 = .ok (.if_icmp .eq 199, 3) := by decide +kernel
theorem dL_law_1236 : decode cL_law 1236 = .ok (.iconst 0, 1) := by decide +kernel
theorem dL_law_1237 : decode cL_law 1237 = .ok (.ireturn, 1) := by decide +kernel
theorem dL_law_1238 : decode cL_law 1238 = .ok (.aload_n 1, 1) := by decide +kernel
theorem dL_law_1239 : decode cL_law 1239 = .ok (.aload_n 0, 1) := by decide +kernel
theorem dL_law_1240 : decode cL_law 1240 = .ok (.iload_n 3, 1) := by decide +kernel
theorem dL_law_1241 : decode cL_law 1241 = .ok (.iconst 1, 1) := by decide +kernel
theorem dL_law_1242 : decode cL_law 1242 = .ok (.iadd, 1) := by decide +kernel
theorem dL_law_1243 : decode cL_law 1243 = .ok (.iaload, 1) := by decide +kernel
theorem dL_law_1244 : decode cL_law 1244 = .ok (.aload_n 0, 1) := by decide +kernel
theorem dL_law_1245 : decode cL_law 1245 = .ok (.iload_n 3, 1) := by decide +kernel
theorem dL_law_1246 : decode cL_law 1246 = .ok (.iconst 2, 1) := by decide +kernel
theorem dL_law_1247 : decode cL_law 1247 = .ok (.iadd, 1) := by decide +kernel
theorem dL_law_1248 : decode cL_law 1248 = .ok (.iaload, 1) := by decide +kernel
theorem dL_law_1249 : decode cL_law 1249 = .ok (.invokevirtual 154, 3) := by decide +kernel
theorem dL_law_1252 : decode cL_law 1252 = .ok (.aload_n 2, 1) := by decide +kernel
theorem dL_law_1253 : decode cL_law 1253 = .ok (.aload_n 0, 1) := by decide +kernel
theorem dL_law_1254 : decode cL_law 1254 = .ok (.iload_n 3, 1) := by decide +kernel
theorem dL_law_1255 : decode cL_law 1255 = .ok (.iconst 1, 1) := by decide +kernel
theorem dL_law_1256 : decode cL_law 1256 = .ok (.iadd, 1) := by decide +kernel
theorem dL_law_1257 : decode cL_law 1257 = .ok (.iaload, 1) := by decide +kernel
theorem dL_law_1258 : decode cL_law 1258 = .ok (.aload_n 0, 1) := by decide +kernel
theorem dL_law_1259 : decode cL_law 1259 = .ok (.iload_n 3, 1) := by decide +kernel
theorem dL_law_1260 : decode cL_law 1260 = .ok (.iconst 2, 1) := by decide +kernel
theorem dL_law_1261 : decode cL_law 1261 = .ok (.iadd, 1) := by decide +kernel
theorem dL_law_1262 : decode cL_law 1262 = .ok (.iaload, 1) := by decide +kernel
theorem dL_law_1263 : decode cL_law 1263 = .ok (.invokevirtual 157, 3) := by decide +kernel
theorem dL_law_1266 : decode cL_law 1266 = .ok (.if_icmp .eq 166, 3) := by decide +kernel
theorem dL_law_1269 : decode cL_law 1269 = .ok (.iconst 0, 1) := by decide +kernel
theorem dL_law_1270 : decode cL_law 1270 = .ok (.ireturn, 1) := by decide +kernel
theorem dL_law_1271 : decode cL_law 1271 = .ok (.aload_n 1, 1) := by decide +kernel
theorem dL_law_1272 : decode cL_law 1272 = .ok (.aload_n 0, 1) := by decide +kernel
theorem dL_law_1273 : decode cL_law 1273 = .ok (.iload_n 3, 1) := by decide +kernel
theorem dL_law_1274 : decode cL_law 1274 = .ok (.iconst 1, 1) := by decide +kernel
theorem dL_law_1275 : decode cL_law 1275 = .ok (.iadd, 1) := by decide +kernel
theorem dL_law_1276 : decode cL_law 1276 = .ok (.iaload, 1) := by decide +kernel
theorem dL_law_1277 : decode cL_law 1277 = .ok (.aload_n 0, 1) := by decide +kernel
theorem dL_law_1278 : decode cL_law 1278 = .ok (.iload_n 3, 1) := by decide +kernel
theorem dL_law_1279 : decode cL_law 1279 = .ok (.iconst 2, 1) := by decide +kernel
theorem dL_law_1280 : decode cL_law 1280 = .ok (.iadd, 1) := by decide +kernel
theorem dL_law_1281 : decode cL_law 1281 = .ok (.iaload, 1) := by decide +kernel
theorem dL_law_1282 : decode cL_law 1282 = .ok (.invokevirtual 158, 3) := by decide +kernel
theorem dL_law_1285 : decode cL_law 1285 = .ok (.aload_n 2, 1) := by decide +kernel
theorem dL_law_1286 : decode cL_law 1286 = .ok (.aload_n 0, 1) := by decide +kernel
theorem dL_law_1287 : decode cL_law 1287 = .ok (.iload_n 3, 1) := by decide +kernel
theorem dL_law_1288 : decode cL_law 1288 = .ok (.iconst 1, 1) := by decide +kernel
theorem dL_law_1289 : decode cL_law 1289 = .ok (.iadd, 1) := by decide +kernel
theorem dL_law_1290 : decode cL_law 1290 = .ok (.iaload, 1) := by decide +kernel
theorem dL_law_1291 : decode cL_law 1291 = .ok (.aload_n 0, 1) := by decide +kernel
theorem dL_law_1292 : decode cL_law 1292 = .ok (.iload_n 3, 1) := by decide +kernel
theorem dL_law_1293 : decode cL_law 1293 = .ok (.iconst 2, 1) := by decide +kernel
theorem dL_law_1294 : decode cL_law 1294 = .ok (.iadd, 1) := by decide +kernel
theorem dL_law_1295 : decode cL_law 1295 = .ok (.iaload, 1) := by decide +kernel
theorem dL_law_1296 : decode cL_law 1296 = .ok (.invokevirtual 161, 3) := by decide +kernel
theorem dL_law_1299 : decode cL_law 1299 = .ok (.if_icmp .eq 133, 3) := by decide +kernel
theorem dL_law_1302 : decode cL_law 1302 = .ok (.iconst 0, 1) := by decide +kernel
theorem dL_law_1303 : decode cL_law 1303 = .ok (.ireturn, 1) := by decide +kernel
theorem dL_law_1304 : decode cL_law 1304 = .ok (.aload_n 1, 1) := by decide +kernel
theorem dL_law_1305 : decode cL_law 1305 = .ok (.aload_n 0, 1) := by decide +kernel
theorem dL_law_1306 : decode cL_law 1306 = .ok (.iload_n 3, 1) := by decide +kernel
theorem dL_law_1307 : decode cL_law 1307 = .ok (.iconst 1, 1) := by decide +kernel
theorem dL_law_1308 : decode cL_law 1308 = .ok (.iadd, 1) := by decide +kernel
theorem dL_law_1309 : decode cL_law 1309 = .ok (.iaload, 1) := by decide +kernel
theorem dL_law_1310 : decode cL_law 1310 = .ok (.aload_n 0, 1) := by decide +kernel
theorem dL_law_1311 : decode cL_law 1311 = .ok (.iload_n 3, 1) := by decide +kernel
theorem dL_law_1312 : decode cL_law 1312 = .ok (.iconst 2, 1) := by decide +kernel
theorem dL_law_1313 : decode cL_law 1313 = .ok (.iadd, 1) := by decide +kernel
theorem dL_law_1314 : decode cL_law 1314 = .ok (.iaload, 1) := by decide +kernel
theorem dL_law_1315 : decode cL_law 1315 = .ok (.invokevirtual 162, 3) := by decide +kernel
theorem dL_law_1318 : decode cL_law 1318 = .ok (.aload_n 2, 1) := by decide +kernel
theorem dL_law_1319 : decode cL_law 1319 = .ok (.aload_n 0, 1) := by decide +kernel
theorem dL_law_1320 : decode cL_law 1320 = .ok (.iload_n 3, 1) := by decide +kernel
theorem dL_law_1321 : decode cL_law 1321 = .ok (.iconst 1, 1) := by decide +kernel
theorem dL_law_1322 : decode cL_law 1322 = .ok (.iadd, 1) := by decide +kernel
theorem dL_law_1323 : decode cL_law 1323 = .ok (.iaload, 1) := by decide +kernel
theorem dL_law_1324 : decode cL_law 1324 = .ok (.aload_n 0, 1) := by decide +kernel
theorem dL_law_1325 : decode cL_law 1325 = .ok (.iload_n 3, 1) := by decide +kernel
theorem dL_law_1326 : decode cL_law 1326 = .ok (.iconst 2, 1) := by decide +kernel
theorem dL_law_1327 : decode cL_law 1327 = .ok (.iadd, 1) := by decide +kernel
theorem dL_law_1328 : decode cL_law 1328 = .ok (.iaload, 1) := by decide +kernel
theorem dL_law_1329 : decode cL_law 1329 = .ok (.invokevirtual 165, 3) := by decide +kernel
theorem dL_law_1332 : decode cL_law 1332 = .ok (.if_icmp .eq 100, 3) := by decide +kernel
theorem dL_law_1335 : decode cL_law 1335 = .ok (.iconst 0, 1) := by decide +kernel
theorem dL_law_1336 : decode cL_law 1336 = .ok (.ireturn, 1) := by decide +kernel
theorem dL_law_1337 : decode cL_law 1337 = .ok (.aload_n 1, 1) := by decide +kernel
theorem dL_law_1338 : decode cL_law 1338 = .ok (.aload_n 0, 1) := by decide +kernel
theorem dL_law_1339 : decode cL_law 1339 = .ok (.iload_n 3, 1) := by decide +kernel
theorem dL_law_1340 : decode cL_law 1340 = .ok (.iconst 1, 1) := by decide +kernel
theorem dL_law_1341 : decode cL_law 1341 = .ok (.iadd, 1) := by decide +kernel
theorem dL_law_1342 : decode cL_law 1342 = .ok (.iaload, 1) := by decide +kernel
theorem dL_law_1343 : decode cL_law 1343 = .ok (.invokevirtual 166, 3) := by decide +kernel
theorem dL_law_1346 : decode cL_law 1346 = .ok (.aload_n 2, 1) := by decide +kernel
theorem dL_law_1347 : decode cL_law 1347 = .ok (.aload_n 0, 1) := by decide +kernel
theorem dL_law_1348 : decode cL_law 1348 = .ok (.iload_n 3, 1) := by decide +kernel
theorem dL_law_1349 : decode cL_law 1349 = .ok (.iconst 1, 1) := by decide +kernel
theorem dL_law_1350 : decode cL_law 1350 = .ok (.iadd, 1) := by decide +kernel
theorem dL_law_1351 : decode cL_law 1351 = .ok (.iaload, 1) := by decide +kernel
theorem dL_law_1352 : decode cL_law 1352 = .ok (.invokevirtual 169, 3) := by decide +kernel
theorem dL_law_1355 : decode cL_law 1355 = .ok (.if_icmp .eq 77, 3) := by decide +kernel
theorem dL_law_1358 : decode cL_law 1358 = .ok (.iconst 0, 1) := by decide +kernel
theorem dL_law_1359 : decode cL_law 1359 = .ok (.ireturn, 1) := by decide +kernel
theorem dL_law_1360 : decode cL_law 1360 = .ok (.aload_n 1, 1) := by decide +kernel
theorem dL_law_1361 : decode cL_law 1361 = .ok (.aload_n 0, 1) := by decide +kernel
theorem dL_law_1362 : decode cL_law 1362 = .ok (.iload_n 3, 1) := by decide +kernel
theorem dL_law_1363 : decode cL_law 1363 = .ok (.iconst 1, 1) := by decide +kernel
theorem dL_law_1364 : decode cL_law 1364 = .ok (.iadd, 1) := by decide +kernel
theorem dL_law_1365 : decode cL_law 1365 = .ok (.iaload, 1) := by decide +kernel
theorem dL_law_1366 : decode cL_law 1366 = .ok (.invokevirtual 170, 3) := by decide +kernel
theorem dL_law_1369 : decode cL_law 1369 = .ok (.aload_n 2, 1) := by decide +kernel
theorem dL_law_1370 : decode cL_law 1370 = .ok (.aload_n 0, 1) := by decide +kernel
theorem dL_law_1371 : decode cL_law 1371 = .ok (.iload_n 3, 1) := by decide +kernel
theorem dL_law_1372 : decode cL_law 1372 = .ok (.iconst 1, 1) := by decide +kernel
theorem dL_law_1373 : decode cL_law 1373 = .ok (.iadd, 1) := by decide +kernel
theorem dL_law_1374 : decode cL_law 1374 = .ok (.iaload, 1) := by decide +kernel
theorem dL_law_1375 : decode cL_law 1375 = .ok (.invokevirtual 173, 3) := by decide +kernel
theorem dL_law_1378 : decode cL_law 1378 = .ok (.if_icmp .eq 54, 3) := by decide +kernel
theorem dL_law_1381 : decode cL_law 1381 = .ok (.iconst 0, 1) := by decide +kernel
theorem dL_law_1382 : decode cL_law 1382 = .ok (.ireturn, 1) := by decide +kernel
theorem dL_law_1383 : decode cL_law 1383 = .ok (.aload_n 1, 1) := by decide +kernel
theorem dL_law_1384 : decode cL_law 1384 = .ok (.invokevirtual 174, 3) := by decide +kernel
theorem dL_law_1387 : decode cL_law 1387 = .ok (.aload_n 2, 1) := by decide +kernel
theorem dL_law_1388 : decode cL_law 1388 = .ok (.invokevirtual 177, 3) := by decide +kernel
theorem dL_law_1391 : decode cL_law 1391 = .ok (.if_icmp .eq 41, 3) := by decide +kernel
theorem dL_law_1394 : decode cL_law 1394 = .ok (.iconst 0, 1) := by decide +kernel
theorem dL_law_1395 : decode cL_law 1395 = .ok (.ireturn, 1) := by decide +kernel
theorem dL_law_1396 : decode cL_law 1396 = .ok (.aload_n 1, 1) := by decide +kernel
theorem dL_law_1397 : decode cL_law 1397 = .ok (.invokevirtual 178, 3) := by decide +kernel
theorem dL_law_1400 : decode cL_law 1400 = .ok (.aload_n 2, 1) := by decide +kernel
theorem dL_law_1401 : decode cL_law 1401 = .ok (.invokevirtual 181, 3) := by decide +kernel
theorem dL_law_1404 : decode cL_law 1404 = .ok (.if_icmp .eq 28, 3) := by decide +kernel
theorem dL_law_1407 : decode cL_law 1407 = .ok (.iconst 0, 1) := by decide +kernel
theorem dL_law_1408 : decode cL_law 1408 = .ok (.ireturn, 1) := by decide +kernel
theorem dL_law_1409 : decode cL_law 1409 = .ok (.aload_n 1, 1) := by decide +kernel
theorem dL_law_1410 : decode cL_law 1410 = .ok (.aload_n 0, 1) := by decide +kernel
theorem dL_law_1411 : decode cL_law 1411 = .ok (.iload_n 3, 1) := by decide +kernel
theorem dL_law_1412 : decode cL_law 1412 = .ok (.iconst 1, 1) := by decide +kernel
theorem dL_law_1413 : decode cL_law 1413 = .ok (.iadd, 1) := by decide +kernel
theorem dL_law_1414 : decode cL_law 1414 = .ok (.iaload, 1) := by decide +kernel
theorem dL_law_1415 : decode cL_law 1415 = .ok (.invokevirtual 182, 3) := by decide +kernel
theorem dL_law_1418 : decode cL_law 1418 = .ok (.aload_n 2, 1) := by decide +kernel
theorem dL_law_1419 : decode cL_law 1419 = .ok (.aload_n 0, 1) := by decide +kernel
theorem dL_law_1420 : decode cL_law 1420 = .ok (.iload_n 3, 1) := by decide +kernel
theorem dL_law_1421 : decode cL_law 1421 = .ok (.iconst 1, 1) := by decide +kernel
theorem dL_law_1422 : decode cL_law 1422 = .ok (.iadd, 1) := by decide +kernel
theorem dL_law_1423 : decode cL_law 1423 = .ok (.iaload, 1) := by decide +kernel
theorem dL_law_1424 : decode cL_law 1424 = .ok (.invokevirtual 185, 3) := by decide +kernel
theorem dL_law_1427 : decode cL_law 1427 = .ok (.if_icmp .eq 5, 3) := by decide +kernel
theorem dL_law_1430 : decode cL_law 1430 = .ok (.iconst 0, 1) := by decide +kernel
theorem dL_law_1431 : decode cL_law 1431 = .ok (.ireturn, 1) := by decide +kernel
theorem dL_law_1432 : decode cL_law 1432 = .ok (.iinc 3 6, 3) := by decide +kernel
theorem dL_law_1435 : decode cL_law 1435 = .ok (.goto (-1417), 3) := by decide +kernel
theorem dL_law_1438 : decode cL_law 1438 = .ok (.iconst 1, 1) := by decide +kernel
theorem dL_law_1439 : decode cL_law 1439 = .ok (.ireturn, 1) := by decide +kernel
abbrev vwCl : List vw_C := [(RX0, TX0, 3), (RX1, TX1, 11), (RX3, TX3, 10), (RX4, TX4, 3), (RX5, TX5, 5), (RX6, TX6, 4), (RX7, TX7, 12), (RX8, TX8, 31)]
