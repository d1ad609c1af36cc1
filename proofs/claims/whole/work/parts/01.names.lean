/-- a private method of a class that the tables say can be made, by its rows of tables_1 -/
def lw_okq (q : MethodName × Nat) : Prop := (q.1.cls ≠ "java/lang/invoke/MethodHandle" ∧ q.1.cls ≠ "java/lang/invoke/VarHandle") ∧ Cond.instantiable q.1.cls q.2 ∈ tables_1 ∧ Cond.privateMethod q.1 ∈ tables_1 ∧ Cond.instanceMethod q.1 ∈ tables_1
theorem lw_p0 : lw_okq (⟨"LoanPoints", "append", "(IIII)V"⟩, 7) := ⟨⟨by decide +kernel, by decide +kernel⟩, List.mem_of_getElem? (i := 16) (by decide +kernel), List.mem_of_getElem? (i := 432) (by decide +kernel), List.mem_of_getElem? (i := 433) (by decide +kernel)⟩
theorem lw_p1 : lw_okq (⟨"LoanPoints", "forget", "()V"⟩, 7) := ⟨⟨by decide +kernel, by decide +kernel⟩, List.mem_of_getElem? (i := 16) (by decide +kernel), List.mem_of_getElem? (i := 444) (by decide +kernel), List.mem_of_getElem? (i := 445) (by decide +kernel)⟩
theorem lw_p2 : lw_okq (⟨"LoanPoints", "finding", "(I)I"⟩, 7) := ⟨⟨by decide +kernel, by decide +kernel⟩, List.mem_of_getElem? (i := 16) (by decide +kernel), List.mem_of_getElem? (i := 495) (by decide +kernel), List.mem_of_getElem? (i := 496) (by decide +kernel)⟩
theorem lw_p3 : lw_okq (⟨"LoanPoints$Lending", "sortLoan", "(LLoanPoints$Listing;I)V"⟩, 14) := ⟨⟨by decide +kernel, by decide +kernel⟩, List.mem_of_getElem? (i := 155) (by decide +kernel), List.mem_of_getElem? (i := 543) (by decide +kernel), List.mem_of_getElem? (i := 544) (by decide +kernel)⟩
theorem lw_p4 : lw_okq (⟨"LoanPoints$Lending", "stepBehind", "(LLoanPoints$Listing;I)V"⟩, 14) := ⟨⟨by decide +kernel, by decide +kernel⟩, List.mem_of_getElem? (i := 155) (by decide +kernel), List.mem_of_getElem? (i := 552) (by decide +kernel), List.mem_of_getElem? (i := 553) (by decide +kernel)⟩
theorem lw_p5 : lw_okq (⟨"LoanPoints$Lending", "join", "(I)V"⟩, 14) := ⟨⟨by decide +kernel, by decide +kernel⟩, List.mem_of_getElem? (i := 155) (by decide +kernel), List.mem_of_getElem? (i := 559) (by decide +kernel), List.mem_of_getElem? (i := 560) (by decide +kernel)⟩
theorem lw_p6 : lw_okq (⟨"LoanPoints$Lending", "pass", "(III)Z"⟩, 14) := ⟨⟨by decide +kernel, by decide +kernel⟩, List.mem_of_getElem? (i := 155) (by decide +kernel), List.mem_of_getElem? (i := 575) (by decide +kernel), List.mem_of_getElem? (i := 576) (by decide +kernel)⟩
theorem lw_p7 : lw_okq (⟨"LoanPoints$Trail", "lengthen", "(I)V"⟩, 6) := ⟨⟨by decide +kernel, by decide +kernel⟩, List.mem_of_getElem? (i := 292) (by decide +kernel), List.mem_of_getElem? (i := 671) (by decide +kernel), List.mem_of_getElem? (i := 672) (by decide +kernel)⟩
theorem lw_p8 : lw_okq (⟨"LoanPoints$Trail", "measure", "(II)V"⟩, 6) := ⟨⟨by decide +kernel, by decide +kernel⟩, List.mem_of_getElem? (i := 292) (by decide +kernel), List.mem_of_getElem? (i := 679) (by decide +kernel), List.mem_of_getElem? (i := 680) (by decide +kernel)⟩
theorem lw_p9 : lw_okq (⟨"LoanPoints$Trail", "nearestBehind", "(I)I"⟩, 6) := ⟨⟨by decide +kernel, by decide +kernel⟩, List.mem_of_getElem? (i := 292) (by decide +kernel), List.mem_of_getElem? (i := 684) (by decide +kernel), List.mem_of_getElem? (i := 685) (by decide +kernel)⟩
theorem lw_p10 : lw_okq (⟨"LoanPoints$Trail", "follow", "(I)V"⟩, 6) := ⟨⟨by decide +kernel, by decide +kernel⟩, List.mem_of_getElem? (i := 292) (by decide +kernel), List.mem_of_getElem? (i := 691) (by decide +kernel), List.mem_of_getElem? (i := 692) (by decide +kernel)⟩
theorem lw_p11 : lw_okq (⟨"LoanPoints$Trail", "usesOf", "(I)I"⟩, 6) := ⟨⟨by decide +kernel, by decide +kernel⟩, List.mem_of_getElem? (i := 292) (by decide +kernel), List.mem_of_getElem? (i := 695) (by decide +kernel), List.mem_of_getElem? (i := 696) (by decide +kernel)⟩
theorem lw_p12 : lw_okq (⟨"LoanPoints$Plans", "errorsWith", "(II)I"⟩, 8) := ⟨⟨by decide +kernel, by decide +kernel⟩, List.mem_of_getElem? (i := 256) (by decide +kernel), List.mem_of_getElem? (i := 709) (by decide +kernel), List.mem_of_getElem? (i := 710) (by decide +kernel)⟩
theorem lw_p13 : lw_okq (⟨"LoanPoints$Walk", "begin", "()V"⟩, 16) := ⟨⟨by decide +kernel, by decide +kernel⟩, List.mem_of_getElem? (i := 319) (by decide +kernel), List.mem_of_getElem? (i := 732) (by decide +kernel), List.mem_of_getElem? (i := 733) (by decide +kernel)⟩
theorem lw_p14 : lw_okq (⟨"LoanPoints$Walk", "fault", "(I)I"⟩, 16) := ⟨⟨by decide +kernel, by decide +kernel⟩, List.mem_of_getElem? (i := 319) (by decide +kernel), List.mem_of_getElem? (i := 737) (by decide +kernel), List.mem_of_getElem? (i := 738) (by decide +kernel)⟩
theorem lw_p15 : lw_okq (⟨"LoanPoints$Walk", "hasStale", "(I)Z"⟩, 16) := ⟨⟨by decide +kernel, by decide +kernel⟩, List.mem_of_getElem? (i := 319) (by decide +kernel), List.mem_of_getElem? (i := 741) (by decide +kernel), List.mem_of_getElem? (i := 742) (by decide +kernel)⟩
def lw_privs_1 : List (MethodName × Nat) := [(⟨"LoanPoints", "append", "(IIII)V"⟩, 7), (⟨"LoanPoints", "forget", "()V"⟩, 7), (⟨"LoanPoints", "finding", "(I)I"⟩, 7), (⟨"LoanPoints$Lending", "sortLoan", "(LLoanPoints$Listing;I)V"⟩, 14), (⟨"LoanPoints$Lending", "stepBehind", "(LLoanPoints$Listing;I)V"⟩, 14), (⟨"LoanPoints$Lending", "join", "(I)V"⟩, 14), (⟨"LoanPoints$Lending", "pass", "(III)Z"⟩, 14), (⟨"LoanPoints$Trail", "lengthen", "(I)V"⟩, 6), (⟨"LoanPoints$Trail", "measure", "(II)V"⟩, 6), (⟨"LoanPoints$Trail", "nearestBehind", "(I)I"⟩, 6), (⟨"LoanPoints$Trail", "follow", "(I)V"⟩, 6), (⟨"LoanPoints$Trail", "usesOf", "(I)I"⟩, 6), (⟨"LoanPoints$Plans", "errorsWith", "(II)I"⟩, 8), (⟨"LoanPoints$Walk", "begin", "()V"⟩, 16), (⟨"LoanPoints$Walk", "fault", "(I)I"⟩, 16), (⟨"LoanPoints$Walk", "hasStale", "(I)Z"⟩, 16)]
theorem lw_r1 : ∀ q ∈ lw_privs_1, lw_okq q := List.forall_mem_cons.mpr ⟨lw_p0, List.forall_mem_cons.mpr ⟨lw_p1, List.forall_mem_cons.mpr ⟨lw_p2, List.forall_mem_cons.mpr ⟨lw_p3, List.forall_mem_cons.mpr ⟨lw_p4, List.forall_mem_cons.mpr ⟨lw_p5, List.forall_mem_cons.mpr ⟨lw_p6, List.forall_mem_cons.mpr ⟨lw_p7, List.forall_mem_cons.mpr ⟨lw_p8, List.forall_mem_cons.mpr ⟨lw_p9, List.forall_mem_cons.mpr ⟨lw_p10, List.forall_mem_cons.mpr ⟨lw_p11, List.forall_mem_cons.mpr ⟨lw_p12, List.forall_mem_cons.mpr ⟨lw_p13, List.forall_mem_cons.mpr ⟨lw_p14, List.forall_mem_cons.mpr ⟨lw_p15, fun _ h => absurd h List.not_mem_nil⟩⟩⟩⟩⟩⟩⟩⟩⟩⟩⟩⟩⟩⟩⟩⟩
theorem lw_p16 : lw_okq (⟨"LoanPoints$Walk", "hasShared", "(I)Z"⟩, 16) := ⟨⟨by decide +kernel, by decide +kernel⟩, List.mem_of_getElem? (i := 319) (by decide +kernel), List.mem_of_getElem? (i := 745) (by decide +kernel), List.mem_of_getElem? (i := 746) (by decide +kernel)⟩
theorem lw_p17 : lw_okq (⟨"LoanPoints$Walk", "perform", "(I)V"⟩, 16) := ⟨⟨by decide +kernel, by decide +kernel⟩, List.mem_of_getElem? (i := 319) (by decide +kernel), List.mem_of_getElem? (i := 749) (by decide +kernel), List.mem_of_getElem? (i := 750) (by decide +kernel)⟩
theorem lw_p18 : lw_okq (⟨"LoanPoints$Walk", "touch", "(IZI)V"⟩, 16) := ⟨⟨by decide +kernel, by decide +kernel⟩, List.mem_of_getElem? (i := 319) (by decide +kernel), List.mem_of_getElem? (i := 753) (by decide +kernel), List.mem_of_getElem? (i := 754) (by decide +kernel)⟩
theorem lw_p19 : lw_okq (⟨"LoanPoints$Walk", "spotOf", "(II)I"⟩, 16) := ⟨⟨by decide +kernel, by decide +kernel⟩, List.mem_of_getElem? (i := 319) (by decide +kernel), List.mem_of_getElem? (i := 760) (by decide +kernel), List.mem_of_getElem? (i := 761) (by decide +kernel)⟩
theorem lw_p20 : lw_okq (⟨"LoanPoints$Walk", "make", "(III)I"⟩, 16) := ⟨⟨by decide +kernel, by decide +kernel⟩, List.mem_of_getElem? (i := 319) (by decide +kernel), List.mem_of_getElem? (i := 764) (by decide +kernel), List.mem_of_getElem? (i := 765) (by decide +kernel)⟩
theorem lw_p21 : lw_okq (⟨"LoanPoints$Walk", "following", "(IZ)I"⟩, 16) := ⟨⟨by decide +kernel, by decide +kernel⟩, List.mem_of_getElem? (i := 319) (by decide +kernel), List.mem_of_getElem? (i := 768) (by decide +kernel), List.mem_of_getElem? (i := 769) (by decide +kernel)⟩
theorem lw_p22 : lw_okq (⟨"LoanPoints", "foldPoint", "(JI)J"⟩, 7) := ⟨⟨by decide +kernel, by decide +kernel⟩, List.mem_of_getElem? (i := 16) (by decide +kernel), List.mem_of_getElem? (i := 846) (by decide +kernel), List.mem_of_getElem? (i := 847) (by decide +kernel)⟩
theorem lw_p23 : lw_okq (⟨"LoanPoints", "foldError", "(JI)J"⟩, 7) := ⟨⟨by decide +kernel, by decide +kernel⟩, List.mem_of_getElem? (i := 16) (by decide +kernel), List.mem_of_getElem? (i := 856) (by decide +kernel), List.mem_of_getElem? (i := 857) (by decide +kernel)⟩
theorem lw_p24 : lw_okq (⟨"LoanPoints", "foldRun", "(JI)J"⟩, 7) := ⟨⟨by decide +kernel, by decide +kernel⟩, List.mem_of_getElem? (i := 16) (by decide +kernel), List.mem_of_getElem? (i := 864) (by decide +kernel), List.mem_of_getElem? (i := 865) (by decide +kernel)⟩
theorem lw_p25 : lw_okq (⟨"LoanPointsModel", "puts", "(IIIII)V"⟩, 36) := ⟨⟨by decide +kernel, by decide +kernel⟩, List.mem_of_getElem? (i := 870) (by decide +kernel), List.mem_of_getElem? (i := 995) (by decide +kernel), List.mem_of_getElem? (i := 996) (by decide +kernel)⟩
theorem lw_p26 : lw_okq (⟨"LoanPointsModel", "isPoint", "(I)Z"⟩, 36) := ⟨⟨by decide +kernel, by decide +kernel⟩, List.mem_of_getElem? (i := 870) (by decide +kernel), List.mem_of_getElem? (i := 1003) (by decide +kernel), List.mem_of_getElem? (i := 1004) (by decide +kernel)⟩
theorem lw_p27 : lw_okq (⟨"LoanPointsModel", "codeOf", "(II)I"⟩, 36) := ⟨⟨by decide +kernel, by decide +kernel⟩, List.mem_of_getElem? (i := 870) (by decide +kernel), List.mem_of_getElem? (i := 1019) (by decide +kernel), List.mem_of_getElem? (i := 1020) (by decide +kernel)⟩
theorem lw_p28 : lw_okq (⟨"LoanPointsModel", "meets", "(I)I"⟩, 36) := ⟨⟨by decide +kernel, by decide +kernel⟩, List.mem_of_getElem? (i := 870) (by decide +kernel), List.mem_of_getElem? (i := 1030) (by decide +kernel), List.mem_of_getElem? (i := 1031) (by decide +kernel)⟩
theorem lw_p29 : lw_okq (⟨"LoanPointsModel", "nextOf", "(I)I"⟩, 36) := ⟨⟨by decide +kernel, by decide +kernel⟩, List.mem_of_getElem? (i := 870) (by decide +kernel), List.mem_of_getElem? (i := 1039) (by decide +kernel), List.mem_of_getElem? (i := 1040) (by decide +kernel)⟩
theorem lw_p30 : lw_okq (⟨"LoanPointsModel", "there", "(I)I"⟩, 36) := ⟨⟨by decide +kernel, by decide +kernel⟩, List.mem_of_getElem? (i := 870) (by decide +kernel), List.mem_of_getElem? (i := 1043) (by decide +kernel), List.mem_of_getElem? (i := 1044) (by decide +kernel)⟩
theorem lw_p31 : lw_okq (⟨"LoanPointsModel", "reachedOf", "()I"⟩, 36) := ⟨⟨by decide +kernel, by decide +kernel⟩, List.mem_of_getElem? (i := 870) (by decide +kernel), List.mem_of_getElem? (i := 1051) (by decide +kernel), List.mem_of_getElem? (i := 1052) (by decide +kernel)⟩
def lw_privs_2 : List (MethodName × Nat) := [(⟨"LoanPoints$Walk", "hasShared", "(I)Z"⟩, 16), (⟨"LoanPoints$Walk", "perform", "(I)V"⟩, 16), (⟨"LoanPoints$Walk", "touch", "(IZI)V"⟩, 16), (⟨"LoanPoints$Walk", "spotOf", "(II)I"⟩, 16), (⟨"LoanPoints$Walk", "make", "(III)I"⟩, 16), (⟨"LoanPoints$Walk", "following", "(IZ)I"⟩, 16), (⟨"LoanPoints", "foldPoint", "(JI)J"⟩, 7), (⟨"LoanPoints", "foldError", "(JI)J"⟩, 7), (⟨"LoanPoints", "foldRun", "(JI)J"⟩, 7), (⟨"LoanPointsModel", "puts", "(IIIII)V"⟩, 36), (⟨"LoanPointsModel", "isPoint", "(I)Z"⟩, 36), (⟨"LoanPointsModel", "codeOf", "(II)I"⟩, 36), (⟨"LoanPointsModel", "meets", "(I)I"⟩, 36), (⟨"LoanPointsModel", "nextOf", "(I)I"⟩, 36), (⟨"LoanPointsModel", "there", "(I)I"⟩, 36), (⟨"LoanPointsModel", "reachedOf", "()I"⟩, 36)]
theorem lw_r2 : ∀ q ∈ lw_privs_2, lw_okq q := List.forall_mem_cons.mpr ⟨lw_p16, List.forall_mem_cons.mpr ⟨lw_p17, List.forall_mem_cons.mpr ⟨lw_p18, List.forall_mem_cons.mpr ⟨lw_p19, List.forall_mem_cons.mpr ⟨lw_p20, List.forall_mem_cons.mpr ⟨lw_p21, List.forall_mem_cons.mpr ⟨lw_p22, List.forall_mem_cons.mpr ⟨lw_p23, List.forall_mem_cons.mpr ⟨lw_p24, List.forall_mem_cons.mpr ⟨lw_p25, List.forall_mem_cons.mpr ⟨lw_p26, List.forall_mem_cons.mpr ⟨lw_p27, List.forall_mem_cons.mpr ⟨lw_p28, List.forall_mem_cons.mpr ⟨lw_p29, List.forall_mem_cons.mpr ⟨lw_p30, List.forall_mem_cons.mpr ⟨lw_p31, fun _ h => absurd h List.not_mem_nil⟩⟩⟩⟩⟩⟩⟩⟩⟩⟩⟩⟩⟩⟩⟩⟩
theorem lw_p32 : lw_okq (⟨"LoanPointsModel", "findsAll", "()V"⟩, 36) := ⟨⟨by decide +kernel, by decide +kernel⟩, List.mem_of_getElem? (i := 870) (by decide +kernel), List.mem_of_getElem? (i := 1055) (by decide +kernel), List.mem_of_getElem? (i := 1056) (by decide +kernel)⟩
theorem lw_p33 : lw_okq (⟨"LoanPointsModel", "findsReached", "()V"⟩, 36) := ⟨⟨by decide +kernel, by decide +kernel⟩, List.mem_of_getElem? (i := 870) (by decide +kernel), List.mem_of_getElem? (i := 1059) (by decide +kernel), List.mem_of_getElem? (i := 1060) (by decide +kernel)⟩
theorem lw_p34 : lw_okq (⟨"LoanPointsModel", "lends", "(I)Z"⟩, 36) := ⟨⟨by decide +kernel, by decide +kernel⟩, List.mem_of_getElem? (i := 870) (by decide +kernel), List.mem_of_getElem? (i := 1066) (by decide +kernel), List.mem_of_getElem? (i := 1067) (by decide +kernel)⟩
theorem lw_p35 : lw_okq (⟨"LoanPointsModel", "findsLive", "()V"⟩, 36) := ⟨⟨by decide +kernel, by decide +kernel⟩, List.mem_of_getElem? (i := 870) (by decide +kernel), List.mem_of_getElem? (i := 1070) (by decide +kernel), List.mem_of_getElem? (i := 1071) (by decide +kernel)⟩
theorem lw_p36 : lw_okq (⟨"LoanPointsModel", "readsOf", "(I)I"⟩, 36) := ⟨⟨by decide +kernel, by decide +kernel⟩, List.mem_of_getElem? (i := 870) (by decide +kernel), List.mem_of_getElem? (i := 1074) (by decide +kernel), List.mem_of_getElem? (i := 1075) (by decide +kernel)⟩
theorem lw_p37 : lw_okq (⟨"LoanPointsModel", "writesOf", "(I)I"⟩, 36) := ⟨⟨by decide +kernel, by decide +kernel⟩, List.mem_of_getElem? (i := 870) (by decide +kernel), List.mem_of_getElem? (i := 1084) (by decide +kernel), List.mem_of_getElem? (i := 1085) (by decide +kernel)⟩
theorem lw_p38 : lw_okq (⟨"LoanPointsModel", "findsRegions", "()V"⟩, 36) := ⟨⟨by decide +kernel, by decide +kernel⟩, List.mem_of_getElem? (i := 870) (by decide +kernel), List.mem_of_getElem? (i := 1088) (by decide +kernel), List.mem_of_getElem? (i := 1089) (by decide +kernel)⟩
theorem lw_p39 : lw_okq (⟨"LoanPointsModel", "findsHolding", "()V"⟩, 36) := ⟨⟨by decide +kernel, by decide +kernel⟩, List.mem_of_getElem? (i := 870) (by decide +kernel), List.mem_of_getElem? (i := 1092) (by decide +kernel), List.mem_of_getElem? (i := 1093) (by decide +kernel)⟩
theorem lw_p40 : lw_okq (⟨"LoanPointsModel", "flows", "(I)Z"⟩, 36) := ⟨⟨by decide +kernel, by decide +kernel⟩, List.mem_of_getElem? (i := 870) (by decide +kernel), List.mem_of_getElem? (i := 1097) (by decide +kernel), List.mem_of_getElem? (i := 1098) (by decide +kernel)⟩
theorem lw_p41 : lw_okq (⟨"LoanPointsModel", "behind", "(II)I"⟩, 36) := ⟨⟨by decide +kernel, by decide +kernel⟩, List.mem_of_getElem? (i := 870) (by decide +kernel), List.mem_of_getElem? (i := 1101) (by decide +kernel), List.mem_of_getElem? (i := 1102) (by decide +kernel)⟩
theorem lw_p42 : lw_okq (⟨"LoanPointsModel", "findsScope", "(I)V"⟩, 36) := ⟨⟨by decide +kernel, by decide +kernel⟩, List.mem_of_getElem? (i := 870) (by decide +kernel), List.mem_of_getElem? (i := 1105) (by decide +kernel), List.mem_of_getElem? (i := 1106) (by decide +kernel)⟩
theorem lw_p43 : lw_okq (⟨"LoanPointsModel", "isNever", "(I)Z"⟩, 36) := ⟨⟨by decide +kernel, by decide +kernel⟩, List.mem_of_getElem? (i := 870) (by decide +kernel), List.mem_of_getElem? (i := 1109) (by decide +kernel), List.mem_of_getElem? (i := 1110) (by decide +kernel)⟩
theorem lw_p44 : lw_okq (⟨"LoanPointsModel", "kills", "(II)Z"⟩, 36) := ⟨⟨by decide +kernel, by decide +kernel⟩, List.mem_of_getElem? (i := 870) (by decide +kernel), List.mem_of_getElem? (i := 1113) (by decide +kernel), List.mem_of_getElem? (i := 1114) (by decide +kernel)⟩
theorem lw_p45 : lw_okq (⟨"LoanPointsModel", "goesBy", "(I)I"⟩, 36) := ⟨⟨by decide +kernel, by decide +kernel⟩, List.mem_of_getElem? (i := 870) (by decide +kernel), List.mem_of_getElem? (i := 1117) (by decide +kernel), List.mem_of_getElem? (i := 1118) (by decide +kernel)⟩
theorem lw_p46 : lw_okq (⟨"LoanPointsModel", "kind", "(I)I"⟩, 36) := ⟨⟨by decide +kernel, by decide +kernel⟩, List.mem_of_getElem? (i := 870) (by decide +kernel), List.mem_of_getElem? (i := 1121) (by decide +kernel), List.mem_of_getElem? (i := 1122) (by decide +kernel)⟩
theorem lw_p47 : lw_okq (⟨"LoanPointsModel", "liveOf", "(I)I"⟩, 36) := ⟨⟨by decide +kernel, by decide +kernel⟩, List.mem_of_getElem? (i := 870) (by decide +kernel), List.mem_of_getElem? (i := 1129) (by decide +kernel), List.mem_of_getElem? (i := 1130) (by decide +kernel)⟩
def lw_privs_3 : List (MethodName × Nat) := [(⟨"LoanPointsModel", "findsAll", "()V"⟩, 36), (⟨"LoanPointsModel", "findsReached", "()V"⟩, 36), (⟨"LoanPointsModel", "lends", "(I)Z"⟩, 36), (⟨"LoanPointsModel", "findsLive", "()V"⟩, 36), (⟨"LoanPointsModel", "readsOf", "(I)I"⟩, 36), (⟨"LoanPointsModel", "writesOf", "(I)I"⟩, 36), (⟨"LoanPointsModel", "findsRegions", "()V"⟩, 36), (⟨"LoanPointsModel", "findsHolding", "()V"⟩, 36), (⟨"LoanPointsModel", "flows", "(I)Z"⟩, 36), (⟨"LoanPointsModel", "behind", "(II)I"⟩, 36), (⟨"LoanPointsModel", "findsScope", "(I)V"⟩, 36), (⟨"LoanPointsModel", "isNever", "(I)Z"⟩, 36), (⟨"LoanPointsModel", "kills", "(II)Z"⟩, 36), (⟨"LoanPointsModel", "goesBy", "(I)I"⟩, 36), (⟨"LoanPointsModel", "kind", "(I)I"⟩, 36), (⟨"LoanPointsModel", "liveOf", "(I)I"⟩, 36)]
theorem lw_r3 : ∀ q ∈ lw_privs_3, lw_okq q := List.forall_mem_cons.mpr ⟨lw_p32, List.forall_mem_cons.mpr ⟨lw_p33, List.forall_mem_cons.mpr ⟨lw_p34, List.forall_mem_cons.mpr ⟨lw_p35, List.forall_mem_cons.mpr ⟨lw_p36, List.forall_mem_cons.mpr ⟨lw_p37, List.forall_mem_cons.mpr ⟨lw_p38, List.forall_mem_cons.mpr ⟨lw_p39, List.forall_mem_cons.mpr ⟨lw_p40, List.forall_mem_cons.mpr ⟨lw_p41, List.forall_mem_cons.mpr ⟨lw_p42, List.forall_mem_cons.mpr ⟨lw_p43, List.forall_mem_cons.mpr ⟨lw_p44, List.forall_mem_cons.mpr ⟨lw_p45, List.forall_mem_cons.mpr ⟨lw_p46, List.forall_mem_cons.mpr ⟨lw_p47, fun _ h => absurd h List.not_mem_nil⟩⟩⟩⟩⟩⟩⟩⟩⟩⟩⟩⟩⟩⟩⟩⟩
theorem lw_p48 : lw_okq (⟨"LoanPointsModel", "regionOf", "(I)I"⟩, 36) := ⟨⟨by decide +kernel, by decide +kernel⟩, List.mem_of_getElem? (i := 870) (by decide +kernel), List.mem_of_getElem? (i := 1137) (by decide +kernel), List.mem_of_getElem? (i := 1138) (by decide +kernel)⟩
theorem lw_p49 : lw_okq (⟨"LoanPointsModel", "holdsOf", "(II)I"⟩, 36) := ⟨⟨by decide +kernel, by decide +kernel⟩, List.mem_of_getElem? (i := 870) (by decide +kernel), List.mem_of_getElem? (i := 1145) (by decide +kernel), List.mem_of_getElem? (i := 1146) (by decide +kernel)⟩
theorem lw_p50 : lw_okq (⟨"LoanPointsModel", "loansOf", "()I"⟩, 36) := ⟨⟨by decide +kernel, by decide +kernel⟩, List.mem_of_getElem? (i := 870) (by decide +kernel), List.mem_of_getElem? (i := 1153) (by decide +kernel), List.mem_of_getElem? (i := 1154) (by decide +kernel)⟩
theorem lw_p51 : lw_okq (⟨"LoanPointsModel", "scopeOf", "(I)I"⟩, 36) := ⟨⟨by decide +kernel, by decide +kernel⟩, List.mem_of_getElem? (i := 870) (by decide +kernel), List.mem_of_getElem? (i := 1161) (by decide +kernel), List.mem_of_getElem? (i := 1162) (by decide +kernel)⟩
theorem lw_p52 : lw_okq (⟨"LoanPointsModel", "activeOf", "(I)I"⟩, 36) := ⟨⟨by decide +kernel, by decide +kernel⟩, List.mem_of_getElem? (i := 870) (by decide +kernel), List.mem_of_getElem? (i := 1169) (by decide +kernel), List.mem_of_getElem? (i := 1170) (by decide +kernel)⟩
theorem lw_p53 : lw_okq (⟨"LoanPointsModel", "bearsOf", "(I)I"⟩, 36) := ⟨⟨by decide +kernel, by decide +kernel⟩, List.mem_of_getElem? (i := 870) (by decide +kernel), List.mem_of_getElem? (i := 1177) (by decide +kernel), List.mem_of_getElem? (i := 1178) (by decide +kernel)⟩
theorem lw_p54 : lw_okq (⟨"LoanPointsModel", "bearing", "(I)I"⟩, 36) := ⟨⟨by decide +kernel, by decide +kernel⟩, List.mem_of_getElem? (i := 870) (by decide +kernel), List.mem_of_getElem? (i := 1181) (by decide +kernel), List.mem_of_getElem? (i := 1182) (by decide +kernel)⟩
theorem lw_p55 : lw_okq (⟨"LoanPointsModel", "errorsOf", "()I"⟩, 36) := ⟨⟨by decide +kernel, by decide +kernel⟩, List.mem_of_getElem? (i := 870) (by decide +kernel), List.mem_of_getElem? (i := 1189) (by decide +kernel), List.mem_of_getElem? (i := 1190) (by decide +kernel)⟩
theorem lw_p56 : lw_okq (⟨"LoanPointsModel", "errsAll", "()V"⟩, 36) := ⟨⟨by decide +kernel, by decide +kernel⟩, List.mem_of_getElem? (i := 870) (by decide +kernel), List.mem_of_getElem? (i := 1193) (by decide +kernel), List.mem_of_getElem? (i := 1194) (by decide +kernel)⟩
theorem lw_p57 : lw_okq (⟨"LoanPointsModel", "errsAt", "(I)V"⟩, 36) := ⟨⟨by decide +kernel, by decide +kernel⟩, List.mem_of_getElem? (i := 870) (by decide +kernel), List.mem_of_getElem? (i := 1197) (by decide +kernel), List.mem_of_getElem? (i := 1198) (by decide +kernel)⟩
theorem lw_p58 : lw_okq (⟨"LoanPointsModel", "clashes", "(I)I"⟩, 36) := ⟨⟨by decide +kernel, by decide +kernel⟩, List.mem_of_getElem? (i := 870) (by decide +kernel), List.mem_of_getElem? (i := 1201) (by decide +kernel), List.mem_of_getElem? (i := 1202) (by decide +kernel)⟩
theorem lw_p59 : lw_okq (⟨"LoanPointsModel", "clashing", "(IIZZ)I"⟩, 36) := ⟨⟨by decide +kernel, by decide +kernel⟩, List.mem_of_getElem? (i := 870) (by decide +kernel), List.mem_of_getElem? (i := 1205) (by decide +kernel), List.mem_of_getElem? (i := 1206) (by decide +kernel)⟩
theorem lw_p60 : lw_okq (⟨"LoanPointsModel", "isClash", "(IIIZZ)Z"⟩, 36) := ⟨⟨by decide +kernel, by decide +kernel⟩, List.mem_of_getElem? (i := 870) (by decide +kernel), List.mem_of_getElem? (i := 1209) (by decide +kernel), List.mem_of_getElem? (i := 1210) (by decide +kernel)⟩
theorem lw_p61 : lw_okq (⟨"LoanPointsModel", "errs", "(III)V"⟩, 36) := ⟨⟨by decide +kernel, by decide +kernel⟩, List.mem_of_getElem? (i := 870) (by decide +kernel), List.mem_of_getElem? (i := 1219) (by decide +kernel), List.mem_of_getElem? (i := 1220) (by decide +kernel)⟩
theorem lw_p62 : lw_okq (⟨"LoanPointsModel", "errorOf", "(II)I"⟩, 36) := ⟨⟨by decide +kernel, by decide +kernel⟩, List.mem_of_getElem? (i := 870) (by decide +kernel), List.mem_of_getElem? (i := 1228) (by decide +kernel), List.mem_of_getElem? (i := 1229) (by decide +kernel)⟩
theorem lw_p63 : lw_okq (⟨"LoanPointsModel", "witnessOf", "(II)I"⟩, 36) := ⟨⟨by decide +kernel, by decide +kernel⟩, List.mem_of_getElem? (i := 870) (by decide +kernel), List.mem_of_getElem? (i := 1236) (by decide +kernel), List.mem_of_getElem? (i := 1237) (by decide +kernel)⟩
def lw_privs_4 : List (MethodName × Nat) := [(⟨"LoanPointsModel", "regionOf", "(I)I"⟩, 36), (⟨"LoanPointsModel", "holdsOf", "(II)I"⟩, 36), (⟨"LoanPointsModel", "loansOf", "()I"⟩, 36), (⟨"LoanPointsModel", "scopeOf", "(I)I"⟩, 36), (⟨"LoanPointsModel", "activeOf", "(I)I"⟩, 36), (⟨"LoanPointsModel", "bearsOf", "(I)I"⟩, 36), (⟨"LoanPointsModel", "bearing", "(I)I"⟩, 36), (⟨"LoanPointsModel", "errorsOf", "()I"⟩, 36), (⟨"LoanPointsModel", "errsAll", "()V"⟩, 36), (⟨"LoanPointsModel", "errsAt", "(I)V"⟩, 36), (⟨"LoanPointsModel", "clashes", "(I)I"⟩, 36), (⟨"LoanPointsModel", "clashing", "(IIZZ)I"⟩, 36), (⟨"LoanPointsModel", "isClash", "(IIIZZ)Z"⟩, 36), (⟨"LoanPointsModel", "errs", "(III)V"⟩, 36), (⟨"LoanPointsModel", "errorOf", "(II)I"⟩, 36), (⟨"LoanPointsModel", "witnessOf", "(II)I"⟩, 36)]
theorem lw_r4 : ∀ q ∈ lw_privs_4, lw_okq q := List.forall_mem_cons.mpr ⟨lw_p48, List.forall_mem_cons.mpr ⟨lw_p49, List.forall_mem_cons.mpr ⟨lw_p50, List.forall_mem_cons.mpr ⟨lw_p51, List.forall_mem_cons.mpr ⟨lw_p52, List.forall_mem_cons.mpr ⟨lw_p53, List.forall_mem_cons.mpr ⟨lw_p54, List.forall_mem_cons.mpr ⟨lw_p55, List.forall_mem_cons.mpr ⟨lw_p56, List.forall_mem_cons.mpr ⟨lw_p57, List.forall_mem_cons.mpr ⟨lw_p58, List.forall_mem_cons.mpr ⟨lw_p59, List.forall_mem_cons.mpr ⟨lw_p60, List.forall_mem_cons.mpr ⟨lw_p61, List.forall_mem_cons.mpr ⟨lw_p62, List.forall_mem_cons.mpr ⟨lw_p63, fun _ h => absurd h List.not_mem_nil⟩⟩⟩⟩⟩⟩⟩⟩⟩⟩⟩⟩⟩⟩⟩⟩
theorem lw_p64 : lw_okq (⟨"LoanPointsModel", "findsWay", "(II)V"⟩, 36) := ⟨⟨by decide +kernel, by decide +kernel⟩, List.mem_of_getElem? (i := 870) (by decide +kernel), List.mem_of_getElem? (i := 1240) (by decide +kernel), List.mem_of_getElem? (i := 1241) (by decide +kernel)⟩
theorem lw_p65 : lw_okq (⟨"LoanPointsModel", "goesTo", "(I)V"⟩, 36) := ⟨⟨by decide +kernel, by decide +kernel⟩, List.mem_of_getElem? (i := 870) (by decide +kernel), List.mem_of_getElem? (i := 1244) (by decide +kernel), List.mem_of_getElem? (i := 1245) (by decide +kernel)⟩
theorem lw_p66 : lw_okq (⟨"LoanPointsModel", "measures", "(II)V"⟩, 36) := ⟨⟨by decide +kernel, by decide +kernel⟩, List.mem_of_getElem? (i := 870) (by decide +kernel), List.mem_of_getElem? (i := 1248) (by decide +kernel), List.mem_of_getElem? (i := 1249) (by decide +kernel)⟩
theorem lw_p67 : lw_okq (⟨"LoanPointsModel", "nearest", "(I)I"⟩, 36) := ⟨⟨by decide +kernel, by decide +kernel⟩, List.mem_of_getElem? (i := 870) (by decide +kernel), List.mem_of_getElem? (i := 1252) (by decide +kernel), List.mem_of_getElem? (i := 1253) (by decide +kernel)⟩
theorem lw_p68 : lw_okq (⟨"LoanPointsModel", "walks", "(I)V"⟩, 36) := ⟨⟨by decide +kernel, by decide +kernel⟩, List.mem_of_getElem? (i := 870) (by decide +kernel), List.mem_of_getElem? (i := 1256) (by decide +kernel), List.mem_of_getElem? (i := 1257) (by decide +kernel)⟩
theorem lw_p69 : lw_okq (⟨"LoanPointsModel", "mendOf", "(I)I"⟩, 36) := ⟨⟨by decide +kernel, by decide +kernel⟩, List.mem_of_getElem? (i := 870) (by decide +kernel), List.mem_of_getElem? (i := 1264) (by decide +kernel), List.mem_of_getElem? (i := 1265) (by decide +kernel)⟩
theorem lw_p70 : lw_okq (⟨"LoanPointsModel", "errorsAs", "(II)I"⟩, 36) := ⟨⟨by decide +kernel, by decide +kernel⟩, List.mem_of_getElem? (i := 870) (by decide +kernel), List.mem_of_getElem? (i := 1268) (by decide +kernel), List.mem_of_getElem? (i := 1269) (by decide +kernel)⟩
theorem lw_p71 : lw_okq (⟨"LoanPointsModel", "softOf", "()I"⟩, 36) := ⟨⟨by decide +kernel, by decide +kernel⟩, List.mem_of_getElem? (i := 870) (by decide +kernel), List.mem_of_getElem? (i := 1276) (by decide +kernel), List.mem_of_getElem? (i := 1277) (by decide +kernel)⟩
theorem lw_p72 : lw_okq (⟨"LoanPointsModel", "runOf", "(III)I"⟩, 36) := ⟨⟨by decide +kernel, by decide +kernel⟩, List.mem_of_getElem? (i := 870) (by decide +kernel), List.mem_of_getElem? (i := 1284) (by decide +kernel), List.mem_of_getElem? (i := 1285) (by decide +kernel)⟩
theorem lw_p73 : lw_okq (⟨"LoanPointsModel", "runs", "(II)V"⟩, 36) := ⟨⟨by decide +kernel, by decide +kernel⟩, List.mem_of_getElem? (i := 870) (by decide +kernel), List.mem_of_getElem? (i := 1288) (by decide +kernel), List.mem_of_getElem? (i := 1289) (by decide +kernel)⟩
theorem lw_p74 : lw_okq (⟨"LoanPointsModel", "whyBad", "(I)I"⟩, 36) := ⟨⟨by decide +kernel, by decide +kernel⟩, List.mem_of_getElem? (i := 870) (by decide +kernel), List.mem_of_getElem? (i := 1292) (by decide +kernel), List.mem_of_getElem? (i := 1293) (by decide +kernel)⟩
theorem lw_p75 : lw_okq (⟨"LoanPointsModel", "isStale", "(I)Z"⟩, 36) := ⟨⟨by decide +kernel, by decide +kernel⟩, List.mem_of_getElem? (i := 870) (by decide +kernel), List.mem_of_getElem? (i := 1296) (by decide +kernel), List.mem_of_getElem? (i := 1297) (by decide +kernel)⟩
theorem lw_p76 : lw_okq (⟨"LoanPointsModel", "isShared", "(I)Z"⟩, 36) := ⟨⟨by decide +kernel, by decide +kernel⟩, List.mem_of_getElem? (i := 870) (by decide +kernel), List.mem_of_getElem? (i := 1300) (by decide +kernel), List.mem_of_getElem? (i := 1301) (by decide +kernel)⟩
theorem lw_p77 : lw_okq (⟨"LoanPointsModel", "does", "(I)V"⟩, 36) := ⟨⟨by decide +kernel, by decide +kernel⟩, List.mem_of_getElem? (i := 870) (by decide +kernel), List.mem_of_getElem? (i := 1304) (by decide +kernel), List.mem_of_getElem? (i := 1305) (by decide +kernel)⟩
theorem lw_p78 : lw_okq (⟨"LoanPointsModel", "accesses", "(IIZI)V"⟩, 36) := ⟨⟨by decide +kernel, by decide +kernel⟩, List.mem_of_getElem? (i := 870) (by decide +kernel), List.mem_of_getElem? (i := 1308) (by decide +kernel), List.mem_of_getElem? (i := 1309) (by decide +kernel)⟩
theorem lw_p79 : lw_okq (⟨"LoanPointsModel", "isOf", "(II)Z"⟩, 36) := ⟨⟨by decide +kernel, by decide +kernel⟩, List.mem_of_getElem? (i := 870) (by decide +kernel), List.mem_of_getElem? (i := 1312) (by decide +kernel), List.mem_of_getElem? (i := 1313) (by decide +kernel)⟩
def lw_privs_5 : List (MethodName × Nat) := [(⟨"LoanPointsModel", "findsWay", "(II)V"⟩, 36), (⟨"LoanPointsModel", "goesTo", "(I)V"⟩, 36), (⟨"LoanPointsModel", "measures", "(II)V"⟩, 36), (⟨"LoanPointsModel", "nearest", "(I)I"⟩, 36), (⟨"LoanPointsModel", "walks", "(I)V"⟩, 36), (⟨"LoanPointsModel", "mendOf", "(I)I"⟩, 36), (⟨"LoanPointsModel", "errorsAs", "(II)I"⟩, 36), (⟨"LoanPointsModel", "softOf", "()I"⟩, 36), (⟨"LoanPointsModel", "runOf", "(III)I"⟩, 36), (⟨"LoanPointsModel", "runs", "(II)V"⟩, 36), (⟨"LoanPointsModel", "whyBad", "(I)I"⟩, 36), (⟨"LoanPointsModel", "isStale", "(I)Z"⟩, 36), (⟨"LoanPointsModel", "isShared", "(I)Z"⟩, 36), (⟨"LoanPointsModel", "does", "(I)V"⟩, 36), (⟨"LoanPointsModel", "accesses", "(IIZI)V"⟩, 36), (⟨"LoanPointsModel", "isOf", "(II)Z"⟩, 36)]
theorem lw_r5 : ∀ q ∈ lw_privs_5, lw_okq q := List.forall_mem_cons.mpr ⟨lw_p64, List.forall_mem_cons.mpr ⟨lw_p65, List.forall_mem_cons.mpr ⟨lw_p66, List.forall_mem_cons.mpr ⟨lw_p67, List.forall_mem_cons.mpr ⟨lw_p68, List.forall_mem_cons.mpr ⟨lw_p69, List.forall_mem_cons.mpr ⟨lw_p70, List.forall_mem_cons.mpr ⟨lw_p71, List.forall_mem_cons.mpr ⟨lw_p72, List.forall_mem_cons.mpr ⟨lw_p73, List.forall_mem_cons.mpr ⟨lw_p74, List.forall_mem_cons.mpr ⟨lw_p75, List.forall_mem_cons.mpr ⟨lw_p76, List.forall_mem_cons.mpr ⟨lw_p77, List.forall_mem_cons.mpr ⟨lw_p78, List.forall_mem_cons.mpr ⟨lw_p79, fun _ h => absurd h List.not_mem_nil⟩⟩⟩⟩⟩⟩⟩⟩⟩⟩⟩⟩⟩⟩⟩⟩
theorem lw_p80 : lw_okq (⟨"LoanPointsModel", "makes", "(IIII)V"⟩, 36) := ⟨⟨by decide +kernel, by decide +kernel⟩, List.mem_of_getElem? (i := 870) (by decide +kernel), List.mem_of_getElem? (i := 1316) (by decide +kernel), List.mem_of_getElem? (i := 1317) (by decide +kernel)⟩
theorem lw_p81 : lw_okq (⟨"LoanPointsModel", "lacks", "(III)I"⟩, 36) := ⟨⟨by decide +kernel, by decide +kernel⟩, List.mem_of_getElem? (i := 870) (by decide +kernel), List.mem_of_getElem? (i := 1332) (by decide +kernel), List.mem_of_getElem? (i := 1333) (by decide +kernel)⟩
theorem lw_p82 : lw_okq (⟨"LoanPointsModel", "keep", "(III)V"⟩, 36) := ⟨⟨by decide +kernel, by decide +kernel⟩, List.mem_of_getElem? (i := 870) (by decide +kernel), List.mem_of_getElem? (i := 1336) (by decide +kernel), List.mem_of_getElem? (i := 1337) (by decide +kernel)⟩
theorem lw_p83 : lw_okq (⟨"LoanPointsModel", "manyOf", "(I)I"⟩, 36) := ⟨⟨by decide +kernel, by decide +kernel⟩, List.mem_of_getElem? (i := 870) (by decide +kernel), List.mem_of_getElem? (i := 1360) (by decide +kernel), List.mem_of_getElem? (i := 1361) (by decide +kernel)⟩
theorem lw_p84 : lw_okq (⟨"LoanPointsModel", "pointDigest", "(JI)J"⟩, 36) := ⟨⟨by decide +kernel, by decide +kernel⟩, List.mem_of_getElem? (i := 870) (by decide +kernel), List.mem_of_getElem? (i := 1371) (by decide +kernel), List.mem_of_getElem? (i := 1372) (by decide +kernel)⟩
theorem lw_p85 : lw_okq (⟨"LoanPointsModel", "errorDigest", "(JI)J"⟩, 36) := ⟨⟨by decide +kernel, by decide +kernel⟩, List.mem_of_getElem? (i := 870) (by decide +kernel), List.mem_of_getElem? (i := 1375) (by decide +kernel), List.mem_of_getElem? (i := 1376) (by decide +kernel)⟩
theorem lw_p86 : lw_okq (⟨"LoanPointsModel", "runDigest", "(JI)J"⟩, 36) := ⟨⟨by decide +kernel, by decide +kernel⟩, List.mem_of_getElem? (i := 870) (by decide +kernel), List.mem_of_getElem? (i := 1379) (by decide +kernel), List.mem_of_getElem? (i := 1380) (by decide +kernel)⟩
def lw_privs_6 : List (MethodName × Nat) := [(⟨"LoanPointsModel", "makes", "(IIII)V"⟩, 36), (⟨"LoanPointsModel", "lacks", "(III)I"⟩, 36), (⟨"LoanPointsModel", "keep", "(III)V"⟩, 36), (⟨"LoanPointsModel", "manyOf", "(I)I"⟩, 36), (⟨"LoanPointsModel", "pointDigest", "(JI)J"⟩, 36), (⟨"LoanPointsModel", "errorDigest", "(JI)J"⟩, 36), (⟨"LoanPointsModel", "runDigest", "(JI)J"⟩, 36)]
theorem lw_r6 : ∀ q ∈ lw_privs_6, lw_okq q := List.forall_mem_cons.mpr ⟨lw_p80, List.forall_mem_cons.mpr ⟨lw_p81, List.forall_mem_cons.mpr ⟨lw_p82, List.forall_mem_cons.mpr ⟨lw_p83, List.forall_mem_cons.mpr ⟨lw_p84, List.forall_mem_cons.mpr ⟨lw_p85, List.forall_mem_cons.mpr ⟨lw_p86, fun _ h => absurd h List.not_mem_nil⟩⟩⟩⟩⟩⟩⟩
def lw_privs : List (MethodName × Nat) := lw_privs_1 ++ (lw_privs_2 ++ (lw_privs_3 ++ (lw_privs_4 ++ (lw_privs_5 ++ (lw_privs_6)))))
def lw_tbl : List Cond := k2_sels lw_privs ++ tables_1
theorem lw_privs_ok : ∀ q ∈ lw_privs, lw_okq q := by
  show ∀ q ∈ lw_privs_1 ++ (lw_privs_2 ++ (lw_privs_3 ++ (lw_privs_4 ++ (lw_privs_5 ++ (lw_privs_6))))), lw_okq q
  exact List.forall_mem_append.mpr ⟨lw_r1, List.forall_mem_append.mpr ⟨lw_r2, List.forall_mem_append.mpr ⟨lw_r3, List.forall_mem_append.mpr ⟨lw_r4, List.forall_mem_append.mpr ⟨lw_r5, lw_r6⟩⟩⟩⟩⟩
def RX0 : String := "LoanPoints$Check"
def TX0 : u_T := fun k => match k with
  | 0 => ("LoanPoints$Check", "listing", "LLoanPoints$Listing;", true)
  | 1 => ("LoanPoints$Check", "known", "Z", false)
  | 2 => ("LoanPoints$Check", "flow", "LLoanPoints$Flow;", true)
  | 3 => ("LoanPoints$Check", "lending", "LLoanPoints$Lending;", true)
  | _ => ("LoanPoints$Check", "faults", "LLoanPoints$Faults;", true)
def tyX0 : Nat → FieldType := fun k => match k with
  | 0 => .object "LoanPoints$Listing"
  | 1 => .boolean
  | 2 => .object "LoanPoints$Flow"
  | 3 => .object "LoanPoints$Lending"
  | _ => .object "LoanPoints$Faults"
abbrev wsX00 : List Cond := u_ws RX0 TX0 5
theorem nmX0 : ∀ a, a < 5 → ∀ b, b < 5 → a ≠ b → (TX0 a).2.1 ≠ (TX0 b).2.1 := by decide +kernel
theorem tyX0_ok : ∀ k, k < 5 → parseFieldDescriptor (TX0 k).2.2.1 = some (tyX0 k) := by decide +kernel
abbrev cX0_init : ByteArray := prog_2_method_1_code
def yX0_init : MethodName := ⟨RX0, "<init>", "(LLoanPoints$Listing;)V"⟩
abbrev cX0_forget : ByteArray := prog_2_method_2_code
def yX0_forget : MethodName := ⟨RX0, "forget", "()V"⟩
abbrev cX0_examine : ByteArray := prog_2_method_3_code
def yX0_examine : MethodName := ⟨RX0, "examine", "()LLoanPoints$Check;"⟩
def RX1 : String := "LoanPoints$Faults"
def TX1 : u_T := fun k => match k with
  | 0 => ("LoanPoints$Faults", "byPoint", "[I", true)
  | 1 => ("LoanPoints$Faults", "size", "I", false)
  | _ => ("LoanPoints$Faults", "total", "I", false)
def tyX1 : Nat → FieldType := fun k => match k with
  | 0 => .array .int
  | 1 => .int
  | _ => .int
abbrev wsX10 : List Cond := u_ws RX1 TX1 3
theorem nmX1 : ∀ a, a < 3 → ∀ b, b < 3 → a ≠ b → (TX1 a).2.1 ≠ (TX1 b).2.1 := by decide +kernel
theorem tyX1_ok : ∀ k, k < 3 → parseFieldDescriptor (TX1 k).2.2.1 = some (tyX1 k) := by decide +kernel
abbrev cX1_init : ByteArray := prog_3_method_1_code
def yX1_init : MethodName := ⟨RX1, "<init>", "()V"⟩
abbrev cX1_findClashes : ByteArray := prog_3_method_2_code
def yX1_findClashes : MethodName := ⟨RX1, "findClashes", "(LLoanPoints$Listing;LLoanPoints$Lending;)V"⟩
abbrev cX1_clashes : ByteArray := prog_3_method_3_code
def yX1_clashes : MethodName := ⟨RX1, "clashes", "(LLoanPoints$Listing;LLoanPoints$Lending;I)I"⟩
abbrev cX1_struck : ByteArray := prog_3_method_4_code
def yX1_struck : MethodName := ⟨RX1, "struck", "(LLoanPoints$Listing;IIZ)I"⟩
abbrev cX1_findMisuses : ByteArray := prog_3_method_5_code
def yX1_findMisuses : MethodName := ⟨RX1, "findMisuses", "(LLoanPoints$Listing;LLoanPoints$Lending;)V"⟩
abbrev cX1_addUp : ByteArray := prog_3_method_6_code
def yX1_addUp : MethodName := ⟨RX1, "addUp", "(I)V"⟩
abbrev cX1_totalOf : ByteArray := prog_3_method_7_code
def yX1_totalOf : MethodName := ⟨RX1, "totalOf", "(I)I"⟩
abbrev cX1_tell : ByteArray := prog_3_method_8_code
def yX1_tell : MethodName := ⟨RX1, "tell", "(II)I"⟩
abbrev cX1_numberOfBit : ByteArray := prog_3_method_9_code
def yX1_numberOfBit : MethodName := ⟨RX1, "numberOfBit", "(II)I"⟩
def RX2 : String := "LoanPoints$Flow"
def TX2 : u_T := fun k => match k with
  | 0 => ("LoanPoints$Flow", "onward", "[I", true)
  | 1 => ("LoanPoints$Flow", "aside", "[I", true)
  | 2 => ("LoanPoints$Flow", "reads", "[I", true)
  | 3 => ("LoanPoints$Flow", "writes", "[I", true)
  | 4 => ("LoanPoints$Flow", "liveVariables", "[I", true)
  | 5 => ("LoanPoints$Flow", "sources", "[I", true)
  | 6 => ("LoanPoints$Flow", "regions", "[I", true)
  | 7 => ("LoanPoints$Flow", "size", "I", false)
  | _ => ("LoanPoints$Flow", "reachedPoints", "I", false)
def tyX2 : Nat → FieldType := fun k => match k with
  | 0 => .array .int
  | 1 => .array .int
  | 2 => .array .int
  | 3 => .array .int
  | 4 => .array .int
  | 5 => .array .int
  | 6 => .array .int
  | 7 => .int
  | _ => .int
abbrev wsX20 : List Cond := u_ws RX2 TX2 9
theorem nmX2 : ∀ a, a < 9 → ∀ b, b < 9 → a ≠ b → (TX2 a).2.1 ≠ (TX2 b).2.1 := by decide +kernel
theorem tyX2_ok : ∀ k, k < 9 → parseFieldDescriptor (TX2 k).2.2.1 = some (tyX2 k) := by decide +kernel
abbrev cX2_init : ByteArray := prog_4_method_1_code
def yX2_init : MethodName := ⟨RX2, "<init>", "()V"⟩
abbrev cX2_findNext : ByteArray := prog_4_method_2_code
def yX2_findNext : MethodName := ⟨RX2, "findNext", "(LLoanPoints$Listing;)V"⟩
abbrev cX2_findReached : ByteArray := prog_4_method_3_code
def yX2_findReached : MethodName := ⟨RX2, "findReached", "()V"⟩
abbrev cX2_findUses : ByteArray := prog_4_method_4_code
def yX2_findUses : MethodName := ⟨RX2, "findUses", "(LLoanPoints$Listing;)V"⟩
abbrev cX2_findLive : ByteArray := prog_4_method_5_code
def yX2_findLive : MethodName := ⟨RX2, "findLive", "()V"⟩
abbrev cX2_findRegions : ByteArray := prog_4_method_6_code
def yX2_findRegions : MethodName := ⟨RX2, "findRegions", "(LLoanPoints$Listing;)V"⟩
abbrev cX2_livePoints : ByteArray := prog_4_method_7_code
def yX2_livePoints : MethodName := ⟨RX2, "livePoints", "(I)I"⟩
abbrev cX2_bearers : ByteArray := prog_4_method_8_code
def yX2_bearers : MethodName := ⟨RX2, "bearers", "(LLoanPoints$Listing;I)I"⟩
def RX3 : String := "LoanPoints$Lending"
def TX3 : u_T := fun k => match k with
  | 0 => ("LoanPoints$Lending", "allLoans", "I", false)
  | 1 => ("LoanPoints$Lending", "shareLoans", "I", false)
  | 2 => ("LoanPoints$Lending", "takeLoans", "I", false)
  | 3 => ("LoanPoints$Lending", "planLoans", "I", false)
  | 4 => ("LoanPoints$Lending", "held", "[I", true)
  | 5 => ("LoanPoints$Lending", "behind", "[I", true)
  | 6 => ("LoanPoints$Lending", "changed", "I", false)
  | 7 => ("LoanPoints$Lending", "scoped", "[I", true)
  | 8 => ("LoanPoints$Lending", "activated", "[I", true)
  | 9 => ("LoanPoints$Lending", "kills", "[I", true)
  | 10 => ("LoanPoints$Lending", "within", "[I", true)
  | 11 => ("LoanPoints$Lending", "wakes", "[I", true)
  | 12 => ("LoanPoints$Lending", "throughOwner", "[I", true)
  | _ => ("LoanPoints$Lending", "byX", "[I", true)
def tyX3 : Nat → FieldType := fun k => match k with
  | 0 => .int
  | 1 => .int
  | 2 => .int
  | 3 => .int
  | 4 => .array .int
  | 5 => .array .int
  | 6 => .int
  | 7 => .array .int
  | 8 => .array .int
  | 9 => .array .int
  | 10 => .array .int
  | 11 => .array .int
  | 12 => .array .int
  | _ => .array .int
abbrev wsX30 : List Cond := u_ws RX3 TX3 14
theorem nmX3 : ∀ a, a < 14 → ∀ b, b < 14 → a ≠ b → (TX3 a).2.1 ≠ (TX3 b).2.1 := by decide +kernel
theorem tyX3_ok : ∀ k, k < 14 → parseFieldDescriptor (TX3 k).2.2.1 = some (tyX3 k) := by decide +kernel
abbrev cX3_init : ByteArray := prog_5_method_1_code
def yX3_init : MethodName := ⟨RX3, "<init>", "()V"⟩
abbrev cX3_findLoans : ByteArray := prog_5_method_2_code
def yX3_findLoans : MethodName := ⟨RX3, "findLoans", "(LLoanPoints$Listing;I)V"⟩
abbrev cX3_sortLoan : ByteArray := prog_5_method_3_code
def yX3_sortLoan : MethodName := ⟨RX3, "sortLoan", "(LLoanPoints$Listing;I)V"⟩
abbrev cX3_findHeld : ByteArray := prog_5_method_4_code
def yX3_findHeld : MethodName := ⟨RX3, "findHeld", "(LLoanPoints$Listing;LLoanPoints$Flow;)V"⟩
abbrev cX3_stepBehind : ByteArray := prog_5_method_5_code
def yX3_stepBehind : MethodName := ⟨RX3, "stepBehind", "(LLoanPoints$Listing;I)V"⟩
abbrev cX3_join : ByteArray := prog_5_method_6_code
def yX3_join : MethodName := ⟨RX3, "join", "(I)V"⟩
abbrev cX3_markPoints : ByteArray := prog_5_method_7_code
def yX3_markPoints : MethodName := ⟨RX3, "markPoints", "(LLoanPoints$Listing;LLoanPoints$Flow;)V"⟩
abbrev cX3_heldThrough : ByteArray := prog_5_method_8_code
def yX3_heldThrough : MethodName := ⟨RX3, "heldThrough", "(LLoanPoints$Listing;I)I"⟩
abbrev cX3_findScopes : ByteArray := prog_5_method_9_code
def yX3_findScopes : MethodName := ⟨RX3, "findScopes", "(LLoanPoints$Flow;I)V"⟩
abbrev cX3_pass : ByteArray := prog_5_method_10_code
def yX3_pass : MethodName := ⟨RX3, "pass", "(III)Z"⟩
abbrev cX3_passable : ByteArray := prog_5_method_11_code
def yX3_passable : MethodName := ⟨RX3, "passable", "(LLoanPoints$Listing;LLoanPoints$Flow;I)I"⟩
def RX4 : String := "LoanPoints$Listing"
def TX4 : u_T := fun k => match k with
  | 0 => ("LoanPoints$Listing", "kinds", "[I", true)
  | 1 => ("LoanPoints$Listing", "xs", "[I", true)
  | 2 => ("LoanPoints$Listing", "places", "[I", true)
  | 3 => ("LoanPoints$Listing", "targets", "[I", true)
  | 4 => ("LoanPoints$Listing", "acts", "[I", true)
  | 5 => ("LoanPoints$Listing", "owners", "[I", true)
  | 6 => ("LoanPoints$Listing", "paths", "[I", true)
  | 7 => ("LoanPoints$Listing", "lends", "[Z", true)
  | 8 => ("LoanPoints$Listing", "goesThrough", "[Z", true)
  | _ => ("LoanPoints$Listing", "size", "I", false)
def tyX4 : Nat → FieldType := fun k => match k with
  | 0 => .array .int
  | 1 => .array .int
  | 2 => .array .int
  | 3 => .array .int
  | 4 => .array .int
  | 5 => .array .int
  | 6 => .array .int
  | 7 => .array .boolean
  | 8 => .array .boolean
  | _ => .int
abbrev wsX40 : List Cond := u_ws RX4 TX4 10
theorem nmX4 : ∀ a, a < 10 → ∀ b, b < 10 → a ≠ b → (TX4 a).2.1 ≠ (TX4 b).2.1 := by decide +kernel
theorem tyX4_ok : ∀ k, k < 10 → parseFieldDescriptor (TX4 k).2.2.1 = some (tyX4 k) := by decide +kernel
abbrev cX4_init : ByteArray := prog_6_method_1_code
def yX4_init : MethodName := ⟨RX4, "<init>", "()V"⟩
abbrev cX4_has : ByteArray := prog_6_method_2_code
def yX4_has : MethodName := ⟨RX4, "has", "(I)Z"⟩
abbrev cX4_fill : ByteArray := prog_6_method_3_code
def yX4_fill : MethodName := ⟨RX4, "fill", "(IIIII)V"⟩
abbrev cX4_turn : ByteArray := prog_6_method_4_code
def yX4_turn : MethodName := ⟨RX4, "turn", "(II)V"⟩
def RX5 : String := "LoanPoints$Plans"
def TX5 : u_T := fun k => match k with
  | 0 => ("LoanPoints$Plans", "listing", "LLoanPoints$Listing;", true)
  | 1 => ("LoanPoints$Plans", "check", "LLoanPoints$Check;", true)
  | 2 => ("LoanPoints$Plans", "trial", "LLoanPoints$Check;", true)
  | 3 => ("LoanPoints$Plans", "mendKnown", "Z", false)
  | 4 => ("LoanPoints$Plans", "softKnown", "Z", false)
  | 5 => ("LoanPoints$Plans", "mendPoint", "I", false)
  | 6 => ("LoanPoints$Plans", "mendErrors", "I", false)
  | _ => ("LoanPoints$Plans", "softPoints", "I", false)
def tyX5 : Nat → FieldType := fun k => match k with
  | 0 => .object "LoanPoints$Listing"
  | 1 => .object "LoanPoints$Check"
  | 2 => .object "LoanPoints$Check"
  | 3 => .boolean
  | 4 => .boolean
  | 5 => .int
  | 6 => .int
  | _ => .int
abbrev wsX50 : List Cond := u_ws RX5 TX5 8
theorem nmX5 : ∀ a, a < 8 → ∀ b, b < 8 → a ≠ b → (TX5 a).2.1 ≠ (TX5 b).2.1 := by decide +kernel
theorem tyX5_ok : ∀ k, k < 8 → parseFieldDescriptor (TX5 k).2.2.1 = some (tyX5 k) := by decide +kernel
abbrev cX5_init : ByteArray := prog_7_method_1_code
def yX5_init : MethodName := ⟨RX5, "<init>", "(LLoanPoints$Listing;LLoanPoints$Check;)V"⟩
abbrev cX5_forget : ByteArray := prog_7_method_2_code
def yX5_forget : MethodName := ⟨RX5, "forget", "()V"⟩
abbrev cX5_findMend : ByteArray := prog_7_method_3_code
def yX5_findMend : MethodName := ⟨RX5, "findMend", "()V"⟩
abbrev cX5_findSoft : ByteArray := prog_7_method_4_code
def yX5_findSoft : MethodName := ⟨RX5, "findSoft", "()V"⟩
abbrev cX5_errorsWith : ByteArray := prog_7_method_5_code
def yX5_errorsWith : MethodName := ⟨RX5, "errorsWith", "(II)I"⟩
def RX6 : String := "LoanPoints$Sheet"
def TX6 : u_T := fun k => match k with
  | 0 => ("LoanPoints$Sheet", "items", "[I", true)
  | 1 => ("LoanPoints$Sheet", "form", "I", false)
  | _ => ("LoanPoints$Sheet", "size", "I", false)
def tyX6 : Nat → FieldType := fun k => match k with
  | 0 => .array .int
  | 1 => .int
  | _ => .int
abbrev wsX60 : List Cond := u_ws RX6 TX6 3
theorem nmX6 : ∀ a, a < 3 → ∀ b, b < 3 → a ≠ b → (TX6 a).2.1 ≠ (TX6 b).2.1 := by decide +kernel
theorem tyX6_ok : ∀ k, k < 3 → parseFieldDescriptor (TX6 k).2.2.1 = some (tyX6 k) := by decide +kernel
abbrev cX6_init : ByteArray := prog_8_method_1_code
def yX6_init : MethodName := ⟨RX6, "<init>", "()V"⟩
abbrev cX6_isLost : ByteArray := prog_8_method_2_code
def yX6_isLost : MethodName := ⟨RX6, "isLost", "()Z"⟩
abbrev cX6_renew : ByteArray := prog_8_method_3_code
def yX6_renew : MethodName := ⟨RX6, "renew", "(II)V"⟩
abbrev cX6_drop : ByteArray := prog_8_method_4_code
def yX6_drop : MethodName := ⟨RX6, "drop", "()V"⟩
abbrev cX6_hindrance : ByteArray := prog_8_method_5_code
def yX6_hindrance : MethodName := ⟨RX6, "hindrance", "(II)I"⟩
abbrev cX6_hasRow : ByteArray := prog_8_method_6_code
def yX6_hasRow : MethodName := ⟨RX6, "hasRow", "(II)Z"⟩
abbrev cX6_enter : ByteArray := prog_8_method_7_code
def yX6_enter : MethodName := ⟨RX6, "enter", "(II)V"⟩
def RX7 : String := "LoanPoints$Trail"
def TX7 : u_T := fun k => match k with
  | 0 => ("LoanPoints$Trail", "listing", "LLoanPoints$Listing;", true)
  | 1 => ("LoanPoints$Trail", "check", "LLoanPoints$Check;", true)
  | 2 => ("LoanPoints$Trail", "distances", "[I", true)
  | 3 => ("LoanPoints$Trail", "shown", "I", false)
  | 4 => ("LoanPoints$Trail", "points", "[I", true)
  | _ => ("LoanPoints$Trail", "length", "I", false)
def tyX7 : Nat → FieldType := fun k => match k with
  | 0 => .object "LoanPoints$Listing"
  | 1 => .object "LoanPoints$Check"
  | 2 => .array .int
  | 3 => .int
  | 4 => .array .int
  | _ => .int
abbrev wsX70 : List Cond := u_ws RX7 TX7 6
theorem nmX7 : ∀ a, a < 6 → ∀ b, b < 6 → a ≠ b → (TX7 a).2.1 ≠ (TX7 b).2.1 := by decide +kernel
theorem tyX7_ok : ∀ k, k < 6 → parseFieldDescriptor (TX7 k).2.2.1 = some (tyX7 k) := by decide +kernel
abbrev cX7_init : ByteArray := prog_9_method_1_code
def yX7_init : MethodName := ⟨RX7, "<init>", "(LLoanPoints$Listing;LLoanPoints$Check;)V"⟩
abbrev cX7_forget : ByteArray := prog_9_method_2_code
def yX7_forget : MethodName := ⟨RX7, "forget", "()V"⟩
abbrev cX7_show : ByteArray := prog_9_method_3_code
def yX7_show : MethodName := ⟨RX7, "show", "(I)V"⟩
abbrev cX7_usesOf : ByteArray := prog_9_method_4_code
def yX7_usesOf : MethodName := ⟨RX7, "usesOf", "(I)I"⟩
abbrev cX7_measure : ByteArray := prog_9_method_5_code
def yX7_measure : MethodName := ⟨RX7, "measure", "(II)V"⟩
abbrev cX7_nearestBehind : ByteArray := prog_9_method_6_code
def yX7_nearestBehind : MethodName := ⟨RX7, "nearestBehind", "(I)I"⟩
abbrev cX7_follow : ByteArray := prog_9_method_7_code
def yX7_follow : MethodName := ⟨RX7, "follow", "(I)V"⟩
abbrev cX7_lengthen : ByteArray := prog_9_method_8_code
def yX7_lengthen : MethodName := ⟨RX7, "lengthen", "(I)V"⟩
def RX8 : String := "LoanPoints$Walk"
def TX8 : u_T := fun k => match k with
  | 0 => ("LoanPoints$Walk", "listing", "LLoanPoints$Listing;", true)
  | 1 => ("LoanPoints$Walk", "kinds", "[I", true)
  | 2 => ("LoanPoints$Walk", "spots", "[I", true)
  | 3 => ("LoanPoints$Walk", "froms", "[I", true)
  | 4 => ("LoanPoints$Walk", "stale", "[Z", true)
  | 5 => ("LoanPoints$Walk", "awake", "[Z", true)
  | 6 => ("LoanPoints$Walk", "spared", "[I", true)
  | 7 => ("LoanPoints$Walk", "made", "I", false)
  | 8 => ("LoanPoints$Walk", "accesses", "I", false)
  | 9 => ("LoanPoints$Walk", "held", "[I", true)
  | 10 => ("LoanPoints$Walk", "known", "Z", false)
  | 11 => ("LoanPoints$Walk", "knownChoices", "I", false)
  | 12 => ("LoanPoints$Walk", "knownSteps", "I", false)
  | 13 => ("LoanPoints$Walk", "badPoint", "I", false)
  | 14 => ("LoanPoints$Walk", "why", "I", false)
  | _ => ("LoanPoints$Walk", "done", "I", false)
def tyX8 : Nat → FieldType := fun k => match k with
  | 0 => .object "LoanPoints$Listing"
  | 1 => .array .int
  | 2 => .array .int
  | 3 => .array .int
  | 4 => .array .boolean
  | 5 => .array .boolean
  | 6 => .array .int
  | 7 => .int
  | 8 => .int
  | 9 => .array .int
  | 10 => .boolean
  | 11 => .int
  | 12 => .int
  | 13 => .int
  | 14 => .int
  | _ => .int
abbrev wsX80 : List Cond := u_ws RX8 TX8 16
theorem nmX8 : ∀ a, a < 16 → ∀ b, b < 16 → a ≠ b → (TX8 a).2.1 ≠ (TX8 b).2.1 := by decide +kernel
theorem tyX8_ok : ∀ k, k < 16 → parseFieldDescriptor (TX8 k).2.2.1 = some (tyX8 k) := by decide +kernel
abbrev cX8_init : ByteArray := prog_10_method_1_code
def yX8_init : MethodName := ⟨RX8, "<init>", "(LLoanPoints$Listing;)V"⟩
abbrev cX8_forget : ByteArray := prog_10_method_2_code
def yX8_forget : MethodName := ⟨RX8, "forget", "()V"⟩
abbrev cX8_go : ByteArray := prog_10_method_3_code
def yX8_go : MethodName := ⟨RX8, "go", "(II)V"⟩
abbrev cX8_begin : ByteArray := prog_10_method_4_code
def yX8_begin : MethodName := ⟨RX8, "begin", "()V"⟩
abbrev cX8_following : ByteArray := prog_10_method_5_code
def yX8_following : MethodName := ⟨RX8, "following", "(IZ)I"⟩
abbrev cX8_fault : ByteArray := prog_10_method_6_code
def yX8_fault : MethodName := ⟨RX8, "fault", "(I)I"⟩
abbrev cX8_hasStale : ByteArray := prog_10_method_7_code
def yX8_hasStale : MethodName := ⟨RX8, "hasStale", "(I)Z"⟩
abbrev cX8_hasShared : ByteArray := prog_10_method_8_code
def yX8_hasShared : MethodName := ⟨RX8, "hasShared", "(I)Z"⟩
abbrev cX8_perform : ByteArray := prog_10_method_9_code
def yX8_perform : MethodName := ⟨RX8, "perform", "(I)V"⟩
abbrev cX8_spotOf : ByteArray := prog_10_method_10_code
def yX8_spotOf : MethodName := ⟨RX8, "spotOf", "(II)I"⟩
abbrev cX8_make : ByteArray := prog_10_method_11_code
def yX8_make : MethodName := ⟨RX8, "make", "(III)I"⟩
abbrev cX8_touch : ByteArray := prog_10_method_12_code
def yX8_touch : MethodName := ⟨RX8, "touch", "(IZI)V"⟩
abbrev cX8_meet : ByteArray := prog_10_method_13_code
def yX8_meet : MethodName := ⟨RX8, "meet", "(II)Z"⟩
def RX9 : String := "LoanPoints"
def TX9 : u_T := fun k => match k with
  | 0 => ("LoanPoints", "listing", "LLoanPoints$Listing;", true)
  | 1 => ("LoanPoints", "check", "LLoanPoints$Check;", true)
  | 2 => ("LoanPoints", "plans", "LLoanPoints$Plans;", true)
  | 3 => ("LoanPoints", "trail", "LLoanPoints$Trail;", true)
  | 4 => ("LoanPoints", "walk", "LLoanPoints$Walk;", true)
  | 5 => ("LoanPoints", "sheets", "[LLoanPoints$Sheet;", true)
  | _ => ("LoanPoints", "latestFinding", "I", false)
def tyX9 : Nat → FieldType := fun k => match k with
  | 0 => .object "LoanPoints$Listing"
  | 1 => .object "LoanPoints$Check"
  | 2 => .object "LoanPoints$Plans"
  | 3 => .object "LoanPoints$Trail"
  | 4 => .object "LoanPoints$Walk"
  | 5 => .array (.object "LoanPoints$Sheet")
  | _ => .int
abbrev wsX90 : List Cond := u_ws RX9 TX9 7
theorem nmX9 : ∀ a, a < 7 → ∀ b, b < 7 → a ≠ b → (TX9 a).2.1 ≠ (TX9 b).2.1 := by decide +kernel
theorem tyX9_ok : ∀ k, k < 7 → parseFieldDescriptor (TX9 k).2.2.1 = some (tyX9 k) := by decide +kernel
abbrev cX9_init : ByteArray := prog_1_method_1_code
def yX9_init : MethodName := ⟨RX9, "<init>", "()V"⟩
abbrev cX9_add : ByteArray := prog_1_method_2_code
def yX9_add : MethodName := ⟨RX9, "add", "(IIII)I"⟩
abbrev cX9_alter : ByteArray := prog_1_method_3_code
def yX9_alter : MethodName := ⟨RX9, "alter", "(IIIII)I"⟩
abbrev cX9_back : ByteArray := prog_1_method_4_code
def yX9_back : MethodName := ⟨RX9, "back", "()I"⟩
abbrev cX9_clear : ByteArray := prog_1_method_5_code
def yX9_clear : MethodName := ⟨RX9, "clear", "()I"⟩
abbrev cX9_code : ByteArray := prog_1_method_6_code
def yX9_code : MethodName := ⟨RX9, "code", "(II)I"⟩
abbrev cX9_read : ByteArray := prog_1_method_7_code
def yX9_read : MethodName := ⟨RX9, "read", "(I)I"⟩
abbrev cX9_isBetween : ByteArray := prog_1_method_8_code
def yX9_isBetween : MethodName := ⟨RX9, "isBetween", "(III)Z"⟩
abbrev cX9_isVariable : ByteArray := prog_1_method_9_code
def yX9_isVariable : MethodName := ⟨RX9, "isVariable", "(I)Z"⟩
abbrev cX9_mayBe : ByteArray := prog_1_method_10_code
def yX9_mayBe : MethodName := ⟨RX9, "mayBe", "(IIII)Z"⟩
abbrev cX9_append : ByteArray := prog_1_method_11_code
def yX9_append : MethodName := ⟨RX9, "append", "(IIII)V"⟩
abbrev cX9_forget : ByteArray := prog_1_method_12_code
def yX9_forget : MethodName := ⟨RX9, "forget", "()V"⟩
abbrev cX9_next : ByteArray := prog_1_method_13_code
def yX9_next : MethodName := ⟨RX9, "next", "(I)I"⟩
abbrev cX9_reached : ByteArray := prog_1_method_14_code
def yX9_reached : MethodName := ⟨RX9, "reached", "()I"⟩
abbrev cX9_live : ByteArray := prog_1_method_15_code
def yX9_live : MethodName := ⟨RX9, "live", "(I)I"⟩
abbrev cX9_region : ByteArray := prog_1_method_16_code
def yX9_region : MethodName := ⟨RX9, "region", "(I)I"⟩
abbrev cX9_holds : ByteArray := prog_1_method_17_code
def yX9_holds : MethodName := ⟨RX9, "holds", "(II)I"⟩
abbrev cX9_loans : ByteArray := prog_1_method_18_code
def yX9_loans : MethodName := ⟨RX9, "loans", "()I"⟩
abbrev cX9_scope : ByteArray := prog_1_method_19_code
def yX9_scope : MethodName := ⟨RX9, "scope", "(I)I"⟩
abbrev cX9_active : ByteArray := prog_1_method_20_code
def yX9_active : MethodName := ⟨RX9, "active", "(I)I"⟩
abbrev cX9_bears : ByteArray := prog_1_method_21_code
def yX9_bears : MethodName := ⟨RX9, "bears", "(I)I"⟩
abbrev cX9_hasBit : ByteArray := prog_1_method_22_code
def yX9_hasBit : MethodName := ⟨RX9, "hasBit", "(II)Z"⟩
abbrev cX9_bitOf : ByteArray := prog_1_method_23_code
def yX9_bitOf : MethodName := ⟨RX9, "bitOf", "(I)I"⟩
abbrev cX9_errors : ByteArray := prog_1_method_24_code
def yX9_errors : MethodName := ⟨RX9, "errors", "()I"⟩
abbrev cX9_error : ByteArray := prog_1_method_25_code
def yX9_error : MethodName := ⟨RX9, "error", "(II)I"⟩
abbrev cX9_witness : ByteArray := prog_1_method_26_code
def yX9_witness : MethodName := ⟨RX9, "witness", "(II)I"⟩
abbrev cX9_mend : ByteArray := prog_1_method_27_code
def yX9_mend : MethodName := ⟨RX9, "mend", "(I)I"⟩
abbrev cX9_soft : ByteArray := prog_1_method_28_code
def yX9_soft : MethodName := ⟨RX9, "soft", "()I"⟩
abbrev cX9_run : ByteArray := prog_1_method_29_code
def yX9_run : MethodName := ⟨RX9, "run", "(III)I"⟩
abbrev cX9_sheet : ByteArray := prog_1_method_30_code
def yX9_sheet : MethodName := ⟨RX9, "sheet", "(III)I"⟩
abbrev cX9_lose : ByteArray := prog_1_method_31_code
def yX9_lose : MethodName := ⟨RX9, "lose", "(I)I"⟩
abbrev cX9_put : ByteArray := prog_1_method_32_code
def yX9_put : MethodName := ⟨RX9, "put", "(IIII)I"⟩
abbrev cX9_get : ByteArray := prog_1_method_33_code
def yX9_get : MethodName := ⟨RX9, "get", "(III)I"⟩
abbrev cX9_copy : ByteArray := prog_1_method_34_code
def yX9_copy : MethodName := ⟨RX9, "copy", "(IIIII)I"⟩
abbrev cX9_write : ByteArray := prog_1_method_35_code
def yX9_write : MethodName := ⟨RX9, "write", "(I)I"⟩
abbrev cX9_count : ByteArray := prog_1_method_36_code
def yX9_count : MethodName := ⟨RX9, "count", "(I)I"⟩
abbrev cX9_digest : ByteArray := prog_1_method_37_code
def yX9_digest : MethodName := ⟨RX9, "digest", "()J"⟩
abbrev cX9_fold : ByteArray := prog_1_method_38_code
def yX9_fold : MethodName := ⟨RX9, "fold", "(JJ)J"⟩
abbrev cX9_foldPoint : ByteArray := prog_1_method_39_code
def yX9_foldPoint : MethodName := ⟨RX9, "foldPoint", "(JI)J"⟩
abbrev cX9_foldError : ByteArray := prog_1_method_40_code
def yX9_foldError : MethodName := ⟨RX9, "foldError", "(JI)J"⟩
abbrev cX9_foldRun : ByteArray := prog_1_method_41_code
def yX9_foldRun : MethodName := ⟨RX9, "foldRun", "(JI)J"⟩
abbrev cX9_isSheet : ByteArray := prog_1_method_42_code
def yX9_isSheet : MethodName := ⟨RX9, "isSheet", "(I)Z"⟩
abbrev cX9_isForm : ByteArray := prog_1_method_43_code
def yX9_isForm : MethodName := ⟨RX9, "isForm", "(I)Z"⟩
abbrev cX9_finding : ByteArray := prog_1_method_44_code
def yX9_finding : MethodName := ⟨RX9, "finding", "(I)I"⟩
def RX10 : String := "LoanPointsModel"
def TX10 : u_T := fun k => match k with
  | 0 => ("LoanPointsModel", "told", "I", false)
  | 1 => ("LoanPointsModel", "kinds", "[I", true)
  | 2 => ("LoanPointsModel", "xs", "[I", true)
  | 3 => ("LoanPointsModel", "ps", "[I", true)
  | 4 => ("LoanPointsModel", "targets", "[I", true)
  | 5 => ("LoanPointsModel", "reachedNow", "I", false)
  | 6 => ("LoanPointsModel", "loansNow", "I", false)
  | 7 => ("LoanPointsModel", "liveNow", "[I", true)
  | 8 => ("LoanPointsModel", "regionNow", "[I", true)
  | 9 => ("LoanPointsModel", "holding", "[I", true)
  | 10 => ("LoanPointsModel", "scopeAt", "[I", true)
  | 11 => ("LoanPointsModel", "activeAt", "[I", true)
  | 12 => ("LoanPointsModel", "errorsNow", "I", false)
  | 13 => ("LoanPointsModel", "errorAt", "[I", true)
  | 14 => ("LoanPointsModel", "errorKind", "[I", true)
  | 15 => ("LoanPointsModel", "errorNumber", "[I", true)
  | 16 => ("LoanPointsModel", "far", "[I", true)
  | 17 => ("LoanPointsModel", "wayMany", "I", false)
  | 18 => ("LoanPointsModel", "way", "[I", true)
  | 19 => ("LoanPointsModel", "made", "I", false)
  | 20 => ("LoanPointsModel", "refKind", "[I", true)
  | 21 => ("LoanPointsModel", "refVariable", "[I", true)
  | 22 => ("LoanPointsModel", "refPart", "[I", true)
  | 23 => ("LoanPointsModel", "refFrom", "[I", true)
  | 24 => ("LoanPointsModel", "refFresh", "[I", true)
  | 25 => ("LoanPointsModel", "refActive", "[I", true)
  | 26 => ("LoanPointsModel", "referring", "[I", true)
  | 27 => ("LoanPointsModel", "badAt", "I", false)
  | 28 => ("LoanPointsModel", "badWhy", "I", false)
  | 29 => ("LoanPointsModel", "doneMany", "I", false)
  | 30 => ("LoanPointsModel", "isThere", "[Z", true)
  | 31 => ("LoanPointsModel", "forms", "[I", true)
  | 32 => ("LoanPointsModel", "sizes", "[I", true)
  | 33 => ("LoanPointsModel", "items", "[I", true)
  | 34 => ("LoanPointsModel", "moved", "[I", true)
  | _ => ("LoanPointsModel", "finding", "I", false)
def tyX10 : Nat → FieldType := fun k => match k with
  | 0 => .int
  | 1 => .array .int
  | 2 => .array .int
  | 3 => .array .int
  | 4 => .array .int
  | 5 => .int
  | 6 => .int
  | 7 => .array .int
  | 8 => .array .int
  | 9 => .array .int
  | 10 => .array .int
  | 11 => .array .int
  | 12 => .int
  | 13 => .array .int
  | 14 => .array .int
  | 15 => .array .int
  | 16 => .array .int
  | 17 => .int
  | 18 => .array .int
  | 19 => .int
  | 20 => .array .int
  | 21 => .array .int
  | 22 => .array .int
  | 23 => .array .int
  | 24 => .array .int
  | 25 => .array .int
  | 26 => .array .int
  | 27 => .int
  | 28 => .int
  | 29 => .int
  | 30 => .array .boolean
  | 31 => .array .int
  | 32 => .array .int
  | 33 => .array .int
  | 34 => .array .int
  | _ => .int
abbrev wsX100 : List Cond := u_ws RX10 TX10 36
theorem nmX10 : ∀ a, a < 36 → ∀ b, b < 36 → a ≠ b → (TX10 a).2.1 ≠ (TX10 b).2.1 := by decide +kernel
theorem tyX10_ok : ∀ k, k < 36 → parseFieldDescriptor (TX10 k).2.2.1 = some (tyX10 k) := by decide +kernel
abbrev cX10_init : ByteArray := prog_12_method_1_code
def yX10_init : MethodName := ⟨RX10, "<init>", "()V"⟩
abbrev cX10_in : ByteArray := prog_12_method_3_code
def yX10_in : MethodName := ⟨RX10, "in", "(III)Z"⟩
abbrev cX10_isIn : ByteArray := prog_12_method_4_code
def yX10_isIn : MethodName := ⟨RX10, "isIn", "(II)Z"⟩
abbrev cX10_many : ByteArray := prog_12_method_5_code
def yX10_many : MethodName := ⟨RX10, "many", "(I)I"⟩
abbrev cX10_isWell : ByteArray := prog_12_method_6_code
def yX10_isWell : MethodName := ⟨RX10, "isWell", "(IIII)Z"⟩
abbrev cX10_puts : ByteArray := prog_12_method_7_code
def yX10_puts : MethodName := ⟨RX10, "puts", "(IIIII)V"⟩
abbrev cX10_add : ByteArray := prog_12_method_8_code
def yX10_add : MethodName := ⟨RX10, "add", "(IIII)I"⟩
abbrev cX10_isPoint : ByteArray := prog_12_method_9_code
def yX10_isPoint : MethodName := ⟨RX10, "isPoint", "(I)Z"⟩
abbrev cX10_alter : ByteArray := prog_12_method_10_code
def yX10_alter : MethodName := ⟨RX10, "alter", "(IIIII)I"⟩
abbrev cX10_back : ByteArray := prog_12_method_11_code
def yX10_back : MethodName := ⟨RX10, "back", "()I"⟩
abbrev cX10_clear : ByteArray := prog_12_method_12_code
def yX10_clear : MethodName := ⟨RX10, "clear", "()I"⟩
abbrev cX10_codeOf : ByteArray := prog_12_method_13_code
def yX10_codeOf : MethodName := ⟨RX10, "codeOf", "(II)I"⟩
abbrev cX10_code : ByteArray := prog_12_method_14_code
def yX10_code : MethodName := ⟨RX10, "code", "(II)I"⟩
abbrev cX10_read : ByteArray := prog_12_method_15_code
def yX10_read : MethodName := ⟨RX10, "read", "(I)I"⟩
abbrev cX10_variable : ByteArray := prog_12_method_16_code
def yX10_variable : MethodName := ⟨RX10, "variable", "(I)I"⟩
abbrev cX10_through : ByteArray := prog_12_method_17_code
def yX10_through : MethodName := ⟨RX10, "through", "(I)Z"⟩
abbrev cX10_contains : ByteArray := prog_12_method_18_code
def yX10_contains : MethodName := ⟨RX10, "contains", "(II)Z"⟩
abbrev cX10_overlap : ByteArray := prog_12_method_19_code
def yX10_overlap : MethodName := ⟨RX10, "overlap", "(II)Z"⟩
abbrev cX10_kind : ByteArray := prog_12_method_20_code
def yX10_kind : MethodName := ⟨RX10, "kind", "(I)I"⟩
abbrev cX10_lends : ByteArray := prog_12_method_21_code
def yX10_lends : MethodName := ⟨RX10, "lends", "(I)Z"⟩
abbrev cX10_there : ByteArray := prog_12_method_22_code
def yX10_there : MethodName := ⟨RX10, "there", "(I)I"⟩
abbrev cX10_nextOf : ByteArray := prog_12_method_23_code
def yX10_nextOf : MethodName := ⟨RX10, "nextOf", "(I)I"⟩
abbrev cX10_next : ByteArray := prog_12_method_24_code
def yX10_next : MethodName := ⟨RX10, "next", "(I)I"⟩
abbrev cX10_readsOf : ByteArray := prog_12_method_25_code
def yX10_readsOf : MethodName := ⟨RX10, "readsOf", "(I)I"⟩
abbrev cX10_writesOf : ByteArray := prog_12_method_26_code
def yX10_writesOf : MethodName := ⟨RX10, "writesOf", "(I)I"⟩
abbrev cX10_goesBy : ByteArray := prog_12_method_27_code
def yX10_goesBy : MethodName := ⟨RX10, "goesBy", "(I)I"⟩
abbrev cX10_findsReached : ByteArray := prog_12_method_28_code
def yX10_findsReached : MethodName := ⟨RX10, "findsReached", "()V"⟩
abbrev cX10_findsLive : ByteArray := prog_12_method_29_code
def yX10_findsLive : MethodName := ⟨RX10, "findsLive", "()V"⟩
abbrev cX10_findsRegions : ByteArray := prog_12_method_30_code
def yX10_findsRegions : MethodName := ⟨RX10, "findsRegions", "()V"⟩
abbrev cX10_behind : ByteArray := prog_12_method_31_code
def yX10_behind : MethodName := ⟨RX10, "behind", "(II)I"⟩
abbrev cX10_flows : ByteArray := prog_12_method_32_code
def yX10_flows : MethodName := ⟨RX10, "flows", "(I)Z"⟩
abbrev cX10_findsHolding : ByteArray := prog_12_method_33_code
def yX10_findsHolding : MethodName := ⟨RX10, "findsHolding", "()V"⟩
abbrev cX10_kills : ByteArray := prog_12_method_34_code
def yX10_kills : MethodName := ⟨RX10, "kills", "(II)Z"⟩
abbrev cX10_isNever : ByteArray := prog_12_method_35_code
def yX10_isNever : MethodName := ⟨RX10, "isNever", "(I)Z"⟩
abbrev cX10_findsScope : ByteArray := prog_12_method_36_code
def yX10_findsScope : MethodName := ⟨RX10, "findsScope", "(I)V"⟩
abbrev cX10_findsAll : ByteArray := prog_12_method_37_code
def yX10_findsAll : MethodName := ⟨RX10, "findsAll", "()V"⟩
abbrev cX10_reachedOf : ByteArray := prog_12_method_38_code
def yX10_reachedOf : MethodName := ⟨RX10, "reachedOf", "()I"⟩
abbrev cX10_reached : ByteArray := prog_12_method_39_code
def yX10_reached : MethodName := ⟨RX10, "reached", "()I"⟩
abbrev cX10_liveOf : ByteArray := prog_12_method_40_code
def yX10_liveOf : MethodName := ⟨RX10, "liveOf", "(I)I"⟩
abbrev cX10_live : ByteArray := prog_12_method_41_code
def yX10_live : MethodName := ⟨RX10, "live", "(I)I"⟩
abbrev cX10_regionOf : ByteArray := prog_12_method_42_code
def yX10_regionOf : MethodName := ⟨RX10, "regionOf", "(I)I"⟩
abbrev cX10_region : ByteArray := prog_12_method_43_code
def yX10_region : MethodName := ⟨RX10, "region", "(I)I"⟩
abbrev cX10_holdsOf : ByteArray := prog_12_method_44_code
def yX10_holdsOf : MethodName := ⟨RX10, "holdsOf", "(II)I"⟩
abbrev cX10_holds : ByteArray := prog_12_method_45_code
def yX10_holds : MethodName := ⟨RX10, "holds", "(II)I"⟩
abbrev cX10_loansOf : ByteArray := prog_12_method_46_code
def yX10_loansOf : MethodName := ⟨RX10, "loansOf", "()I"⟩
abbrev cX10_loans : ByteArray := prog_12_method_47_code
def yX10_loans : MethodName := ⟨RX10, "loans", "()I"⟩
abbrev cX10_scopeOf : ByteArray := prog_12_method_48_code
def yX10_scopeOf : MethodName := ⟨RX10, "scopeOf", "(I)I"⟩
abbrev cX10_scope : ByteArray := prog_12_method_49_code
def yX10_scope : MethodName := ⟨RX10, "scope", "(I)I"⟩
abbrev cX10_activeOf : ByteArray := prog_12_method_50_code
def yX10_activeOf : MethodName := ⟨RX10, "activeOf", "(I)I"⟩
abbrev cX10_active : ByteArray := prog_12_method_51_code
def yX10_active : MethodName := ⟨RX10, "active", "(I)I"⟩
abbrev cX10_bearing : ByteArray := prog_12_method_52_code
def yX10_bearing : MethodName := ⟨RX10, "bearing", "(I)I"⟩
abbrev cX10_bearsOf : ByteArray := prog_12_method_53_code
def yX10_bearsOf : MethodName := ⟨RX10, "bearsOf", "(I)I"⟩
abbrev cX10_bears : ByteArray := prog_12_method_54_code
def yX10_bears : MethodName := ⟨RX10, "bears", "(I)I"⟩
abbrev cX10_errs : ByteArray := prog_12_method_55_code
def yX10_errs : MethodName := ⟨RX10, "errs", "(III)V"⟩
abbrev cX10_isClash : ByteArray := prog_12_method_56_code
def yX10_isClash : MethodName := ⟨RX10, "isClash", "(IIIZZ)Z"⟩
abbrev cX10_clashing : ByteArray := prog_12_method_57_code
def yX10_clashing : MethodName := ⟨RX10, "clashing", "(IIZZ)I"⟩
abbrev cX10_clashes : ByteArray := prog_12_method_58_code
def yX10_clashes : MethodName := ⟨RX10, "clashes", "(I)I"⟩
abbrev cX10_errsAt : ByteArray := prog_12_method_59_code
def yX10_errsAt : MethodName := ⟨RX10, "errsAt", "(I)V"⟩
abbrev cX10_errsAll : ByteArray := prog_12_method_60_code
def yX10_errsAll : MethodName := ⟨RX10, "errsAll", "()V"⟩
abbrev cX10_errorsOf : ByteArray := prog_12_method_61_code
def yX10_errorsOf : MethodName := ⟨RX10, "errorsOf", "()I"⟩
abbrev cX10_errors : ByteArray := prog_12_method_62_code
def yX10_errors : MethodName := ⟨RX10, "errors", "()I"⟩
abbrev cX10_errorOf : ByteArray := prog_12_method_63_code
def yX10_errorOf : MethodName := ⟨RX10, "errorOf", "(II)I"⟩
abbrev cX10_error : ByteArray := prog_12_method_64_code
def yX10_error : MethodName := ⟨RX10, "error", "(II)I"⟩
abbrev cX10_goesTo : ByteArray := prog_12_method_65_code
def yX10_goesTo : MethodName := ⟨RX10, "goesTo", "(I)V"⟩
abbrev cX10_nearest : ByteArray := prog_12_method_66_code
def yX10_nearest : MethodName := ⟨RX10, "nearest", "(I)I"⟩
abbrev cX10_measures : ByteArray := prog_12_method_67_code
def yX10_measures : MethodName := ⟨RX10, "measures", "(II)V"⟩
abbrev cX10_walks : ByteArray := prog_12_method_68_code
def yX10_walks : MethodName := ⟨RX10, "walks", "(I)V"⟩
abbrev cX10_findsWay : ByteArray := prog_12_method_69_code
def yX10_findsWay : MethodName := ⟨RX10, "findsWay", "(II)V"⟩
abbrev cX10_witnessOf : ByteArray := prog_12_method_70_code
def yX10_witnessOf : MethodName := ⟨RX10, "witnessOf", "(II)I"⟩
abbrev cX10_witness : ByteArray := prog_12_method_71_code
def yX10_witness : MethodName := ⟨RX10, "witness", "(II)I"⟩
abbrev cX10_errorsAs : ByteArray := prog_12_method_72_code
def yX10_errorsAs : MethodName := ⟨RX10, "errorsAs", "(II)I"⟩
abbrev cX10_mendOf : ByteArray := prog_12_method_73_code
def yX10_mendOf : MethodName := ⟨RX10, "mendOf", "(I)I"⟩
abbrev cX10_mend : ByteArray := prog_12_method_74_code
def yX10_mend : MethodName := ⟨RX10, "mend", "(I)I"⟩
abbrev cX10_softOf : ByteArray := prog_12_method_75_code
def yX10_softOf : MethodName := ⟨RX10, "softOf", "()I"⟩
abbrev cX10_soft : ByteArray := prog_12_method_76_code
def yX10_soft : MethodName := ⟨RX10, "soft", "()I"⟩
abbrev cX10_isOf : ByteArray := prog_12_method_77_code
def yX10_isOf : MethodName := ⟨RX10, "isOf", "(II)Z"⟩
abbrev cX10_accesses : ByteArray := prog_12_method_78_code
def yX10_accesses : MethodName := ⟨RX10, "accesses", "(IIZI)V"⟩
abbrev cX10_isStale : ByteArray := prog_12_method_79_code
def yX10_isStale : MethodName := ⟨RX10, "isStale", "(I)Z"⟩
abbrev cX10_isShared : ByteArray := prog_12_method_80_code
def yX10_isShared : MethodName := ⟨RX10, "isShared", "(I)Z"⟩
abbrev cX10_whyBad : ByteArray := prog_12_method_81_code
def yX10_whyBad : MethodName := ⟨RX10, "whyBad", "(I)I"⟩
abbrev cX10_makes : ByteArray := prog_12_method_82_code
def yX10_makes : MethodName := ⟨RX10, "makes", "(IIII)V"⟩
abbrev cX10_does : ByteArray := prog_12_method_83_code
def yX10_does : MethodName := ⟨RX10, "does", "(I)V"⟩
abbrev cX10_runs : ByteArray := prog_12_method_84_code
def yX10_runs : MethodName := ⟨RX10, "runs", "(II)V"⟩
abbrev cX10_runOf : ByteArray := prog_12_method_85_code
def yX10_runOf : MethodName := ⟨RX10, "runOf", "(III)I"⟩
abbrev cX10_run : ByteArray := prog_12_method_86_code
def yX10_run : MethodName := ⟨RX10, "run", "(III)I"⟩
abbrev cX10_meets : ByteArray := prog_12_method_87_code
def yX10_meets : MethodName := ⟨RX10, "meets", "(I)I"⟩
abbrev cX10_isSheet : ByteArray := prog_12_method_88_code
def yX10_isSheet : MethodName := ⟨RX10, "isSheet", "(I)Z"⟩
abbrev cX10_sheet : ByteArray := prog_12_method_89_code
def yX10_sheet : MethodName := ⟨RX10, "sheet", "(III)I"⟩
abbrev cX10_lose : ByteArray := prog_12_method_90_code
def yX10_lose : MethodName := ⟨RX10, "lose", "(I)I"⟩
abbrev cX10_lacks : ByteArray := prog_12_method_91_code
def yX10_lacks : MethodName := ⟨RX10, "lacks", "(III)I"⟩
abbrev cX10_keep : ByteArray := prog_12_method_92_code
def yX10_keep : MethodName := ⟨RX10, "keep", "(III)V"⟩
abbrev cX10_put : ByteArray := prog_12_method_93_code
def yX10_put : MethodName := ⟨RX10, "put", "(IIII)I"⟩
abbrev cX10_get : ByteArray := prog_12_method_94_code
def yX10_get : MethodName := ⟨RX10, "get", "(III)I"⟩
abbrev cX10_copy : ByteArray := prog_12_method_95_code
def yX10_copy : MethodName := ⟨RX10, "copy", "(IIIII)I"⟩
abbrev cX10_write : ByteArray := prog_12_method_96_code
def yX10_write : MethodName := ⟨RX10, "write", "(I)I"⟩
abbrev cX10_manyOf : ByteArray := prog_12_method_97_code
def yX10_manyOf : MethodName := ⟨RX10, "manyOf", "(I)I"⟩
abbrev cX10_count : ByteArray := prog_12_method_98_code
def yX10_count : MethodName := ⟨RX10, "count", "(I)I"⟩
abbrev cX10_pointDigest : ByteArray := prog_12_method_99_code
def yX10_pointDigest : MethodName := ⟨RX10, "pointDigest", "(JI)J"⟩
abbrev cX10_errorDigest : ByteArray := prog_12_method_100_code
def yX10_errorDigest : MethodName := ⟨RX10, "errorDigest", "(JI)J"⟩
abbrev cX10_runDigest : ByteArray := prog_12_method_101_code
def yX10_runDigest : MethodName := ⟨RX10, "runDigest", "(JI)J"⟩
abbrev cX10_digest : ByteArray := prog_12_method_102_code
def yX10_digest : MethodName := ⟨RX10, "digest", "()J"⟩
def RJ6 : String := "java/lang/Integer"
def TJ6 : u_T := fun k => match k with
  | _ => ("", "", "", false)
def tyJ6 : Nat → FieldType := fun k => match k with
  | _ => .int
abbrev wsJ60 : List Cond := u_ws RJ6 TJ6 0
theorem nmJ6 : ∀ a, a < 0 → ∀ b, b < 0 → a ≠ b → (TJ6 a).2.1 ≠ (TJ6 b).2.1 := by decide +kernel
theorem tyJ6_ok : ∀ k, k < 0 → parseFieldDescriptor (TJ6 k).2.2.1 = some (tyJ6 k) := by decide +kernel
abbrev cJ6_bitCount_0f7a4 : ByteArray := prog_13_method_49_code
def yJ6_bitCount_0f7a4 : MethodName := ⟨RJ6, "bitCount", "(I)I"⟩
def RJ9 : String := "java/lang/Math"
def TJ9 : u_T := fun k => match k with
  | _ => ("", "", "", false)
def tyJ9 : Nat → FieldType := fun k => match k with
  | _ => .int
abbrev wsJ90 : List Cond := u_ws RJ9 TJ9 0
theorem nmJ9 : ∀ a, a < 0 → ∀ b, b < 0 → a ≠ b → (TJ9 a).2.1 ≠ (TJ9 b).2.1 := by decide +kernel
theorem tyJ9_ok : ∀ k, k < 0 → parseFieldDescriptor (TJ9 k).2.2.1 = some (tyJ9 k) := by decide +kernel
abbrev cJ9_min_7cf53 : ByteArray := prog_14_method_69_code
def yJ9_min_7cf53 : MethodName := ⟨RJ9, "min", "(II)I"⟩
def RJ10 : String := "java/lang/System"
def TJ10 : u_T := fun k => match k with
  | _ => ("", "", "", false)
def tyJ10 : Nat → FieldType := fun k => match k with
  | _ => .int
abbrev wsJ100 : List Cond := u_ws RJ10 TJ10 0
theorem nmJ10 : ∀ a, a < 0 → ∀ b, b < 0 → a ≠ b → (TJ10 a).2.1 ≠ (TJ10 b).2.1 := by decide +kernel
theorem tyJ10_ok : ∀ k, k < 0 → parseFieldDescriptor (TJ10 k).2.2.1 = some (tyJ10 k) := by decide +kernel
def RL : String := "LoanPointsLaw"
abbrev cL_law : ByteArray := code
def yL_law : MethodName := ⟨RL, "law", "([I)Z"⟩
abbrev vwCl : List vw_C := [(RX0, TX0, 5), (RX1, TX1, 3), (RX2, TX2, 9), (RX3, TX3, 14), (RX4, TX4, 10), (RX5, TX5, 8), (RX6, TX6, 3), (RX7, TX7, 6), (RX8, TX8, 16), (RX9, TX9, 7), (RX10, TX10, 36)]
