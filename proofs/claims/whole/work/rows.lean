section
/-- a private method of a class that the tables say can be made, by its rows of tables_1 -/
def lw_okq (q : MethodName × Nat) : Prop := (q.1.cls ≠ "java/lang/invoke/MethodHandle" ∧ q.1.cls ≠ "java/lang/invoke/VarHandle") ∧ Cond.instantiable q.1.cls q.2 ∈ tables_1 ∧ Cond.privateMethod q.1 ∈ tables_1 ∧ Cond.instanceMethod q.1 ∈ tables_1
theorem lw_p0 : lw_okq (⟨"LoanPoints", "append", "(IIII)V"⟩, 7) := ⟨⟨by decide +kernel, by decide +kernel⟩, List.mem_of_getElem? (i := 16) (by decide +kernel), List.mem_of_getElem? (i := 432) (by decide +kernel), List.mem_of_getElem? (i := 433) (by decide +kernel)⟩
theorem lw_p1 : lw_okq (⟨"LoanPoints", "forget", "()V"⟩, 7) := ⟨⟨by decide +kernel, by decide +kernel⟩, List.mem_of_getElem? (i := 16) (by decide +kernel), List.mem_of_getElem? (i := 444) (by decide +kernel), List.mem_of_getElem? (i := 445) (by decide +kernel)⟩
theorem lw_p2 : lw_okq (⟨"LoanPoints", "finding", "(I)I"⟩, 7) := ⟨⟨by decide +kernel, by decide +kernel⟩, List.mem_of_getElem? (i := 16) (by decide +kernel), List.mem_of_getElem? (i := 495) (by decide +kernel), List.mem_of_getElem? (i := 496) (by decide +kernel)⟩
theorem lw_p3 : lw_okq (⟨"LoanPoints$Lending", "sortLoan", "(LLoanPoints$Listing;I)V"⟩, 14) := ⟨⟨by decide +kernel, by decide +kernel⟩, List.mem_of_getElem? (i := 155) (by decide +kernel), List.mem_of_getElem? (i := 543) (by decide +kernel), List.mem_of_getElem? (i := 544) (by decide +kernel)⟩
theorem lw_p4 : lw_okq (⟨"LoanPoints$Lending", "stepBehind", "(LLoanPoints$Listing;I)V"⟩, 14) := ⟨⟨by decide +kernel, by decide +kernel⟩, List.mem_of_getElem? (i := 155) (by decide +kernel), List.mem_of_getElem? (i := 552) (by decide +kernel), List.mem_of_getElem? (i := 553) (by decide +kernel)⟩
theorem lw_p5 : lw_okq (⟨"LoanPoints$Lending", "join", "(I)V"⟩, 14) := ⟨⟨by decide +kernel, by decide +kernel⟩, List.mem_of_getElem? (i := 155) (by decide +kernel), List.mem_of_getElem? (i := 559) (by decide +kernel), List.mem_of_getElem? (i := 560) (by decide +kernel)⟩
theorem lw_p6 : lw_okq (⟨"LoanPoints$Lending", "pass", "(III)Z"⟩, 14) := ⟨⟨by decide +kernel, by decide +kernel⟩, List.mem_of_getElem? (i := 155) (by decide +kernel), List.mem_of_getElem? (i := 575) (by decide +kernel), List.mem_of_getElem? (i := 576) (by decide +kernel)⟩
theorem lw_p7 : lw_okq (⟨"LoanPoints$Trail", "lengthen", "(I)V"⟩, 6) := ⟨⟨by decide +kernel, by decide +kernel⟩, List.mem_of_getElem? (i := 292) (by decide +kernel), List.mem_of_getElem? (i := 671) (by decide +kernel), List.mem_of_getElem? (i := 672) (by decide +kernel)⟩
theorem lw_p8 : lw_okq (⟨"LoanPoints$Trail", "measure", "(II)V"⟩, 6) := ⟨⟨by decide +kernel, by decide +kernel⟩, List.mem_of_getElem? (i := 292) (by decide +kernel), List.mem_of_getElem? (i := 679) (by decide +kernel), List.mem_of_getElem? (i := 680) (by decide +kernel)⟩
theorem lw_p9 : lw_okq (⟨"LoanPoints$Trail", "nearestBehind", "(I)I"⟩, 6) := ⟨⟨by decide +kernel, by decide +kernel⟩, List.mem_of_getElem? (i := 292) (by decide +kernel), List.mem_of_getElem? (i := 684) (by decide +kernel), List.mem_of_getElem? (i := 685) (by decide +kernel)⟩
theorem lw_p10 : lw_okq (⟨"LoanPoints$Trail", "follow", "(I)V"⟩, 6) := ⟨⟨by decide +kernel, by decide +kernel⟩, List.mem_of_getElem? (i := 292) (by decide +kernel), List.mem_of_getElem? (i := 691) (by decide +kernel), List.mem_of_getElem? (i := 692) (by decide +kernel)⟩
theorem lw_p11 : lw_okq (⟨"LoanPoints$Trail", "usesOf", "(I)I"⟩, 6) := ⟨⟨by decide +kernel, by decide +kernel⟩, List.mem_of_getElem? (i := 292) (by decide +kernel), List.mem_of_getElem? (i := 695) (by decide +kernel), List.mem_of_getElem? (i := 696) (by decide +kernel)⟩
theorem lw_p12 : lw_okq (⟨"LoanPoints$Plans", "errorsWith", "(II)I"⟩, 8) := ⟨⟨by decide +kernel, by decide +kernel⟩, List.mem_of_getElem? (i := 256) (by decide +kernel), List.mem_of_getElem? (i := 709) (by decide +kernel), List.mem_of_getElem? (i := 710) (by decide +kernel)⟩
theorem lw_p13 : lw_okq (⟨"LoanPoints$Walk", "begin", "()V"⟩, 16) := ⟨⟨by decide +kernel, by decide +kernel⟩, List.mem_of_getElem? (i := 319) (by decide +kernel), List.mem_of_getElem? (i := 732) (by decide +kernel), List.mem_of_getElem? (i := 733) (by decide +kernel)⟩
theorem lw_p14 : lw_okq (⟨"LoanPoints$Walk", "fault", "(I)I"⟩, 16) := ⟨⟨by decide +kernel, by decide +kernel⟩, List.mem_of_getElem? (i := 319) (by decide +kernel), List.mem_of_getElem? (i := 737) (by decide +kernel), List.mem_of_getElem? (i := 738) (by decide +kernel)⟩
theorem lw_p15 : lw_okq (⟨"LoanPoints$Walk", "hasStale", "(I)Z"⟩, 16) := ⟨⟨by decide +kernel, by decide +kernel⟩, List.mem_of_getElem? (i := 319) (by decide +kernel), List.mem_of_getElem? (i := 741) (by decide +kernel), List.mem_of_getElem? (i := 742) (by decide +kernel)⟩
def lw_privs_1 : List (MethodName × Nat) := [(⟨"LoanPoints", "append", "(IIII)V"⟩, 7), (⟨"LoanPoints", "forget", "()V"⟩, 7), (⟨"LoanPoints", "finding", "(I)I"⟩, 7), (⟨"LoanPoints$Lending", "sortLoan", "(LLoanPoints$Listing;I)V"⟩, 14), (⟨"LoanPoints$Lending", "stepBehind", "(LLoanPoints$Listing;I)V"⟩, 14), (⟨"LoanPoints$Lending", "join", "(I)V"⟩, 14), (⟨"LoanPoints$Lending", "pass", "(III)Z"⟩, 14), (⟨"LoanPoints$Trail", "lengthen", "(I)V"⟩, 6), (⟨"LoanPoints$Trail", "measure", "(II)V"⟩, 6), (⟨"LoanPoints$Trail", "nearestBehind", "(I)I"⟩, 6), (⟨"LoanPoints$Trail", "follow", "(I)V"⟩, 6), (⟨"LoanPoints$Trail", "usesOf", "(I)I"⟩, 6), (⟨"LoanPoints$Plans", "errorsWith", "(II)I"⟩, 8), (⟨"LoanPoints$Walk", "begin", "()V"⟩, 16), (⟨"LoanPoints$Walk", "fault", "(I)I"⟩, 16), (⟨"LoanPoints$Walk", "hasStale", "(I)Z"⟩, 16)]
theorem lw_r1 : ∀ q ∈ lw_privs_1, lw_okq q := List.forall_mem_cons.mpr ⟨lw_p0, List.forall_mem_cons.mpr ⟨lw_p1, List.forall_mem_cons.mpr ⟨lw_p2, List.forall_mem_cons.mpr ⟨lw_p3, List.forall_mem_cons.mpr ⟨lw_p4, List.forall_mem_cons.mpr ⟨lw_p5, List.forall_mem_cons.mpr ⟨lw_p6, List.forall_mem_cons.mpr ⟨lw_p7, List.forall_mem_cons.mpr ⟨lw_p8, List.forall_mem_cons.mpr ⟨lw_p9, List.forall_mem_cons.mpr ⟨lw_p10, List.forall_mem_cons.mpr ⟨lw_p11, List.forall_mem_cons.mpr ⟨lw_p12, List.forall_mem_cons.mpr ⟨lw_p13, List.forall_mem_cons.mpr ⟨lw_p14, List.forall_mem_cons.mpr ⟨lw_p15, fun _ h => absurd h List.not_mem_nil⟩⟩⟩⟩⟩⟩⟩⟩⟩⟩⟩⟩⟩⟩⟩⟩
theorem lw_p16 : lw_okq (⟨"LoanPoints$Walk", "hasShared", "(I)Z"⟩, 16) := ⟨⟨by decide +kernel, by decide +kernel⟩, List.mem_of_getElem? (i := 319) (by decide +kernel), List.mem_of_getElem? (i := 745) (by decide +kernel), List.mem_of_getElem? (i := 746) (by decide +kernel)⟩
theorem lw_p17 : lw_okq (⟨"LoanPoints$Walk", "perform", "(I)V"⟩, 16) := ⟨⟨by decide +kernel, by decide +kernel⟩, List.mem_of_getElem? (i := 319) (by decide +kernel), List.mem_of_getElem? (i := 749) (by decide +kernel), List.mem_of_getElem? (i := 750) (by decide +kernel)⟩
theorem lw_p18 : lw_okq (⟨"LoanPoints$Walk", "touch", "(IZI)V"⟩, 16) := ⟨⟨by decide +kernel, by decide +kernel⟩, List.mem_of_getElem? (i := 319) (by decide +kernel), List.mem_of_getElem? (i := 753) (by decide +kernel), List.mem_of_getElem? (i := 754) (by decide +kernel)⟩
theorem lw_p19 : lw_okq (⟨"LoanPoints$Walk", "spotOf", "(II)I"⟩, 16) := ⟨⟨by decide +kernel, by decide +kernel⟩, List.mem_of_getElem? (i := 319) (by decide +kernel), List.mem_of_getElem? (i := 760) (by decide +kernel), List.mem_of_getElem? (i := 761) (by decide +kernel)⟩
theorem lw_p20 : lw_okq (⟨"LoanPoints$Walk", "make", "(III)I"⟩, 16) := ⟨⟨by decide +kernel, by decide +kernel⟩, List.mem_of_getElem? (i := 319) (by decide +kernel), List.mem_of_getElem? (i := 764) (by decide +kernel), List.mem_of_getElem? (i := 765) (by decide +kernel)⟩
theorem lw_p21 : lw_okq (⟨"LoanPoints$Walk", "following", "(IZ)I"⟩, 16) := ⟨⟨by decide +kernel, by decide +kernel⟩, List.mem_of_getElem? (i := 319) (by decide +kernel), List.mem_of_getElem? (i := 768) (by decide +kernel), List.mem_of_getElem? (i := 769) (by decide +kernel)⟩
theorem lw_p22 : lw_okq (⟨"LoanPoints", "foldPoint", "(JI)J"⟩, 7) := ⟨⟨by decide +kernel, by decide +kernel⟩, List.mem_of_getElem? (i := 16) (by decide +kernel), List.mem_of_getElem? (i := 846) (by decide +kernel), List.mem_of_getElem? (i := 847) (by decide +kernel)⟩
theorem lw_p23 : lw_okq (⟨"LoanPoints", "foldError", "(JI)J"⟩, 7) := ⟨⟨by decide +kernel, by decide +kernel⟩, List.mem_of_getElem? (i := 16) (by decide +kernel), List.mem_of_getElem? (i := 856) (by decide +kernel), List.mem_of_getElem? (i := 857) (by decide +kernel)⟩
theorem lw_p24 : lw_okq (⟨"LoanPoints", "foldRun", "(JI)J"⟩, 7) := ⟨⟨by decide +kernel, by decide +kernel⟩, List.mem_of_getElem? (i := 16) (by decide +kernel), List.mem_of_getElem? (i := 864) (by decide +kernel), List.mem_of_getElem? (i := 865) (by decide +kernel)⟩
theorem lw_p25 : lw_okq (⟨"LoanPointsModel", "puts", "(IIIII)V"⟩, 36) := ⟨⟨by decide +kernel, by decide +kernel⟩, List.mem_of_getElem? (i := 870) (by decide +kernel), List.mem_of_getElem? (i := 995) (by decide +kernel), List.mem_of_getElem? (i := 996) (by decide +kernel)⟩
theorem lw_p26 : lw_okq (⟨"LoanPointsModel", "isPoint", "(I)Z"⟩, 36) := ⟨⟨by decide +kernel, by decide +kernel⟩, List.mem_of_getElem? (i := 870) (by decide +kernel), List.mem_of_getElem? (i := 1003) (by decide +kernel), List.mem_of_getElem? (i := 1004) (by decide +kernel)⟩
theorem lw_p27 : lw_okq (⟨"LoanPointsModel", "codeOf", "(II)I"⟩, 36) := ⟨⟨by decide +kernel, by decide +kernel⟩, List.mem_of_getElem? (i := 870) (by decide +kernel), List.mem_of_getElem? (i := 1019) (by decide +kernel), List.mem_of_getElem? (i := 1020) (by decide +kernel)⟩
theorem lw_p28 : lw_okq (⟨"LoanPointsModel", "meets", "(I)I"⟩, 36) := ⟨⟨by decide +kernel, by decide +kernel⟩, List.mem_of_getElem? (i := 870) (by decide +kernel), List.mem_of_getElem? (i := 1030) (by decide +kernel), List.mem_of_getElem? (i := 1031) (by decide +kernel)⟩
theorem lw_p29 : lw_okq (⟨"LoanPointsModel", "nextOf", "(I)I"⟩, 36) := ⟨⟨by decide +kernel, by decide +kernel⟩, List.mem_of_getElem? (i := 870) (by decide +kernel), List.mem_of_getElem? (i := 1039) (by decide +kernel), List.mem_of_getElem? (i := 1040) (by decide +kernel)⟩
theorem lw_p30 : lw_okq (⟨"LoanPointsModel", "there", "(I)I"⟩, 36) := ⟨⟨by decide +kernel, by decide +kernel⟩, List.mem_of_getElem? (i := 870) (by decide +kernel), List.mem_of_getElem? (i := 1043) (by decide +kernel), List.mem_of_getElem? (i := 1044) (by decide +kernel)⟩
theorem lw_p31 : lw_okq (⟨"LoanPointsModel", "reachedOf", "()I"⟩, 36) := ⟨⟨by decide +kernel, by decide +kernel⟩, List.mem_of_getElem? (i := 870) (by decide +kernel), List.mem_of_getElem? (i := 1051) (by decide +kernel), List.mem_of_getElem? (i := 1052) (by decide +kernel)⟩
def lw_privs_2 : List (MethodName × Nat) := [(⟨"LoanPoints$Walk", "hasShared", "(I)Z"⟩, 16), (⟨"LoanPoints$Walk", "perform", "(I)V"⟩, 16), (⟨"LoanPoints$Walk", "touch", "(IZI)V"⟩, 16), (⟨"LoanPoints$Walk", "spotOf", "(II)I"⟩, 16), (⟨"LoanPoints$Walk", "make", "(III)I"⟩, 16), (⟨"LoanPoints$Walk", "following", "(IZ)I"⟩, 16), (⟨"LoanPoints", "foldPoint", "(JI)J"⟩, 7), (⟨"LoanPoints", "foldError", "(JI)J"⟩, 7), (⟨"LoanPoints", "foldRun", "(JI)J"⟩, 7), (⟨"LoanPointsModel", "puts", "(IIIII)V"⟩, 36), (⟨"LoanPointsModel", "isPoint", "(I)Z"⟩, 36), (⟨"LoanPointsModel", "codeOf", "(II)I"⟩, 36), (⟨"LoanPointsModel", "meets", "(I)I"⟩, 36), (⟨"LoanPointsModel", "nextOf", "(I)I"⟩, 36), (⟨"LoanPointsModel", "there", "(I)I"⟩, 36), (⟨"LoanPointsModel", "reachedOf", "()I"⟩, 36)]
theorem lw_r2 : ∀ q ∈ lw_privs_2, lw_okq q := List.forall_mem_cons.mpr ⟨lw_p16, List.forall_mem_cons.mpr ⟨lw_p17, List.forall_mem_cons.mpr ⟨lw_p18, List.forall_mem_cons.mpr ⟨lw_p19, List.forall_mem_cons.mpr ⟨lw_p20, List.forall_mem_cons.mpr ⟨lw_p21, List.forall_mem_cons.mpr ⟨lw_p22, List.forall_mem_cons.mpr ⟨lw_p23, List.forall_mem_cons.mpr ⟨lw_p24, List.forall_mem_cons.mpr ⟨lw_p25, List.forall_mem_cons.mpr ⟨lw_p26, List.forall_mem_cons.mpr ⟨lw_p27, List.forall_mem_cons.mpr ⟨lw_p28, List.forall_mem_cons.mpr ⟨lw_p29, List.forall_mem_cons.mpr ⟨lw_p30, List.forall_mem_cons.mpr ⟨lw_p31, fun _ h => absurd h List.not_mem_nil⟩⟩⟩⟩⟩⟩⟩⟩⟩⟩⟩⟩⟩⟩⟩⟩
theorem lw_p32 : lw_okq (⟨"LoanPointsModel", "findsAll", "()V"⟩, 36) := ⟨⟨by decide +kernel, by decide +kernel⟩, List.mem_of_getElem? (i := 870) (by decide +kernel), List.mem_of_getElem? (i := 1055) (by decide +kernel), List.mem_of_getElem? (i := 1056) (by decide +kernel)⟩
theorem lw_p33 : lw_okq (⟨"LoanPointsModel", "findsReached", "()V"⟩, 36) := ⟨⟨by decide +kernel, by decide +kernel⟩, List.mem_of_getElem? (i := 870) (by decide +kernel), List.mem_of_getElem? (i := 1059) (by decide +kernel), List.mem_of_getElem? (i := 1060) (by decide +kernel)⟩
theorem lw_p34 : lw_okq (⟨"LoanPointsModel", "lends", "(I)Z"⟩, 36) := ⟨⟨by decide +kernel, by decide +kernel⟩, List.mem_of_getElem? (i := 870) (by decide +kernel), List.mem_of_getElem? (i := 1066) (by decide +kernel), List.mem_of_getElem? (i := 1067) (by decide +kernel)⟩
theorem lw_p35 : lw_okq (⟨"LoanPointsModel", "findsLive", "()V"⟩, 36) := ⟨⟨by decide +kernel, by decide +kernel⟩, List.mem_of_getElem? (i := 870) (by decide +kernel), List.mem_of_getElem? (i := 1070) (by decide +kernel), List.mem_of_getElem? (i := 1071) (by decide +kernel)⟩
theorem lw_p36 : lw_okq (⟨"LoanPointsModel", "readsOf", "(I)I"⟩, 36) := ⟨⟨by decide +kernel, by decide +kernel⟩, List.mem_of_getElem? (i := 870) (by decide +kernel), List.mem_of_getElem? (i := 1074) (by decide +kernel), List.mem_of_getElem? (i := 1075) (by decide +kernel)⟩
theorem lw_p37 : lw_okq (⟨"LoanPointsModel", "writesOf", "(I)I"⟩, 36) := ⟨⟨by decide +kernel, by decide +kernel⟩, List.mem_of_getElem? (i := 870) (by decide +kernel), List.mem_of_getElem? (i := 1084) (by decide +kernel), List.mem_of_getElem? (i := 1085) (by decide +kernel)⟩
theorem lw_p38 : lw_okq (⟨"LoanPointsModel", "findsRegions", "()V"⟩, 36) := ⟨⟨by decide +kernel, by decide +kernel⟩, List.mem_of_getElem? (i := 870) (by decide +kernel), List.mem_of_getElem? (i := 1088) (by decide +kernel), List.mem_of_getElem? (i := 1089) (by decide +kernel)⟩
theorem lw_p39 : lw_okq (⟨"LoanPointsModel", "findsHolding", "()V"⟩, 36) := ⟨⟨by decide +kernel, by decide +kernel⟩, List.mem_of_getElem? (i := 870) (by decide +kernel), List.mem_of_getElem? (i := 1092) (by decide +kernel), List.mem_of_getElem? (i := 1093) (by decide +kernel)⟩
theorem lw_p40 : lw_okq (⟨"LoanPointsModel", "flows", "(I)Z"⟩, 36) := ⟨⟨by decide +kernel, by decide +kernel⟩, List.mem_of_getElem? (i := 870) (by decide +kernel), List.mem_of_getElem? (i := 1097) (by decide +kernel), List.mem_of_getElem? (i := 1098) (by decide +kernel)⟩
theorem lw_p41 : lw_okq (⟨"LoanPointsModel", "behind", "(II)I"⟩, 36) := ⟨⟨by decide +kernel, by decide +kernel⟩, List.mem_of_getElem? (i := 870) (by decide +kernel), List.mem_of_getElem? (i := 1101) (by decide +kernel), List.mem_of_getElem? (i := 1102) (by decide +kernel)⟩
theorem lw_p42 : lw_okq (⟨"LoanPointsModel", "findsScope", "(I)V"⟩, 36) := ⟨⟨by decide +kernel, by decide +kernel⟩, List.mem_of_getElem? (i := 870) (by decide +kernel), List.mem_of_getElem? (i := 1105) (by decide +kernel), List.mem_of_getElem? (i := 1106) (by decide +kernel)⟩
theorem lw_p43 : lw_okq (⟨"LoanPointsModel", "isNever", "(I)Z"⟩, 36) := ⟨⟨by decide +kernel, by decide +kernel⟩, List.mem_of_getElem? (i := 870) (by decide +kernel), List.mem_of_getElem? (i := 1109) (by decide +kernel), List.mem_of_getElem? (i := 1110) (by decide +kernel)⟩
theorem lw_p44 : lw_okq (⟨"LoanPointsModel", "kills", "(II)Z"⟩, 36) := ⟨⟨by decide +kernel, by decide +kernel⟩, List.mem_of_getElem? (i := 870) (by decide +kernel), List.mem_of_getElem? (i := 1113) (by decide +kernel), List.mem_of_getElem? (i := 1114) (by decide +kernel)⟩
theorem lw_p45 : lw_okq (⟨"LoanPointsModel", "goesBy", "(I)I"⟩, 36) := ⟨⟨by decide +kernel, by decide +kernel⟩, List.mem_of_getElem? (i := 870) (by decide +kernel), List.mem_of_getElem? (i := 1117) (by decide +kernel), List.mem_of_getElem? (i := 1118) (by decide +kernel)⟩
theorem lw_p46 : lw_okq (⟨"LoanPointsModel", "kind", "(I)I"⟩, 36) := ⟨⟨by decide +kernel, by decide +kernel⟩, List.mem_of_getElem? (i := 870) (by decide +kernel), List.mem_of_getElem? (i := 1121) (by decide +kernel), List.mem_of_getElem? (i := 1122) (by decide +kernel)⟩
theorem lw_p47 : lw_okq (⟨"LoanPointsModel", "liveOf", "(I)I"⟩, 36) := ⟨⟨by decide +kernel, by decide +kernel⟩, List.mem_of_getElem? (i := 870) (by decide +kernel), List.mem_of_getElem? (i := 1129) (by decide +kernel), List.mem_of_getElem? (i := 1130) (by decide +kernel)⟩
def lw_privs_3 : List (MethodName × Nat) := [(⟨"LoanPointsModel", "findsAll", "()V"⟩, 36), (⟨"LoanPointsModel", "findsReached", "()V"⟩, 36), (⟨"LoanPointsModel", "lends", "(I)Z"⟩, 36), (⟨"LoanPointsModel", "findsLive", "()V"⟩, 36), (⟨"LoanPointsModel", "readsOf", "(I)I"⟩, 36), (⟨"LoanPointsModel", "writesOf", "(I)I"⟩, 36), (⟨"LoanPointsModel", "findsRegions", "()V"⟩, 36), (⟨"LoanPointsModel", "findsHolding", "()V"⟩, 36), (⟨"LoanPointsModel", "flows", "(I)Z"⟩, 36), (⟨"LoanPointsModel", "behind", "(II)I"⟩, 36), (⟨"LoanPointsModel", "findsScope", "(I)V"⟩, 36), (⟨"LoanPointsModel", "isNever", "(I)Z"⟩, 36), (⟨"LoanPointsModel", "kills", "(II)Z"⟩, 36), (⟨"LoanPointsModel", "goesBy", "(I)I"⟩, 36), (⟨"LoanPointsModel", "kind", "(I)I"⟩, 36), (⟨"LoanPointsModel", "liveOf", "(I)I"⟩, 36)]
theorem lw_r3 : ∀ q ∈ lw_privs_3, lw_okq q := List.forall_mem_cons.mpr ⟨lw_p32, List.forall_mem_cons.mpr ⟨lw_p33, List.forall_mem_cons.mpr ⟨lw_p34, List.forall_mem_cons.mpr ⟨lw_p35, List.forall_mem_cons.mpr ⟨lw_p36, List.forall_mem_cons.mpr ⟨lw_p37, List.forall_mem_cons.mpr ⟨lw_p38, List.forall_mem_cons.mpr ⟨lw_p39, List.forall_mem_cons.mpr ⟨lw_p40, List.forall_mem_cons.mpr ⟨lw_p41, List.forall_mem_cons.mpr ⟨lw_p42, List.forall_mem_cons.mpr ⟨lw_p43, List.forall_mem_cons.mpr ⟨lw_p44, List.forall_mem_cons.mpr ⟨lw_p45, List.forall_mem_cons.mpr ⟨lw_p46, List.forall_mem_cons.mpr ⟨lw_p47, fun _ h => absurd h List.not_mem_nil⟩⟩⟩⟩⟩⟩⟩⟩⟩⟩⟩⟩⟩⟩⟩⟩
theorem lw_p48 : lw_okq (⟨"LoanPointsModel", "regionOf", "(I)I"⟩, 36) := ⟨⟨by decide +kernel, by decide +kernel⟩, List.mem_of_getElem? (i := 870) (by decide +kernel), List.mem_of_getElem? (i := 1137) (by decide +kernel), List.mem_of_getElem? (i := 1138) (by decide +kernel)⟩
theorem lw_p49 : lw_okq (⟨"LoanPointsModel", "holdsOf", "(II)I"⟩, 36) := ⟨⟨by decide +kernel, by decide +kernel⟩, List.mem_of_getElem? (i := 870) (by decide +kernel), List.mem_of_getElem? (i := 1145) (by decide +kernel), List.mem_of_getElem? (i := 1146) (by decide +kernel)⟩
theorem lw_p50 : lw_okq (⟨"LoanPointsModel", "loansOf", "()I"⟩, 36) := ⟨⟨by decide +kernel, by decide +kernel⟩, List.mem_of_getElem? (i := 870) (by decide +kernel), List.mem_of_getElem? (i := 1153) (by decide +kernel), List.mem_of_getElem? (i := 1154) (by decide +kernel)⟩
theorem lw_p51 : lw_okq (⟨"LoanPointsModel", "scopeOf", "(I)I"⟩, 36) := ⟨⟨by decide +kernel, by decide +kernel⟩, List.mem_of_getElem? (i := 870) (by decide +kernel), List.mem_of_getElem? (i := 1161) (by decide +kernel), List.mem_of_getElem? (i := 1162) (by decide +kernel)⟩
theorem lw_p52 : lw_okq (⟨"LoanPointsModel", "activeOf", "(I)I"⟩, 36) := ⟨⟨by decide +kernel, by decide +kernel⟩, List.mem_of_getElem? (i := 870) (by decide +kernel), List.mem_of_getElem? (i := 1169) (by decide +kernel), List.mem_of_getElem? (i := 1170) (by decide +kernel)⟩
theorem lw_p53 : lw_okq (⟨"LoanPointsModel", "bearsOf", "(I)I"⟩, 36) := ⟨⟨by decide +kernel, by decide +kernel⟩, List.mem_of_getElem? (i := 870) (by decide +kernel), List.mem_of_getElem? (i := 1177) (by decide +kernel), List.mem_of_getElem? (i := 1178) (by decide +kernel)⟩
theorem lw_p54 : lw_okq (⟨"LoanPointsModel", "bearing", "(I)I"⟩, 36) := ⟨⟨by decide +kernel, by decide +kernel⟩, List.mem_of_getElem? (i := 870) (by decide +kernel), List.mem_of_getElem? (i := 1181) (by decide +kernel), List.mem_of_getElem? (i := 1182) (by decide +kernel)⟩
theorem lw_p55 : lw_okq (⟨"LoanPointsModel", "errorsOf", "()I"⟩, 36) := ⟨⟨by decide +kernel, by decide +kernel⟩, List.mem_of_getElem? (i := 870) (by decide +kernel), List.mem_of_getElem? (i := 1189) (by decide +kernel), List.mem_of_getElem? (i := 1190) (by decide +kernel)⟩
theorem lw_p56 : lw_okq (⟨"LoanPointsModel", "errsAll", "()V"⟩, 36) := ⟨⟨by decide +kernel, by decide +kernel⟩, List.mem_of_getElem? (i := 870) (by decide +kernel), List.mem_of_getElem? (i := 1193) (by decide +kernel), List.mem_of_getElem? (i := 1194) (by decide +kernel)⟩
theorem lw_p57 : lw_okq (⟨"LoanPointsModel", "errsAt", "(I)V"⟩, 36) := ⟨⟨by decide +kernel, by decide +kernel⟩, List.mem_of_getElem? (i := 870) (by decide +kernel), List.mem_of_getElem? (i := 1197) (by decide +kernel), List.mem_of_getElem? (i := 1198) (by decide +kernel)⟩
theorem lw_p58 : lw_okq (⟨"LoanPointsModel", "clashes", "(I)I"⟩, 36) := ⟨⟨by decide +kernel, by decide +kernel⟩, List.mem_of_getElem? (i := 870) (by decide +kernel), List.mem_of_getElem? (i := 1201) (by decide +kernel), List.mem_of_getElem? (i := 1202) (by decide +kernel)⟩
theorem lw_p59 : lw_okq (⟨"LoanPointsModel", "clashing", "(IIZZ)I"⟩, 36) := ⟨⟨by decide +kernel, by decide +kernel⟩, List.mem_of_getElem? (i := 870) (by decide +kernel), List.mem_of_getElem? (i := 1205) (by decide +kernel), List.mem_of_getElem? (i := 1206) (by decide +kernel)⟩
theorem lw_p60 : lw_okq (⟨"LoanPointsModel", "isClash", "(IIIZZ)Z"⟩, 36) := ⟨⟨by decide +kernel, by decide +kernel⟩, List.mem_of_getElem? (i := 870) (by decide +kernel), List.mem_of_getElem? (i := 1209) (by decide +kernel), List.mem_of_getElem? (i := 1210) (by decide +kernel)⟩
theorem lw_p61 : lw_okq (⟨"LoanPointsModel", "errs", "(III)V"⟩, 36) := ⟨⟨by decide +kernel, by decide +kernel⟩, List.mem_of_getElem? (i := 870) (by decide +kernel), List.mem_of_getElem? (i := 1219) (by decide +kernel), List.mem_of_getElem? (i := 1220) (by decide +kernel)⟩
theorem lw_p62 : lw_okq (⟨"LoanPointsModel", "errorOf", "(II)I"⟩, 36) := ⟨⟨by decide +kernel, by decide +kernel⟩, List.mem_of_getElem? (i := 870) (by decide +kernel), List.mem_of_getElem? (i := 1228) (by decide +kernel), List.mem_of_getElem? (i := 1229) (by decide +kernel)⟩
theorem lw_p63 : lw_okq (⟨"LoanPointsModel", "witnessOf", "(II)I"⟩, 36) := ⟨⟨by decide +kernel, by decide +kernel⟩, List.mem_of_getElem? (i := 870) (by decide +kernel), List.mem_of_getElem? (i := 1236) (by decide +kernel), List.mem_of_getElem? (i := 1237) (by decide +kernel)⟩
def lw_privs_4 : List (MethodName × Nat) := [(⟨"LoanPointsModel", "regionOf", "(I)I"⟩, 36), (⟨"LoanPointsModel", "holdsOf", "(II)I"⟩, 36), (⟨"LoanPointsModel", "loansOf", "()I"⟩, 36), (⟨"LoanPointsModel", "scopeOf", "(I)I"⟩, 36), (⟨"LoanPointsModel", "activeOf", "(I)I"⟩, 36), (⟨"LoanPointsModel", "bearsOf", "(I)I"⟩, 36), (⟨"LoanPointsModel", "bearing", "(I)I"⟩, 36), (⟨"LoanPointsModel", "errorsOf", "()I"⟩, 36), (⟨"LoanPointsModel", "errsAll", "()V"⟩, 36), (⟨"LoanPointsModel", "errsAt", "(I)V"⟩, 36), (⟨"LoanPointsModel", "clashes", "(I)I"⟩, 36), (⟨"LoanPointsModel", "clashing", "(IIZZ)I"⟩, 36), (⟨"LoanPointsModel", "isClash", "(IIIZZ)Z"⟩, 36), (⟨"LoanPointsModel", "errs", "(III)V"⟩, 36), (⟨"LoanPointsModel", "errorOf", "(II)I"⟩, 36), (⟨"LoanPointsModel", "witnessOf", "(II)I"⟩, 36)]
theorem lw_r4 : ∀ q ∈ lw_privs_4, lw_okq q := List.forall_mem_cons.mpr ⟨lw_p48, List.forall_mem_cons.mpr ⟨lw_p49, List.forall_mem_cons.mpr ⟨lw_p50, List.forall_mem_cons.mpr ⟨lw_p51, List.forall_mem_cons.mpr ⟨lw_p52, List.forall_mem_cons.mpr ⟨lw_p53, List.forall_mem_cons.mpr ⟨lw_p54, List.forall_mem_cons.mpr ⟨lw_p55, List.forall_mem_cons.mpr ⟨lw_p56, List.forall_mem_cons.mpr ⟨lw_p57, List.forall_mem_cons.mpr ⟨lw_p58, List.forall_mem_cons.mpr ⟨lw_p59, List.forall_mem_cons.mpr ⟨lw_p60, List.forall_mem_cons.mpr ⟨lw_p61, List.forall_mem_cons.mpr ⟨lw_p62, List.forall_mem_cons.mpr ⟨lw_p63, fun _ h => absurd h List.not_mem_nil⟩⟩⟩⟩⟩⟩⟩⟩⟩⟩⟩⟩⟩⟩⟩⟩
theorem lw_p64 : lw_okq (⟨"LoanPointsModel", "findsWay", "(II)V"⟩, 36) := ⟨⟨by decide +kernel, by decide +kernel⟩, List.mem_of_getElem? (i := 870) (by decide +kernel), List.mem_of_getElem? (i := 1240) (by decide +kernel), List.mem_of_getElem? (i := 1241) (by decide +kernel)⟩
theorem lw_p65 : lw_okq (⟨"LoanPointsModel", "goesTo", "(I)V"⟩, 36) := ⟨⟨by decide +kernel, by decide +kernel⟩, List.mem_of_getElem? (i := 870) (by decide +kernel), List.mem_of_getElem? (i := 1244) (by decide +kernel), List.mem_of_getElem? (i := 1245) (by decide +kernel)⟩
theorem lw_p66 : lw_okq (⟨"LoanPointsModel", "measures", "(II)V"⟩, 36) := ⟨⟨by decide +kernel, by decide +kernel⟩, List.mem_of_getElem? (i := 870) (by decide +kernel), List.mem_of_getElem? (i := 1248) (by decide +kernel), List.mem_of_getElem? (i := 1249) (by decide +kernel)⟩
theorem lw_p67 : lw_okq (⟨"LoanPointsModel", "nearest", "(I)I"⟩, 36) := ⟨⟨by decide +kernel, by decide +kernel⟩, List.mem_of_getElem? (i := 870) (by decide +kernel), List.mem_of_getElem? (i := 1252) (by decide +kernel), List.mem_of_getElem? (i := 1253) (by decide +kernel)⟩
theorem lw_p68 : lw_okq (⟨"LoanPointsModel", "walks", "(I)V"⟩, 36) := ⟨⟨by decide +kernel, by decide +kernel⟩, List.mem_of_getElem? (i := 870) (by decide +kernel), List.mem_of_getElem? (i := 1256) (by decide +kernel), List.mem_of_getElem? (i := 1257) (by decide +kernel)⟩
theorem lw_p69 : lw_okq (⟨"LoanPointsModel", "mendOf", "(I)I"⟩, 36) := ⟨⟨by decide +kernel, by decide +kernel⟩, List.mem_of_getElem? (i := 870) (by decide +kernel), List.mem_of_getElem? (i := 1264) (by decide +kernel), List.mem_of_getElem? (i := 1265) (by decide +kernel)⟩
theorem lw_p70 : lw_okq (⟨"LoanPointsModel", "errorsAs", "(II)I"⟩, 36) := ⟨⟨by decide +kernel, by decide +kernel⟩, List.mem_of_getElem? (i := 870) (by decide +kernel), List.mem_of_getElem? (i := 1268) (by decide +kernel), List.mem_of_getElem? (i := 1269) (by decide +kernel)⟩
theorem lw_p71 : lw_okq (⟨"LoanPointsModel", "softOf", "()I"⟩, 36) := ⟨⟨by decide +kernel, by decide +kernel⟩, List.mem_of_getElem? (i := 870) (by decide +kernel), List.mem_of_getElem? (i := 1276) (by decide +kernel), List.mem_of_getElem? (i := 1277) (by decide +kernel)⟩
theorem lw_p72 : lw_okq (⟨"LoanPointsModel", "runOf", "(III)I"⟩, 36) := ⟨⟨by decide +kernel, by decide +kernel⟩, List.mem_of_getElem? (i := 870) (by decide +kernel), List.mem_of_getElem? (i := 1284) (by decide +kernel), List.mem_of_getElem? (i := 1285) (by decide +kernel)⟩
theorem lw_p73 : lw_okq (⟨"LoanPointsModel", "runs", "(II)V"⟩, 36) := ⟨⟨by decide +kernel, by decide +kernel⟩, List.mem_of_getElem? (i := 870) (by decide +kernel), List.mem_of_getElem? (i := 1288) (by decide +kernel), List.mem_of_getElem? (i := 1289) (by decide +kernel)⟩
theorem lw_p74 : lw_okq (⟨"LoanPointsModel", "whyBad", "(I)I"⟩, 36) := ⟨⟨by decide +kernel, by decide +kernel⟩, List.mem_of_getElem? (i := 870) (by decide +kernel), List.mem_of_getElem? (i := 1292) (by decide +kernel), List.mem_of_getElem? (i := 1293) (by decide +kernel)⟩
theorem lw_p75 : lw_okq (⟨"LoanPointsModel", "isStale", "(I)Z"⟩, 36) := ⟨⟨by decide +kernel, by decide +kernel⟩, List.mem_of_getElem? (i := 870) (by decide +kernel), List.mem_of_getElem? (i := 1296) (by decide +kernel), List.mem_of_getElem? (i := 1297) (by decide +kernel)⟩
theorem lw_p76 : lw_okq (⟨"LoanPointsModel", "isShared", "(I)Z"⟩, 36) := ⟨⟨by decide +kernel, by decide +kernel⟩, List.mem_of_getElem? (i := 870) (by decide +kernel), List.mem_of_getElem? (i := 1300) (by decide +kernel), List.mem_of_getElem? (i := 1301) (by decide +kernel)⟩
theorem lw_p77 : lw_okq (⟨"LoanPointsModel", "does", "(I)V"⟩, 36) := ⟨⟨by decide +kernel, by decide +kernel⟩, List.mem_of_getElem? (i := 870) (by decide +kernel), List.mem_of_getElem? (i := 1304) (by decide +kernel), List.mem_of_getElem? (i := 1305) (by decide +kernel)⟩
theorem lw_p78 : lw_okq (⟨"LoanPointsModel", "accesses", "(IIZI)V"⟩, 36) := ⟨⟨by decide +kernel, by decide +kernel⟩, List.mem_of_getElem? (i := 870) (by decide +kernel), List.mem_of_getElem? (i := 1308) (by decide +kernel), List.mem_of_getElem? (i := 1309) (by decide +kernel)⟩
theorem lw_p79 : lw_okq (⟨"LoanPointsModel", "isOf", "(II)Z"⟩, 36) := ⟨⟨by decide +kernel, by decide +kernel⟩, List.mem_of_getElem? (i := 870) (by decide +kernel), List.mem_of_getElem? (i := 1312) (by decide +kernel), List.mem_of_getElem? (i := 1313) (by decide +kernel)⟩
def lw_privs_5 : List (MethodName × Nat) := [(⟨"LoanPointsModel", "findsWay", "(II)V"⟩, 36), (⟨"LoanPointsModel", "goesTo", "(I)V"⟩, 36), (⟨"LoanPointsModel", "measures", "(II)V"⟩, 36), (⟨"LoanPointsModel", "nearest", "(I)I"⟩, 36), (⟨"LoanPointsModel", "walks", "(I)V"⟩, 36), (⟨"LoanPointsModel", "mendOf", "(I)I"⟩, 36), (⟨"LoanPointsModel", "errorsAs", "(II)I"⟩, 36), (⟨"LoanPointsModel", "softOf", "()I"⟩, 36), (⟨"LoanPointsModel", "runOf", "(III)I"⟩, 36), (⟨"LoanPointsModel", "runs", "(II)V"⟩, 36), (⟨"LoanPointsModel", "whyBad", "(I)I"⟩, 36), (⟨"LoanPointsModel", "isStale", "(I)Z"⟩, 36), (⟨"LoanPointsModel", "isShared", "(I)Z"⟩, 36), (⟨"LoanPointsModel", "does", "(I)V"⟩, 36), (⟨"LoanPointsModel", "accesses", "(IIZI)V"⟩, 36), (⟨"LoanPointsModel", "isOf", "(II)Z"⟩, 36)]
theorem lw_r5 : ∀ q ∈ lw_privs_5, lw_okq q := List.forall_mem_cons.mpr ⟨lw_p64, List.forall_mem_cons.mpr ⟨lw_p65, List.forall_mem_cons.mpr ⟨lw_p66, List.forall_mem_cons.mpr ⟨lw_p67, List.forall_mem_cons.mpr ⟨lw_p68, List.forall_mem_cons.mpr ⟨lw_p69, List.forall_mem_cons.mpr ⟨lw_p70, List.forall_mem_cons.mpr ⟨lw_p71, List.forall_mem_cons.mpr ⟨lw_p72, List.forall_mem_cons.mpr ⟨lw_p73, List.forall_mem_cons.mpr ⟨lw_p74, List.forall_mem_cons.mpr ⟨lw_p75, List.forall_mem_cons.mpr ⟨lw_p76, List.forall_mem_cons.mpr ⟨lw_p77, List.forall_mem_cons.mpr ⟨lw_p78, List.forall_mem_cons.mpr ⟨lw_p79, fun _ h => absurd h List.not_mem_nil⟩⟩⟩⟩⟩⟩⟩⟩⟩⟩⟩⟩⟩⟩⟩⟩
theorem lw_p80 : lw_okq (⟨"LoanPointsModel", "makes", "(IIII)V"⟩, 36) := ⟨⟨by decide +kernel, by decide +kernel⟩, List.mem_of_getElem? (i := 870) (by decide +kernel), List.mem_of_getElem? (i := 1316) (by decide +kernel), List.mem_of_getElem? (i := 1317) (by decide +kernel)⟩
theorem lw_p81 : lw_okq (⟨"LoanPointsModel", "lacks", "(III)I"⟩, 36) := ⟨⟨by decide +kernel, by decide +kernel⟩, List.mem_of_getElem? (i := 870) (by decide +kernel), List.mem_of_getElem? (i := 1332) (by decide +kernel), List.mem_of_getElem? (i := 1333) (by decide +kernel)⟩
theorem lw_p82 : lw_okq (⟨"LoanPointsModel", "keep", "(III)V"⟩, 36) := ⟨⟨by decide +kernel, by decide +kernel⟩, List.mem_of_getElem? (i := 870) (by decide +kernel), List.mem_of_getElem? (i := 1336) (by decide +kernel), List.mem_of_getElem? (i := 1337) (by decide +kernel)⟩
theorem lw_p83 : lw_okq (⟨"LoanPointsModel", "manyOf", "(I)I"⟩, 36) := ⟨⟨by decide +kernel, by decide +kernel⟩, List.mem_of_getElem? (i := 870) (by decide +kernel), List.mem_of_getElem? (i := 1360) (by decide +kernel), List.mem_of_getElem? (i := 1361) (by decide +kernel)⟩
theorem lw_p84 : lw_okq (⟨"LoanPointsModel", "pointDigest", "(JI)J"⟩, 36) := ⟨⟨by decide +kernel, by decide +kernel⟩, List.mem_of_getElem? (i := 870) (by decide +kernel), List.mem_of_getElem? (i := 1371) (by decide +kernel), List.mem_of_getElem? (i := 1372) (by decide +kernel)⟩
theorem lw_p85 : lw_okq (⟨"LoanPointsModel", "errorDigest", "(JI)J"⟩, 36) := ⟨⟨by decide +kernel, by decide +kernel⟩, List.mem_of_getElem? (i := 870) (by decide +kernel), List.mem_of_getElem? (i := 1375) (by decide +kernel), List.mem_of_getElem? (i := 1376) (by decide +kernel)⟩
theorem lw_p86 : lw_okq (⟨"LoanPointsModel", "runDigest", "(JI)J"⟩, 36) := ⟨⟨by decide +kernel, by decide +kernel⟩, List.mem_of_getElem? (i := 870) (by decide +kernel), List.mem_of_getElem? (i := 1379) (by decide +kernel), List.mem_of_getElem? (i := 1380) (by decide +kernel)⟩
def lw_privs_6 : List (MethodName × Nat) := [(⟨"LoanPointsModel", "makes", "(IIII)V"⟩, 36), (⟨"LoanPointsModel", "lacks", "(III)I"⟩, 36), (⟨"LoanPointsModel", "keep", "(III)V"⟩, 36), (⟨"LoanPointsModel", "manyOf", "(I)I"⟩, 36), (⟨"LoanPointsModel", "pointDigest", "(JI)J"⟩, 36), (⟨"LoanPointsModel", "errorDigest", "(JI)J"⟩, 36), (⟨"LoanPointsModel", "runDigest", "(JI)J"⟩, 36)]
theorem lw_r6 : ∀ q ∈ lw_privs_6, lw_okq q := List.forall_mem_cons.mpr ⟨lw_p80, List.forall_mem_cons.mpr ⟨lw_p81, List.forall_mem_cons.mpr ⟨lw_p82, List.forall_mem_cons.mpr ⟨lw_p83, List.forall_mem_cons.mpr ⟨lw_p84, List.forall_mem_cons.mpr ⟨lw_p85, List.forall_mem_cons.mpr ⟨lw_p86, fun _ h => absurd h List.not_mem_nil⟩⟩⟩⟩⟩⟩⟩
def lw_privs : List (MethodName × Nat) := lw_privs_1 ++ (lw_privs_2 ++ (lw_privs_3 ++ (lw_privs_4 ++ (lw_privs_5 ++ (lw_privs_6)))))
def lw_tbl : List Cond := k2_sels lw_privs ++ tables_1
theorem lw_privs_ok : ∀ q ∈ lw_privs, lw_okq q := by
  show ∀ q ∈ lw_privs_1 ++ (lw_privs_2 ++ (lw_privs_3 ++ (lw_privs_4 ++ (lw_privs_5 ++ (lw_privs_6))))), lw_okq q
  exact List.forall_mem_append.mpr ⟨lw_r1, List.forall_mem_append.mpr ⟨lw_r2, List.forall_mem_append.mpr ⟨lw_r3, List.forall_mem_append.mpr ⟨lw_r4, List.forall_mem_append.mpr ⟨lw_r5, lw_r6⟩⟩⟩⟩⟩
def RX0 : String := "LoanPoints$Check"
def TX0 : u_T := fun k => match k with
  | 0 => ("LoanPoints$Check", "listing", "LLoanPoints$Listing;", true)
  | 1 => ("LoanPoints$Check", "known", "Z", false)
  | 2 => ("LoanPoints$Check", "flow", "LLoanPoints$Flow;", true)
  | 3 => ("LoanPoints$Check", "lending", "LLoanPoints$Lending;", true)
  | _ => ("LoanPoints$Check", "faults", "LLoanPoints$Faults;", true)
def tyX0 : Nat → FieldType := fun k => match k with
  | 0 => .object "LoanPoints$Listing"
  | 1 => .boolean
  | 2 => .object "LoanPoints$Flow"
  | 3 => .object "LoanPoints$Lending"
  | _ => .object "LoanPoints$Faults"
abbrev wsX00 : List Cond := u_ws RX0 TX0 5
theorem nmX0 : ∀ a, a < 5 → ∀ b, b < 5 → a ≠ b → (TX0 a).2.1 ≠ (TX0 b).2.1 := by decide +kernel
theorem tyX0_ok : ∀ k, k < 5 → parseFieldDescriptor (TX0 k).2.2.1 = some (tyX0 k) := by decide +kernel
abbrev cX0_init : ByteArray := prog_2_method_1_code
def yX0_init : MethodName := ⟨RX0, "<init>", "(LLoanPoints$Listing;)V"⟩
abbrev cX0_forget : ByteArray := prog_2_method_2_code
def yX0_forget : MethodName := ⟨RX0, "forget", "()V"⟩
abbrev cX0_examine : ByteArray := prog_2_method_3_code
def yX0_examine : MethodName := ⟨RX0, "examine", "()LLoanPoints$Check;"⟩
def RX1 : String := "LoanPoints$Faults"
def TX1 : u_T := fun k => match k with
  | 0 => ("LoanPoints$Faults", "byPoint", "[I", true)
  | 1 => ("LoanPoints$Faults", "size", "I", false)
  | _ => ("LoanPoints$Faults", "total", "I", false)
def tyX1 : Nat → FieldType := fun k => match k with
  | 0 => .array .int
  | 1 => .int
  | _ => .int
abbrev wsX10 : List Cond := u_ws RX1 TX1 3
theorem nmX1 : ∀ a, a < 3 → ∀ b, b < 3 → a ≠ b → (TX1 a).2.1 ≠ (TX1 b).2.1 := by decide +kernel
theorem tyX1_ok : ∀ k, k < 3 → parseFieldDescriptor (TX1 k).2.2.1 = some (tyX1 k) := by decide +kernel
abbrev cX1_init : ByteArray := prog_3_method_1_code
def yX1_init : MethodName := ⟨RX1, "<init>", "()V"⟩
abbrev cX1_findClashes : ByteArray := prog_3_method_2_code
def yX1_findClashes : MethodName := ⟨RX1, "findClashes", "(LLoanPoints$Listing;LLoanPoints$Lending;)V"⟩
abbrev cX1_clashes : ByteArray := prog_3_method_3_code
def yX1_clashes : MethodName := ⟨RX1, "clashes", "(LLoanPoints$Listing;LLoanPoints$Lending;I)I"⟩
abbrev cX1_struck : ByteArray := prog_3_method_4_code
def yX1_struck : MethodName := ⟨RX1, "struck", "(LLoanPoints$Listing;IIZ)I"⟩
abbrev cX1_findMisuses : ByteArray := prog_3_method_5_code
def yX1_findMisuses : MethodName := ⟨RX1, "findMisuses", "(LLoanPoints$Listing;LLoanPoints$Lending;)V"⟩
abbrev cX1_addUp : ByteArray := prog_3_method_6_code
def yX1_addUp : MethodName := ⟨RX1, "addUp", "(I)V"⟩
abbrev cX1_totalOf : ByteArray := prog_3_method_7_code
def yX1_totalOf : MethodName := ⟨RX1, "totalOf", "(I)I"⟩
abbrev cX1_tell : ByteArray := prog_3_method_8_code
def yX1_tell : MethodName := ⟨RX1, "tell", "(II)I"⟩
abbrev cX1_numberOfBit : ByteArray := prog_3_method_9_code
def yX1_numberOfBit : MethodName := ⟨RX1, "numberOfBit", "(II)I"⟩
def RX2 : String := "LoanPoints$Flow"
def TX2 : u_T := fun k => match k with
  | 0 => ("LoanPoints$Flow", "onward", "[I", true)
  | 1 => ("LoanPoints$Flow", "aside", "[I", true)
  | 2 => ("LoanPoints$Flow", "reads", "[I", true)
  | 3 => ("LoanPoints$Flow", "writes", "[I", true)
  | 4 => ("LoanPoints$Flow", "liveVariables", "[I", true)
  | 5 => ("LoanPoints$Flow", "sources", "[I", true)
  | 6 => ("LoanPoints$Flow", "regions", "[I", true)
  | 7 => ("LoanPoints$Flow", "size", "I", false)
  | _ => ("LoanPoints$Flow", "reachedPoints", "I", false)
def tyX2 : Nat → FieldType := fun k => match k with
  | 0 => .array .int
  | 1 => .array .int
  | 2 => .array .int
  | 3 => .array .int
  | 4 => .array .int
  | 5 => .array .int
  | 6 => .array .int
  | 7 => .int
  | _ => .int
abbrev wsX20 : List Cond := u_ws RX2 TX2 9
theorem nmX2 : ∀ a, a < 9 → ∀ b, b < 9 → a ≠ b → (TX2 a).2.1 ≠ (TX2 b).2.1 := by decide +kernel
theorem tyX2_ok : ∀ k, k < 9 → parseFieldDescriptor (TX2 k).2.2.1 = some (tyX2 k) := by decide +kernel
abbrev cX2_init : ByteArray := prog_4_method_1_code
def yX2_init : MethodName := ⟨RX2, "<init>", "()V"⟩
abbrev cX2_findNext : ByteArray := prog_4_method_2_code
def yX2_findNext : MethodName := ⟨RX2, "findNext", "(LLoanPoints$Listing;)V"⟩
abbrev cX2_findReached : ByteArray := prog_4_method_3_code
def yX2_findReached : MethodName := ⟨RX2, "findReached", "()V"⟩
abbrev cX2_findUses : ByteArray := prog_4_method_4_code
def yX2_findUses : MethodName := ⟨RX2, "findUses", "(LLoanPoints$Listing;)V"⟩
abbrev cX2_findLive : ByteArray := prog_4_method_5_code
def yX2_findLive : MethodName := ⟨RX2, "findLive", "()V"⟩
abbrev cX2_findRegions : ByteArray := prog_4_method_6_code
def yX2_findRegions : MethodName := ⟨RX2, "findRegions", "(LLoanPoints$Listing;)V"⟩
abbrev cX2_livePoints : ByteArray := prog_4_method_7_code
def yX2_livePoints : MethodName := ⟨RX2, "livePoints", "(I)I"⟩
abbrev cX2_bearers : ByteArray := prog_4_method_8_code
def yX2_bearers : MethodName := ⟨RX2, "bearers", "(LLoanPoints$Listing;I)I"⟩
def RX3 : String := "LoanPoints$Lending"
def TX3 : u_T := fun k => match k with
  | 0 => ("LoanPoints$Lending", "allLoans", "I", false)
  | 1 => ("LoanPoints$Lending", "shareLoans", "I", false)
  | 2 => ("LoanPoints$Lending", "takeLoans", "I", false)
  | 3 => ("LoanPoints$Lending", "planLoans", "I", false)
  | 4 => ("LoanPoints$Lending", "held", "[I", true)
  | 5 => ("LoanPoints$Lending", "behind", "[I", true)
  | 6 => ("LoanPoints$Lending", "changed", "I", false)
  | 7 => ("LoanPoints$Lending", "scoped", "[I", true)
  | 8 => ("LoanPoints$Lending", "activated", "[I", true)
  | 9 => ("LoanPoints$Lending", "kills", "[I", true)
  | 10 => ("LoanPoints$Lending", "within", "[I", true)
  | 11 => ("LoanPoints$Lending", "wakes", "[I", true)
  | 12 => ("LoanPoints$Lending", "throughOwner", "[I", true)
  | _ => ("LoanPoints$Lending", "byX", "[I", true)
def tyX3 : Nat → FieldType := fun k => match k with
  | 0 => .int
  | 1 => .int
  | 2 => .int
  | 3 => .int
  | 4 => .array .int
  | 5 => .array .int
  | 6 => .int
  | 7 => .array .int
  | 8 => .array .int
  | 9 => .array .int
  | 10 => .array .int
  | 11 => .array .int
  | 12 => .array .int
  | _ => .array .int
abbrev wsX30 : List Cond := u_ws RX3 TX3 14
theorem nmX3 : ∀ a, a < 14 → ∀ b, b < 14 → a ≠ b → (TX3 a).2.1 ≠ (TX3 b).2.1 := by decide +kernel
theorem tyX3_ok : ∀ k, k < 14 → parseFieldDescriptor (TX3 k).2.2.1 = some (tyX3 k) := by decide +kernel
abbrev cX3_init : ByteArray := prog_5_method_1_code
def yX3_init : MethodName := ⟨RX3, "<init>", "()V"⟩
abbrev cX3_findLoans : ByteArray := prog_5_method_2_code
def yX3_findLoans : MethodName := ⟨RX3, "findLoans", "(LLoanPoints$Listing;I)V"⟩
abbrev cX3_sortLoan : ByteArray := prog_5_method_3_code
def yX3_sortLoan : MethodName := ⟨RX3, "sortLoan", "(LLoanPoints$Listing;I)V"⟩
abbrev cX3_findHeld : ByteArray := prog_5_method_4_code
def yX3_findHeld : MethodName := ⟨RX3, "findHeld", "(LLoanPoints$Listing;LLoanPoints$Flow;)V"⟩
abbrev cX3_stepBehind : ByteArray := prog_5_method_5_code
def yX3_stepBehind : MethodName := ⟨RX3, "stepBehind", "(LLoanPoints$Listing;I)V"⟩
abbrev cX3_join : ByteArray := prog_5_method_6_code
def yX3_join : MethodName := ⟨RX3, "join", "(I)V"⟩
abbrev cX3_markPoints : ByteArray := prog_5_method_7_code
def yX3_markPoints : MethodName := ⟨RX3, "markPoints", "(LLoanPoints$Listing;LLoanPoints$Flow;)V"⟩
abbrev cX3_heldThrough : ByteArray := prog_5_method_8_code
def yX3_heldThrough : MethodName := ⟨RX3, "heldThrough", "(LLoanPoints$Listing;I)I"⟩
abbrev cX3_findScopes : ByteArray := prog_5_method_9_code
def yX3_findScopes : MethodName := ⟨RX3, "findScopes", "(LLoanPoints$Flow;I)V"⟩
abbrev cX3_pass : ByteArray := prog_5_method_10_code
def yX3_pass : MethodName := ⟨RX3, "pass", "(III)Z"⟩
abbrev cX3_passable : ByteArray := prog_5_method_11_code
def yX3_passable : MethodName := ⟨RX3, "passable", "(LLoanPoints$Listing;LLoanPoints$Flow;I)I"⟩
def RX4 : String := "LoanPoints$Listing"
def TX4 : u_T := fun k => match k with
  | 0 => ("LoanPoints$Listing", "kinds", "[I", true)
  | 1 => ("LoanPoints$Listing", "xs", "[I", true)
  | 2 => ("LoanPoints$Listing", "places", "[I", true)
  | 3 => ("LoanPoints$Listing", "targets", "[I", true)
  | 4 => ("LoanPoints$Listing", "acts", "[I", true)
  | 5 => ("LoanPoints$Listing", "owners", "[I", true)
  | 6 => ("LoanPoints$Listing", "paths", "[I", true)
  | 7 => ("LoanPoints$Listing", "lends", "[Z", true)
  | 8 => ("LoanPoints$Listing", "goesThrough", "[Z", true)
  | _ => ("LoanPoints$Listing", "size", "I", false)
def tyX4 : Nat → FieldType := fun k => match k with
  | 0 => .array .int
  | 1 => .array .int
  | 2 => .array .int
  | 3 => .array .int
  | 4 => .array .int
  | 5 => .array .int
  | 6 => .array .int
  | 7 => .array .boolean
  | 8 => .array .boolean
  | _ => .int
abbrev wsX40 : List Cond := u_ws RX4 TX4 10
theorem nmX4 : ∀ a, a < 10 → ∀ b, b < 10 → a ≠ b → (TX4 a).2.1 ≠ (TX4 b).2.1 := by decide +kernel
theorem tyX4_ok : ∀ k, k < 10 → parseFieldDescriptor (TX4 k).2.2.1 = some (tyX4 k) := by decide +kernel
abbrev cX4_init : ByteArray := prog_6_method_1_code
def yX4_init : MethodName := ⟨RX4, "<init>", "()V"⟩
abbrev cX4_has : ByteArray := prog_6_method_2_code
def yX4_has : MethodName := ⟨RX4, "has", "(I)Z"⟩
abbrev cX4_fill : ByteArray := prog_6_method_3_code
def yX4_fill : MethodName := ⟨RX4, "fill", "(IIIII)V"⟩
abbrev cX4_turn : ByteArray := prog_6_method_4_code
def yX4_turn : MethodName := ⟨RX4, "turn", "(II)V"⟩
def RX5 : String := "LoanPoints$Plans"
def TX5 : u_T := fun k => match k with
  | 0 => ("LoanPoints$Plans", "listing", "LLoanPoints$Listing;", true)
  | 1 => ("LoanPoints$Plans", "check", "LLoanPoints$Check;", true)
  | 2 => ("LoanPoints$Plans", "trial", "LLoanPoints$Check;", true)
  | 3 => ("LoanPoints$Plans", "mendKnown", "Z", false)
  | 4 => ("LoanPoints$Plans", "softKnown", "Z", false)
  | 5 => ("LoanPoints$Plans", "mendPoint", "I", false)
  | 6 => ("LoanPoints$Plans", "mendErrors", "I", false)
  | _ => ("LoanPoints$Plans", "softPoints", "I", false)
def tyX5 : Nat → FieldType := fun k => match k with
  | 0 => .object "LoanPoints$Listing"
  | 1 => .object "LoanPoints$Check"
  | 2 => .object "LoanPoints$Check"
  | 3 => .boolean
  | 4 => .boolean
  | 5 => .int
  | 6 => .int
  | _ => .int
abbrev wsX50 : List Cond := u_ws RX5 TX5 8
theorem nmX5 : ∀ a, a < 8 → ∀ b, b < 8 → a ≠ b → (TX5 a).2.1 ≠ (TX5 b).2.1 := by decide +kernel
theorem tyX5_ok : ∀ k, k < 8 → parseFieldDescriptor (TX5 k).2.2.1 = some (tyX5 k) := by decide +kernel
abbrev cX5_init : ByteArray := prog_7_method_1_code
def yX5_init : MethodName := ⟨RX5, "<init>", "(LLoanPoints$Listing;LLoanPoints$Check;)V"⟩
abbrev cX5_forget : ByteArray := prog_7_method_2_code
def yX5_forget : MethodName := ⟨RX5, "forget", "()V"⟩
abbrev cX5_findMend : ByteArray := prog_7_method_3_code
def yX5_findMend : MethodName := ⟨RX5, "findMend", "()V"⟩
abbrev cX5_findSoft : ByteArray := prog_7_method_4_code
def yX5_findSoft : MethodName := ⟨RX5, "findSoft", "()V"⟩
abbrev cX5_errorsWith : ByteArray := prog_7_method_5_code
def yX5_errorsWith : MethodName := ⟨RX5, "errorsWith", "(II)I"⟩
def RX6 : String := "LoanPoints$Sheet"
def TX6 : u_T := fun k => match k with
  | 0 => ("LoanPoints$Sheet", "items", "[I", true)
  | 1 => ("LoanPoints$Sheet", "form", "I", false)
  | _ => ("LoanPoints$Sheet", "size", "I", false)
def tyX6 : Nat → FieldType := fun k => match k with
  | 0 => .array .int
  | 1 => .int
  | _ => .int
abbrev wsX60 : List Cond := u_ws RX6 TX6 3
theorem nmX6 : ∀ a, a < 3 → ∀ b, b < 3 → a ≠ b → (TX6 a).2.1 ≠ (TX6 b).2.1 := by decide +kernel
theorem tyX6_ok : ∀ k, k < 3 → parseFieldDescriptor (TX6 k).2.2.1 = some (tyX6 k) := by decide +kernel
abbrev cX6_init : ByteArray := prog_8_method_1_code
def yX6_init : MethodName := ⟨RX6, "<init>", "()V"⟩
abbrev cX6_isLost : ByteArray := prog_8_method_2_code
def yX6_isLost : MethodName := ⟨RX6, "isLost", "()Z"⟩
abbrev cX6_renew : ByteArray := prog_8_method_3_code
def yX6_renew : MethodName := ⟨RX6, "renew", "(II)V"⟩
abbrev cX6_drop : ByteArray := prog_8_method_4_code
def yX6_drop : MethodName := ⟨RX6, "drop", "()V"⟩
abbrev cX6_hindrance : ByteArray := prog_8_method_5_code
def yX6_hindrance : MethodName := ⟨RX6, "hindrance", "(II)I"⟩
abbrev cX6_hasRow : ByteArray := prog_8_method_6_code
def yX6_hasRow : MethodName := ⟨RX6, "hasRow", "(II)Z"⟩
abbrev cX6_enter : ByteArray := prog_8_method_7_code
def yX6_enter : MethodName := ⟨RX6, "enter", "(II)V"⟩
def RX7 : String := "LoanPoints$Trail"
def TX7 : u_T := fun k => match k with
  | 0 => ("LoanPoints$Trail", "listing", "LLoanPoints$Listing;", true)
  | 1 => ("LoanPoints$Trail", "check", "LLoanPoints$Check;", true)
  | 2 => ("LoanPoints$Trail", "distances", "[I", true)
  | 3 => ("LoanPoints$Trail", "shown", "I", false)
  | 4 => ("LoanPoints$Trail", "points", "[I", true)
  | _ => ("LoanPoints$Trail", "length", "I", false)
def tyX7 : Nat → FieldType := fun k => match k with
  | 0 => .object "LoanPoints$Listing"
  | 1 => .object "LoanPoints$Check"
  | 2 => .array .int
  | 3 => .int
  | 4 => .array .int
  | _ => .int
abbrev wsX70 : List Cond := u_ws RX7 TX7 6
theorem nmX7 : ∀ a, a < 6 → ∀ b, b < 6 → a ≠ b → (TX7 a).2.1 ≠ (TX7 b).2.1 := by decide +kernel
theorem tyX7_ok : ∀ k, k < 6 → parseFieldDescriptor (TX7 k).2.2.1 = some (tyX7 k) := by decide +kernel
abbrev cX7_init : ByteArray := prog_9_method_1_code
def yX7_init : MethodName := ⟨RX7, "<init>", "(LLoanPoints$Listing;LLoanPoints$Check;)V"⟩
abbrev cX7_forget : ByteArray := prog_9_method_2_code
def yX7_forget : MethodName := ⟨RX7, "forget", "()V"⟩
abbrev cX7_show : ByteArray := prog_9_method_3_code
def yX7_show : MethodName := ⟨RX7, "show", "(I)V"⟩
abbrev cX7_usesOf : ByteArray := prog_9_method_4_code
def yX7_usesOf : MethodName := ⟨RX7, "usesOf", "(I)I"⟩
abbrev cX7_measure : ByteArray := prog_9_method_5_code
def yX7_measure : MethodName := ⟨RX7, "measure", "(II)V"⟩
abbrev cX7_nearestBehind : ByteArray := prog_9_method_6_code
def yX7_nearestBehind : MethodName := ⟨RX7, "nearestBehind", "(I)I"⟩
abbrev cX7_follow : ByteArray := prog_9_method_7_code
def yX7_follow : MethodName := ⟨RX7, "follow", "(I)V"⟩
abbrev cX7_lengthen : ByteArray := prog_9_method_8_code
def yX7_lengthen : MethodName := ⟨RX7, "lengthen", "(I)V"⟩
def RX8 : String := "LoanPoints$Walk"
def TX8 : u_T := fun k => match k with
  | 0 => ("LoanPoints$Walk", "listing", "LLoanPoints$Listing;", true)
  | 1 => ("LoanPoints$Walk", "kinds", "[I", true)
  | 2 => ("LoanPoints$Walk", "spots", "[I", true)
  | 3 => ("LoanPoints$Walk", "froms", "[I", true)
  | 4 => ("LoanPoints$Walk", "stale", "[Z", true)
  | 5 => ("LoanPoints$Walk", "awake", "[Z", true)
  | 6 => ("LoanPoints$Walk", "spared", "[I", true)
  | 7 => ("LoanPoints$Walk", "made", "I", false)
  | 8 => ("LoanPoints$Walk", "accesses", "I", false)
  | 9 => ("LoanPoints$Walk", "held", "[I", true)
  | 10 => ("LoanPoints$Walk", "known", "Z", false)
  | 11 => ("LoanPoints$Walk", "knownChoices", "I", false)
  | 12 => ("LoanPoints$Walk", "knownSteps", "I", false)
  | 13 => ("LoanPoints$Walk", "badPoint", "I", false)
  | 14 => ("LoanPoints$Walk", "why", "I", false)
  | _ => ("LoanPoints$Walk", "done", "I", false)
def tyX8 : Nat → FieldType := fun k => match k with
  | 0 => .object "LoanPoints$Listing"
  | 1 => .array .int
  | 2 => .array .int
  | 3 => .array .int
  | 4 => .array .boolean
  | 5 => .array .boolean
  | 6 => .array .int
  | 7 => .int
  | 8 => .int
  | 9 => .array .int
  | 10 => .boolean
  | 11 => .int
  | 12 => .int
  | 13 => .int
  | 14 => .int
  | _ => .int
abbrev wsX80 : List Cond := u_ws RX8 TX8 16
theorem nmX8 : ∀ a, a < 16 → ∀ b, b < 16 → a ≠ b → (TX8 a).2.1 ≠ (TX8 b).2.1 := by decide +kernel
theorem tyX8_ok : ∀ k, k < 16 → parseFieldDescriptor (TX8 k).2.2.1 = some (tyX8 k) := by decide +kernel
abbrev cX8_init : ByteArray := prog_10_method_1_code
def yX8_init : MethodName := ⟨RX8, "<init>", "(LLoanPoints$Listing;)V"⟩
abbrev cX8_forget : ByteArray := prog_10_method_2_code
def yX8_forget : MethodName := ⟨RX8, "forget", "()V"⟩
abbrev cX8_go : ByteArray := prog_10_method_3_code
def yX8_go : MethodName := ⟨RX8, "go", "(II)V"⟩
abbrev cX8_begin : ByteArray := prog_10_method_4_code
def yX8_begin : MethodName := ⟨RX8, "begin", "()V"⟩
abbrev cX8_following : ByteArray := prog_10_method_5_code
def yX8_following : MethodName := ⟨RX8, "following", "(IZ)I"⟩
abbrev cX8_fault : ByteArray := prog_10_method_6_code
def yX8_fault : MethodName := ⟨RX8, "fault", "(I)I"⟩
abbrev cX8_hasStale : ByteArray := prog_10_method_7_code
def yX8_hasStale : MethodName := ⟨RX8, "hasStale", "(I)Z"⟩
abbrev cX8_hasShared : ByteArray := prog_10_method_8_code
def yX8_hasShared : MethodName := ⟨RX8, "hasShared", "(I)Z"⟩
abbrev cX8_perform : ByteArray := prog_10_method_9_code
def yX8_perform : MethodName := ⟨RX8, "perform", "(I)V"⟩
abbrev cX8_spotOf : ByteArray := prog_10_method_10_code
def yX8_spotOf : MethodName := ⟨RX8, "spotOf", "(II)I"⟩
abbrev cX8_make : ByteArray := prog_10_method_11_code
def yX8_make : MethodName := ⟨RX8, "make", "(III)I"⟩
abbrev cX8_touch : ByteArray := prog_10_method_12_code
def yX8_touch : MethodName := ⟨RX8, "touch", "(IZI)V"⟩
abbrev cX8_meet : ByteArray := prog_10_method_13_code
def yX8_meet : MethodName := ⟨RX8, "meet", "(II)Z"⟩
def RX9 : String := "LoanPoints"
def TX9 : u_T := fun k => match k with
  | 0 => ("LoanPoints", "listing", "LLoanPoints$Listing;", true)
  | 1 => ("LoanPoints", "check", "LLoanPoints$Check;", true)
  | 2 => ("LoanPoints", "plans", "LLoanPoints$Plans;", true)
  | 3 => ("LoanPoints", "trail", "LLoanPoints$Trail;", true)
  | 4 => ("LoanPoints", "walk", "LLoanPoints$Walk;", true)
  | 5 => ("LoanPoints", "sheets", "[LLoanPoints$Sheet;", true)
  | _ => ("LoanPoints", "latestFinding", "I", false)
def tyX9 : Nat → FieldType := fun k => match k with
  | 0 => .object "LoanPoints$Listing"
  | 1 => .object "LoanPoints$Check"
  | 2 => .object "LoanPoints$Plans"
  | 3 => .object "LoanPoints$Trail"
  | 4 => .object "LoanPoints$Walk"
  | 5 => .array (.object "LoanPoints$Sheet")
  | _ => .int
abbrev wsX90 : List Cond := u_ws RX9 TX9 7
theorem nmX9 : ∀ a, a < 7 → ∀ b, b < 7 → a ≠ b → (TX9 a).2.1 ≠ (TX9 b).2.1 := by decide +kernel
theorem tyX9_ok : ∀ k, k < 7 → parseFieldDescriptor (TX9 k).2.2.1 = some (tyX9 k) := by decide +kernel
abbrev cX9_init : ByteArray := prog_1_method_1_code
def yX9_init : MethodName := ⟨RX9, "<init>", "()V"⟩
abbrev cX9_add : ByteArray := prog_1_method_2_code
def yX9_add : MethodName := ⟨RX9, "add", "(IIII)I"⟩
abbrev cX9_alter : ByteArray := prog_1_method_3_code
def yX9_alter : MethodName := ⟨RX9, "alter", "(IIIII)I"⟩
abbrev cX9_back : ByteArray := prog_1_method_4_code
def yX9_back : MethodName := ⟨RX9, "back", "()I"⟩
abbrev cX9_clear : ByteArray := prog_1_method_5_code
def yX9_clear : MethodName := ⟨RX9, "clear", "()I"⟩
abbrev cX9_code : ByteArray := prog_1_method_6_code
def yX9_code : MethodName := ⟨RX9, "code", "(II)I"⟩
abbrev cX9_read : ByteArray := prog_1_method_7_code
def yX9_read : MethodName := ⟨RX9, "read", "(I)I"⟩
abbrev cX9_isBetween : ByteArray := prog_1_method_8_code
def yX9_isBetween : MethodName := ⟨RX9, "isBetween", "(III)Z"⟩
abbrev cX9_isVariable : ByteArray := prog_1_method_9_code
def yX9_isVariable : MethodName := ⟨RX9, "isVariable", "(I)Z"⟩
abbrev cX9_mayBe : ByteArray := prog_1_method_10_code
def yX9_mayBe : MethodName := ⟨RX9, "mayBe", "(IIII)Z"⟩
abbrev cX9_append : ByteArray := prog_1_method_11_code
def yX9_append : MethodName := ⟨RX9, "append", "(IIII)V"⟩
abbrev cX9_forget : ByteArray := prog_1_method_12_code
def yX9_forget : MethodName := ⟨RX9, "forget", "()V"⟩
abbrev cX9_next : ByteArray := prog_1_method_13_code
def yX9_next : MethodName := ⟨RX9, "next", "(I)I"⟩
abbrev cX9_reached : ByteArray := prog_1_method_14_code
def yX9_reached : MethodName := ⟨RX9, "reached", "()I"⟩
abbrev cX9_live : ByteArray := prog_1_method_15_code
def yX9_live : MethodName := ⟨RX9, "live", "(I)I"⟩
abbrev cX9_region : ByteArray := prog_1_method_16_code
def yX9_region : MethodName := ⟨RX9, "region", "(I)I"⟩
abbrev cX9_holds : ByteArray := prog_1_method_17_code
def yX9_holds : MethodName := ⟨RX9, "holds", "(II)I"⟩
abbrev cX9_loans : ByteArray := prog_1_method_18_code
def yX9_loans : MethodName := ⟨RX9, "loans", "()I"⟩
abbrev cX9_scope : ByteArray := prog_1_method_19_code
def yX9_scope : MethodName := ⟨RX9, "scope", "(I)I"⟩
abbrev cX9_active : ByteArray := prog_1_method_20_code
def yX9_active : MethodName := ⟨RX9, "active", "(I)I"⟩
abbrev cX9_bears : ByteArray := prog_1_method_21_code
def yX9_bears : MethodName := ⟨RX9, "bears", "(I)I"⟩
abbrev cX9_hasBit : ByteArray := prog_1_method_22_code
def yX9_hasBit : MethodName := ⟨RX9, "hasBit", "(II)Z"⟩
abbrev cX9_bitOf : ByteArray := prog_1_method_23_code
def yX9_bitOf : MethodName := ⟨RX9, "bitOf", "(I)I"⟩
abbrev cX9_errors : ByteArray := prog_1_method_24_code
def yX9_errors : MethodName := ⟨RX9, "errors", "()I"⟩
abbrev cX9_error : ByteArray := prog_1_method_25_code
def yX9_error : MethodName := ⟨RX9, "error", "(II)I"⟩
abbrev cX9_witness : ByteArray := prog_1_method_26_code
def yX9_witness : MethodName := ⟨RX9, "witness", "(II)I"⟩
abbrev cX9_mend : ByteArray := prog_1_method_27_code
def yX9_mend : MethodName := ⟨RX9, "mend", "(I)I"⟩
abbrev cX9_soft : ByteArray := prog_1_method_28_code
def yX9_soft : MethodName := ⟨RX9, "soft", "()I"⟩
abbrev cX9_run : ByteArray := prog_1_method_29_code
def yX9_run : MethodName := ⟨RX9, "run", "(III)I"⟩
abbrev cX9_sheet : ByteArray := prog_1_method_30_code
def yX9_sheet : MethodName := ⟨RX9, "sheet", "(III)I"⟩
abbrev cX9_lose : ByteArray := prog_1_method_31_code
def yX9_lose : MethodName := ⟨RX9, "lose", "(I)I"⟩
abbrev cX9_put : ByteArray := prog_1_method_32_code
def yX9_put : MethodName := ⟨RX9, "put", "(IIII)I"⟩
abbrev cX9_get : ByteArray := prog_1_method_33_code
def yX9_get : MethodName := ⟨RX9, "get", "(III)I"⟩
abbrev cX9_copy : ByteArray := prog_1_method_34_code
def yX9_copy : MethodName := ⟨RX9, "copy", "(IIIII)I"⟩
abbrev cX9_write : ByteArray := prog_1_method_35_code
def yX9_write : MethodName := ⟨RX9, "write", "(I)I"⟩
abbrev cX9_count : ByteArray := prog_1_method_36_code
def yX9_count : MethodName := ⟨RX9, "count", "(I)I"⟩
abbrev cX9_digest : ByteArray := prog_1_method_37_code
def yX9_digest : MethodName := ⟨RX9, "digest", "()J"⟩
abbrev cX9_fold : ByteArray := prog_1_method_38_code
def yX9_fold : MethodName := ⟨RX9, "fold", "(JJ)J"⟩
abbrev cX9_foldPoint : ByteArray := prog_1_method_39_code
def yX9_foldPoint : MethodName := ⟨RX9, "foldPoint", "(JI)J"⟩
abbrev cX9_foldError : ByteArray := prog_1_method_40_code
def yX9_foldError : MethodName := ⟨RX9, "foldError", "(JI)J"⟩
abbrev cX9_foldRun : ByteArray := prog_1_method_41_code
def yX9_foldRun : MethodName := ⟨RX9, "foldRun", "(JI)J"⟩
abbrev cX9_isSheet : ByteArray := prog_1_method_42_code
def yX9_isSheet : MethodName := ⟨RX9, "isSheet", "(I)Z"⟩
abbrev cX9_isForm : ByteArray := prog_1_method_43_code
def yX9_isForm : MethodName := ⟨RX9, "isForm", "(I)Z"⟩
abbrev cX9_finding : ByteArray := prog_1_method_44_code
def yX9_finding : MethodName := ⟨RX9, "finding", "(I)I"⟩
def RX10 : String := "LoanPointsModel"
def TX10 : u_T := fun k => match k with
  | 0 => ("LoanPointsModel", "told", "I", false)
  | 1 => ("LoanPointsModel", "kinds", "[I", true)
  | 2 => ("LoanPointsModel", "xs", "[I", true)
  | 3 => ("LoanPointsModel", "ps", "[I", true)
  | 4 => ("LoanPointsModel", "targets", "[I", true)
  | 5 => ("LoanPointsModel", "reachedNow", "I", false)
  | 6 => ("LoanPointsModel", "loansNow", "I", false)
  | 7 => ("LoanPointsModel", "liveNow", "[I", true)
  | 8 => ("LoanPointsModel", "regionNow", "[I", true)
  | 9 => ("LoanPointsModel", "holding", "[I", true)
  | 10 => ("LoanPointsModel", "scopeAt", "[I", true)
  | 11 => ("LoanPointsModel", "activeAt", "[I", true)
  | 12 => ("LoanPointsModel", "errorsNow", "I", false)
  | 13 => ("LoanPointsModel", "errorAt", "[I", true)
  | 14 => ("LoanPointsModel", "errorKind", "[I", true)
  | 15 => ("LoanPointsModel", "errorNumber", "[I", true)
  | 16 => ("LoanPointsModel", "far", "[I", true)
  | 17 => ("LoanPointsModel", "wayMany", "I", false)
  | 18 => ("LoanPointsModel", "way", "[I", true)
  | 19 => ("LoanPointsModel", "made", "I", false)
  | 20 => ("LoanPointsModel", "refKind", "[I", true)
  | 21 => ("LoanPointsModel", "refVariable", "[I", true)
  | 22 => ("LoanPointsModel", "refPart", "[I", true)
  | 23 => ("LoanPointsModel", "refFrom", "[I", true)
  | 24 => ("LoanPointsModel", "refFresh", "[I", true)
  | 25 => ("LoanPointsModel", "refActive", "[I", true)
  | 26 => ("LoanPointsModel", "referring", "[I", true)
  | 27 => ("LoanPointsModel", "badAt", "I", false)
  | 28 => ("LoanPointsModel", "badWhy", "I", false)
  | 29 => ("LoanPointsModel", "doneMany", "I", false)
  | 30 => ("LoanPointsModel", "isThere", "[Z", true)
  | 31 => ("LoanPointsModel", "forms", "[I", true)
  | 32 => ("LoanPointsModel", "sizes", "[I", true)
  | 33 => ("LoanPointsModel", "items", "[I", true)
  | 34 => ("LoanPointsModel", "moved", "[I", true)
  | _ => ("LoanPointsModel", "finding", "I", false)
def tyX10 : Nat → FieldType := fun k => match k with
  | 0 => .int
  | 1 => .array .int
  | 2 => .array .int
  | 3 => .array .int
  | 4 => .array .int
  | 5 => .int
  | 6 => .int
  | 7 => .array .int
  | 8 => .array .int
  | 9 => .array .int
  | 10 => .array .int
  | 11 => .array .int
  | 12 => .int
  | 13 => .array .int
  | 14 => .array .int
  | 15 => .array .int
  | 16 => .array .int
  | 17 => .int
  | 18 => .array .int
  | 19 => .int
  | 20 => .array .int
  | 21 => .array .int
  | 22 => .array .int
  | 23 => .array .int
  | 24 => .array .int
  | 25 => .array .int
  | 26 => .array .int
  | 27 => .int
  | 28 => .int
  | 29 => .int
  | 30 => .array .boolean
  | 31 => .array .int
  | 32 => .array .int
  | 33 => .array .int
  | 34 => .array .int
  | _ => .int
abbrev wsX100 : List Cond := u_ws RX10 TX10 36
theorem nmX10 : ∀ a, a < 36 → ∀ b, b < 36 → a ≠ b → (TX10 a).2.1 ≠ (TX10 b).2.1 := by decide +kernel
theorem tyX10_ok : ∀ k, k < 36 → parseFieldDescriptor (TX10 k).2.2.1 = some (tyX10 k) := by decide +kernel
abbrev cX10_init : ByteArray := prog_12_method_1_code
def yX10_init : MethodName := ⟨RX10, "<init>", "()V"⟩
abbrev cX10_in : ByteArray := prog_12_method_3_code
def yX10_in : MethodName := ⟨RX10, "in", "(III)Z"⟩
abbrev cX10_isIn : ByteArray := prog_12_method_4_code
def yX10_isIn : MethodName := ⟨RX10, "isIn", "(II)Z"⟩
abbrev cX10_many : ByteArray := prog_12_method_5_code
def yX10_many : MethodName := ⟨RX10, "many", "(I)I"⟩
abbrev cX10_isWell : ByteArray := prog_12_method_6_code
def yX10_isWell : MethodName := ⟨RX10, "isWell", "(IIII)Z"⟩
abbrev cX10_puts : ByteArray := prog_12_method_7_code
def yX10_puts : MethodName := ⟨RX10, "puts", "(IIIII)V"⟩
abbrev cX10_add : ByteArray := prog_12_method_8_code
def yX10_add : MethodName := ⟨RX10, "add", "(IIII)I"⟩
abbrev cX10_isPoint : ByteArray := prog_12_method_9_code
def yX10_isPoint : MethodName := ⟨RX10, "isPoint", "(I)Z"⟩
abbrev cX10_alter : ByteArray := prog_12_method_10_code
def yX10_alter : MethodName := ⟨RX10, "alter", "(IIIII)I"⟩
abbrev cX10_back : ByteArray := prog_12_method_11_code
def yX10_back : MethodName := ⟨RX10, "back", "()I"⟩
abbrev cX10_clear : ByteArray := prog_12_method_12_code
def yX10_clear : MethodName := ⟨RX10, "clear", "()I"⟩
abbrev cX10_codeOf : ByteArray := prog_12_method_13_code
def yX10_codeOf : MethodName := ⟨RX10, "codeOf", "(II)I"⟩
abbrev cX10_code : ByteArray := prog_12_method_14_code
def yX10_code : MethodName := ⟨RX10, "code", "(II)I"⟩
abbrev cX10_read : ByteArray := prog_12_method_15_code
def yX10_read : MethodName := ⟨RX10, "read", "(I)I"⟩
abbrev cX10_variable : ByteArray := prog_12_method_16_code
def yX10_variable : MethodName := ⟨RX10, "variable", "(I)I"⟩
abbrev cX10_through : ByteArray := prog_12_method_17_code
def yX10_through : MethodName := ⟨RX10, "through", "(I)Z"⟩
abbrev cX10_contains : ByteArray := prog_12_method_18_code
def yX10_contains : MethodName := ⟨RX10, "contains", "(II)Z"⟩
abbrev cX10_overlap : ByteArray := prog_12_method_19_code
def yX10_overlap : MethodName := ⟨RX10, "overlap", "(II)Z"⟩
abbrev cX10_kind : ByteArray := prog_12_method_20_code
def yX10_kind : MethodName := ⟨RX10, "kind", "(I)I"⟩
abbrev cX10_lends : ByteArray := prog_12_method_21_code
def yX10_lends : MethodName := ⟨RX10, "lends", "(I)Z"⟩
abbrev cX10_there : ByteArray := prog_12_method_22_code
def yX10_there : MethodName := ⟨RX10, "there", "(I)I"⟩
abbrev cX10_nextOf : ByteArray := prog_12_method_23_code
def yX10_nextOf : MethodName := ⟨RX10, "nextOf", "(I)I"⟩
abbrev cX10_next : ByteArray := prog_12_method_24_code
def yX10_next : MethodName := ⟨RX10, "next", "(I)I"⟩
abbrev cX10_readsOf : ByteArray := prog_12_method_25_code
def yX10_readsOf : MethodName := ⟨RX10, "readsOf", "(I)I"⟩
abbrev cX10_writesOf : ByteArray := prog_12_method_26_code
def yX10_writesOf : MethodName := ⟨RX10, "writesOf", "(I)I"⟩
abbrev cX10_goesBy : ByteArray := prog_12_method_27_code
def yX10_goesBy : MethodName := ⟨RX10, "goesBy", "(I)I"⟩
abbrev cX10_findsReached : ByteArray := prog_12_method_28_code
def yX10_findsReached : MethodName := ⟨RX10, "findsReached", "()V"⟩
abbrev cX10_findsLive : ByteArray := prog_12_method_29_code
def yX10_findsLive : MethodName := ⟨RX10, "findsLive", "()V"⟩
abbrev cX10_findsRegions : ByteArray := prog_12_method_30_code
def yX10_findsRegions : MethodName := ⟨RX10, "findsRegions", "()V"⟩
abbrev cX10_behind : ByteArray := prog_12_method_31_code
def yX10_behind : MethodName := ⟨RX10, "behind", "(II)I"⟩
abbrev cX10_flows : ByteArray := prog_12_method_32_code
def yX10_flows : MethodName := ⟨RX10, "flows", "(I)Z"⟩
abbrev cX10_findsHolding : ByteArray := prog_12_method_33_code
def yX10_findsHolding : MethodName := ⟨RX10, "findsHolding", "()V"⟩
abbrev cX10_kills : ByteArray := prog_12_method_34_code
def yX10_kills : MethodName := ⟨RX10, "kills", "(II)Z"⟩
abbrev cX10_isNever : ByteArray := prog_12_method_35_code
def yX10_isNever : MethodName := ⟨RX10, "isNever", "(I)Z"⟩
abbrev cX10_findsScope : ByteArray := prog_12_method_36_code
def yX10_findsScope : MethodName := ⟨RX10, "findsScope", "(I)V"⟩
abbrev cX10_findsAll : ByteArray := prog_12_method_37_code
def yX10_findsAll : MethodName := ⟨RX10, "findsAll", "()V"⟩
abbrev cX10_reachedOf : ByteArray := prog_12_method_38_code
def yX10_reachedOf : MethodName := ⟨RX10, "reachedOf", "()I"⟩
abbrev cX10_reached : ByteArray := prog_12_method_39_code
def yX10_reached : MethodName := ⟨RX10, "reached", "()I"⟩
abbrev cX10_liveOf : ByteArray := prog_12_method_40_code
def yX10_liveOf : MethodName := ⟨RX10, "liveOf", "(I)I"⟩
abbrev cX10_live : ByteArray := prog_12_method_41_code
def yX10_live : MethodName := ⟨RX10, "live", "(I)I"⟩
abbrev cX10_regionOf : ByteArray := prog_12_method_42_code
def yX10_regionOf : MethodName := ⟨RX10, "regionOf", "(I)I"⟩
abbrev cX10_region : ByteArray := prog_12_method_43_code
def yX10_region : MethodName := ⟨RX10, "region", "(I)I"⟩
abbrev cX10_holdsOf : ByteArray := prog_12_method_44_code
def yX10_holdsOf : MethodName := ⟨RX10, "holdsOf", "(II)I"⟩
abbrev cX10_holds : ByteArray := prog_12_method_45_code
def yX10_holds : MethodName := ⟨RX10, "holds", "(II)I"⟩
abbrev cX10_loansOf : ByteArray := prog_12_method_46_code
def yX10_loansOf : MethodName := ⟨RX10, "loansOf", "()I"⟩
abbrev cX10_loans : ByteArray := prog_12_method_47_code
def yX10_loans : MethodName := ⟨RX10, "loans", "()I"⟩
abbrev cX10_scopeOf : ByteArray := prog_12_method_48_code
def yX10_scopeOf : MethodName := ⟨RX10, "scopeOf", "(I)I"⟩
abbrev cX10_scope : ByteArray := prog_12_method_49_code
def yX10_scope : MethodName := ⟨RX10, "scope", "(I)I"⟩
abbrev cX10_activeOf : ByteArray := prog_12_method_50_code
def yX10_activeOf : MethodName := ⟨RX10, "activeOf", "(I)I"⟩
abbrev cX10_active : ByteArray := prog_12_method_51_code
def yX10_active : MethodName := ⟨RX10, "active", "(I)I"⟩
abbrev cX10_bearing : ByteArray := prog_12_method_52_code
def yX10_bearing : MethodName := ⟨RX10, "bearing", "(I)I"⟩
abbrev cX10_bearsOf : ByteArray := prog_12_method_53_code
def yX10_bearsOf : MethodName := ⟨RX10, "bearsOf", "(I)I"⟩
abbrev cX10_bears : ByteArray := prog_12_method_54_code
def yX10_bears : MethodName := ⟨RX10, "bears", "(I)I"⟩
abbrev cX10_errs : ByteArray := prog_12_method_55_code
def yX10_errs : MethodName := ⟨RX10, "errs", "(III)V"⟩
abbrev cX10_isClash : ByteArray := prog_12_method_56_code
def yX10_isClash : MethodName := ⟨RX10, "isClash", "(IIIZZ)Z"⟩
abbrev cX10_clashing : ByteArray := prog_12_method_57_code
def yX10_clashing : MethodName := ⟨RX10, "clashing", "(IIZZ)I"⟩
abbrev cX10_clashes : ByteArray := prog_12_method_58_code
def yX10_clashes : MethodName := ⟨RX10, "clashes", "(I)I"⟩
abbrev cX10_errsAt : ByteArray := prog_12_method_59_code
def yX10_errsAt : MethodName := ⟨RX10, "errsAt", "(I)V"⟩
abbrev cX10_errsAll : ByteArray := prog_12_method_60_code
def yX10_errsAll : MethodName := ⟨RX10, "errsAll", "()V"⟩
abbrev cX10_errorsOf : ByteArray := prog_12_method_61_code
def yX10_errorsOf : MethodName := ⟨RX10, "errorsOf", "()I"⟩
abbrev cX10_errors : ByteArray := prog_12_method_62_code
def yX10_errors : MethodName := ⟨RX10, "errors", "()I"⟩
abbrev cX10_errorOf : ByteArray := prog_12_method_63_code
def yX10_errorOf : MethodName := ⟨RX10, "errorOf", "(II)I"⟩
abbrev cX10_error : ByteArray := prog_12_method_64_code
def yX10_error : MethodName := ⟨RX10, "error", "(II)I"⟩
abbrev cX10_goesTo : ByteArray := prog_12_method_65_code
def yX10_goesTo : MethodName := ⟨RX10, "goesTo", "(I)V"⟩
abbrev cX10_nearest : ByteArray := prog_12_method_66_code
def yX10_nearest : MethodName := ⟨RX10, "nearest", "(I)I"⟩
abbrev cX10_measures : ByteArray := prog_12_method_67_code
def yX10_measures : MethodName := ⟨RX10, "measures", "(II)V"⟩
abbrev cX10_walks : ByteArray := prog_12_method_68_code
def yX10_walks : MethodName := ⟨RX10, "walks", "(I)V"⟩
abbrev cX10_findsWay : ByteArray := prog_12_method_69_code
def yX10_findsWay : MethodName := ⟨RX10, "findsWay", "(II)V"⟩
abbrev cX10_witnessOf : ByteArray := prog_12_method_70_code
def yX10_witnessOf : MethodName := ⟨RX10, "witnessOf", "(II)I"⟩
abbrev cX10_witness : ByteArray := prog_12_method_71_code
def yX10_witness : MethodName := ⟨RX10, "witness", "(II)I"⟩
abbrev cX10_errorsAs : ByteArray := prog_12_method_72_code
def yX10_errorsAs : MethodName := ⟨RX10, "errorsAs", "(II)I"⟩
abbrev cX10_mendOf : ByteArray := prog_12_method_73_code
def yX10_mendOf : MethodName := ⟨RX10, "mendOf", "(I)I"⟩
abbrev cX10_mend : ByteArray := prog_12_method_74_code
def yX10_mend : MethodName := ⟨RX10, "mend", "(I)I"⟩
abbrev cX10_softOf : ByteArray := prog_12_method_75_code
def yX10_softOf : MethodName := ⟨RX10, "softOf", "()I"⟩
abbrev cX10_soft : ByteArray := prog_12_method_76_code
def yX10_soft : MethodName := ⟨RX10, "soft", "()I"⟩
abbrev cX10_isOf : ByteArray := prog_12_method_77_code
def yX10_isOf : MethodName := ⟨RX10, "isOf", "(II)Z"⟩
abbrev cX10_accesses : ByteArray := prog_12_method_78_code
def yX10_accesses : MethodName := ⟨RX10, "accesses", "(IIZI)V"⟩
abbrev cX10_isStale : ByteArray := prog_12_method_79_code
def yX10_isStale : MethodName := ⟨RX10, "isStale", "(I)Z"⟩
abbrev cX10_isShared : ByteArray := prog_12_method_80_code
def yX10_isShared : MethodName := ⟨RX10, "isShared", "(I)Z"⟩
abbrev cX10_whyBad : ByteArray := prog_12_method_81_code
def yX10_whyBad : MethodName := ⟨RX10, "whyBad", "(I)I"⟩
abbrev cX10_makes : ByteArray := prog_12_method_82_code
def yX10_makes : MethodName := ⟨RX10, "makes", "(IIII)V"⟩
abbrev cX10_does : ByteArray := prog_12_method_83_code
def yX10_does : MethodName := ⟨RX10, "does", "(I)V"⟩
abbrev cX10_runs : ByteArray := prog_12_method_84_code
def yX10_runs : MethodName := ⟨RX10, "runs", "(II)V"⟩
abbrev cX10_runOf : ByteArray := prog_12_method_85_code
def yX10_runOf : MethodName := ⟨RX10, "runOf", "(III)I"⟩
abbrev cX10_run : ByteArray := prog_12_method_86_code
def yX10_run : MethodName := ⟨RX10, "run", "(III)I"⟩
abbrev cX10_meets : ByteArray := prog_12_method_87_code
def yX10_meets : MethodName := ⟨RX10, "meets", "(I)I"⟩
abbrev cX10_isSheet : ByteArray := prog_12_method_88_code
def yX10_isSheet : MethodName := ⟨RX10, "isSheet", "(I)Z"⟩
abbrev cX10_sheet : ByteArray := prog_12_method_89_code
def yX10_sheet : MethodName := ⟨RX10, "sheet", "(III)I"⟩
abbrev cX10_lose : ByteArray := prog_12_method_90_code
def yX10_lose : MethodName := ⟨RX10, "lose", "(I)I"⟩
abbrev cX10_lacks : ByteArray := prog_12_method_91_code
def yX10_lacks : MethodName := ⟨RX10, "lacks", "(III)I"⟩
abbrev cX10_keep : ByteArray := prog_12_method_92_code
def yX10_keep : MethodName := ⟨RX10, "keep", "(III)V"⟩
abbrev cX10_put : ByteArray := prog_12_method_93_code
def yX10_put : MethodName := ⟨RX10, "put", "(IIII)I"⟩
abbrev cX10_get : ByteArray := prog_12_method_94_code
def yX10_get : MethodName := ⟨RX10, "get", "(III)I"⟩
abbrev cX10_copy : ByteArray := prog_12_method_95_code
def yX10_copy : MethodName := ⟨RX10, "copy", "(IIIII)I"⟩
abbrev cX10_write : ByteArray := prog_12_method_96_code
def yX10_write : MethodName := ⟨RX10, "write", "(I)I"⟩
abbrev cX10_manyOf : ByteArray := prog_12_method_97_code
def yX10_manyOf : MethodName := ⟨RX10, "manyOf", "(I)I"⟩
abbrev cX10_count : ByteArray := prog_12_method_98_code
def yX10_count : MethodName := ⟨RX10, "count", "(I)I"⟩
abbrev cX10_pointDigest : ByteArray := prog_12_method_99_code
def yX10_pointDigest : MethodName := ⟨RX10, "pointDigest", "(JI)J"⟩
abbrev cX10_errorDigest : ByteArray := prog_12_method_100_code
def yX10_errorDigest : MethodName := ⟨RX10, "errorDigest", "(JI)J"⟩
abbrev cX10_runDigest : ByteArray := prog_12_method_101_code
def yX10_runDigest : MethodName := ⟨RX10, "runDigest", "(JI)J"⟩
abbrev cX10_digest : ByteArray := prog_12_method_102_code
def yX10_digest : MethodName := ⟨RX10, "digest", "()J"⟩
def RJ6 : String := "java/lang/Integer"
def TJ6 : u_T := fun k => match k with
  | _ => ("", "", "", false)
def tyJ6 : Nat → FieldType := fun k => match k with
  | _ => .int
abbrev wsJ60 : List Cond := u_ws RJ6 TJ6 0
theorem nmJ6 : ∀ a, a < 0 → ∀ b, b < 0 → a ≠ b → (TJ6 a).2.1 ≠ (TJ6 b).2.1 := by decide +kernel
theorem tyJ6_ok : ∀ k, k < 0 → parseFieldDescriptor (TJ6 k).2.2.1 = some (tyJ6 k) := by decide +kernel
abbrev cJ6_bitCount_0f7a4 : ByteArray := prog_13_method_49_code
def yJ6_bitCount_0f7a4 : MethodName := ⟨RJ6, "bitCount", "(I)I"⟩
def RJ9 : String := "java/lang/Math"
def TJ9 : u_T := fun k => match k with
  | _ => ("", "", "", false)
def tyJ9 : Nat → FieldType := fun k => match k with
  | _ => .int
abbrev wsJ90 : List Cond := u_ws RJ9 TJ9 0
theorem nmJ9 : ∀ a, a < 0 → ∀ b, b < 0 → a ≠ b → (TJ9 a).2.1 ≠ (TJ9 b).2.1 := by decide +kernel
theorem tyJ9_ok : ∀ k, k < 0 → parseFieldDescriptor (TJ9 k).2.2.1 = some (tyJ9 k) := by decide +kernel
abbrev cJ9_min_7cf53 : ByteArray := prog_14_method_69_code
def yJ9_min_7cf53 : MethodName := ⟨RJ9, "min", "(II)I"⟩
def RJ10 : String := "java/lang/System"
def TJ10 : u_T := fun k => match k with
  | _ => ("", "", "", false)
def tyJ10 : Nat → FieldType := fun k => match k with
  | _ => .int
abbrev wsJ100 : List Cond := u_ws RJ10 TJ10 0
theorem nmJ10 : ∀ a, a < 0 → ∀ b, b < 0 → a ≠ b → (TJ10 a).2.1 ≠ (TJ10 b).2.1 := by decide +kernel
theorem tyJ10_ok : ∀ k, k < 0 → parseFieldDescriptor (TJ10 k).2.2.1 = some (tyJ10 k) := by decide +kernel
def RL : String := "LoanPointsLaw"
abbrev cL_law : ByteArray := code
def yL_law : MethodName := ⟨RL, "law", "([I)Z"⟩
abbrev vwCl : List vw_C := [(RX0, TX0, 5), (RX1, TX1, 3), (RX2, TX2, 9), (RX3, TX3, 14), (RX4, TX4, 10), (RX5, TX5, 8), (RX6, TX6, 3), (RX7, TX7, 6), (RX8, TX8, 16), (RX9, TX9, 7), (RX10, TX10, 36)]
end
section

def tb : List Cond := lw_tbl.filter goodWord
theorem tb_of {w : Cond} (i : Nat) (h : lw_tbl[i]? = some w) (g : goodWord w = true) : w ∈ tb := List.mem_filter.mpr ⟨List.mem_of_getElem? h, g⟩
theorem tb_in {w : Cond} (h : w ∈ tb) : w ∈ lw_tbl := (List.mem_filter.mp h).1
theorem tb_good {w : Cond} (h : w ∈ tb) : goodWord w = true := (List.mem_filter.mp h).2
theorem tb_GI {big : List Cond} {y : MethodName} {bytes : ByteArray} {n : Nat} {ret : Option FieldType} (hb : ∀ w ∈ tb, w ∈ big) (hy : Cond.code y bytes n ret ∈ tb) : GoodIn big (Cond.code y bytes n ret :: tb) := by
  intro w hw
  have h1 : w ∈ tb := by
    rcases List.mem_cons.mp hw with h | h
    · rw [h]; exact hy
    · exact h
  exact ⟨hb w h1, good_of_word (tb_good h1)⟩
def nsQ : List (String × Nat × MethodName × String) := [(RX9, 11, yX4_init, RX9), (RX0, 15, yX2_init, RX9), (RX0, 22, yX3_init, RX9), (RX0, 29, yX1_init, RX9), (RX9, 58, yX6_init, RX9), (RX2, 53, yX9_hasBit, RX9), (RX2, 57, yX9_bitOf, RX9), (RX3, 64, yX9_hasBit, RX9), (RX1, 91, yX9_hasBit, RX9), (RX7, 95, yX9_hasBit, RX9), (RX5, 79, yX9_hasBit, RX9)]
def nsOk (U : State) : Prop := ∀ q ∈ nsQ, va_Nw (.methodLinkNest q.1 q.2.1 q.2.2.1 q.2.2.2) U
theorem nsOk.warm {s U : State} (hW : s.WarmedH U.vm) (h : nsOk s) : nsOk U := fun q hq => va_Nw.warmM hW (h q hq)
theorem nsOk.same {s U : State} (hv : s.vm = U.vm) (h : nsOk s) : nsOk U := fun q hq => va_Nw.same rfl hv (h q hq)
abbrev sh_S : Type := Nat → Nat → Int32
abbrev sh_T : Type := (Nat × Nat) ⊕ (Nat × List (Option Nat)) ⊕ (List Nat)
def sh_v (ad : Nat → Nat) (v : Value) : Value := match v with
  | .ref k => .ref (ad k)
  | w => w
theorem sh_v_cat (ad : Nat → Nat) (v : Value) : (sh_v ad v).category = v.category := by cases v <;> rfl
def sh_p (ad : Nat → Nat) (q : Nat × Value) : Nat × Value := (q.1, sh_v ad q.2)
def sh_g (ad : Nat → Nat) (g : Nat → Int32) (j : Nat) (f : Option Nat) : Value := match f with
  | none => .int (g j)
  | some k => .ref (ad k)
def sh_f (ad : Nat → Nat) (g : Nat → Int32) (fs : List (Option Nat)) : List Value := fs.mapIdx (sh_g ad g)
def sh_e (ar : Nat → ClassId) (ad : Nat → Nat) (g : Nat → Int32) (s : sh_T) : va_E := match s with
  | .inl q => .inl (ar q.1, q.2, .inl g)
  | .inr (.inl q) => .inr (q.1, sh_f ad g q.2)
  | .inr (.inr rs) => .inl (ar 2, rs.length, .inr (.inr (.inr (.inr (fun j => (rs[j]?).map ad)))))
def sh_c (ar : Nat → ClassId) (ad : Nat → Nat) (σ : sh_S) (k : Nat) (s : sh_T) : Nat × va_E := (ad k, sh_e ar ad (σ k) s)
def sh_W (ar : Nat → ClassId) (ad : Nat → Nat) (σ : sh_S) (sh : List sh_T) : va_W := sh.mapIdx (sh_c ar ad σ)
theorem sh_get {ar : Nat → ClassId} {ad : Nat → Nat} {σ : sh_S} {sh : List sh_T} (k : Nat) : (sh_W ar ad σ sh)[k]? = (sh[k]?).map (fun s => (ad k, sh_e ar ad (σ k) s)) := by
  unfold sh_W
  rw [List.getElem?_mapIdx]
  rfl
theorem sh_at {ar : Nat → ClassId} {ad : Nat → Nat} {σ : sh_S} {sh : List sh_T} {k : Nat} {s : sh_T} (h : sh[k]? = some s) : (sh_W ar ad σ sh)[k]? = some (ad k, sh_e ar ad (σ k) s) := by rw [sh_get, h]; rfl
theorem sh_of {ar : Nat → ClassId} {ad : Nat → Nat} {σ : sh_S} {sh : List sh_T} {k : Nat} {q : Nat × va_E} (h : (sh_W ar ad σ sh)[k]? = some q) : ∃ s, sh[k]? = some s ∧ q = (ad k, sh_e ar ad (σ k) s) := by
  rw [sh_get] at h
  cases hs : sh[k]? with
  | none => rw [hs] at h; cases h
  | some s => rw [hs] at h; exact ⟨s, rfl, (Option.some.inj h).symm⟩
theorem sh_D {ar : Nat → ClassId} {ad : Nat → Nat} {σ σ' : sh_S} {sh : List sh_T} {A : Nat → Prop} (h : va_D A (sh_W ar ad σ sh)) : va_D A (sh_W ar ad σ' sh) := by
  refine ⟨fun i j p q hi hj hpq => ?_, fun k q hk => ?_⟩
  · obtain ⟨s1, a1, rfl⟩ := sh_of hi
    obtain ⟨s2, a2, rfl⟩ := sh_of hj
    exact h.1 i j _ _ (sh_at a1) (sh_at a2) hpq
  · obtain ⟨s1, a1, rfl⟩ := sh_of hk
    exact h.2 k (ad k, sh_e ar ad (σ k) s1) (sh_at a1)
def ur (σ : sh_S) (k : Nat) (g : Nat → Int32) : sh_S := fun k' => if k' = k then g else σ k'
theorem ur_s (σ : sh_S) (k : Nat) (g : Nat → Int32) : ur σ k g k = g := by simp [ur]
theorem ur_n (σ : sh_S) {k k' : Nat} (g : Nat → Int32) (h : k' ≠ k) : ur σ k g k' = σ k' := by simp [ur, h]
theorem sh_set {ar : Nat → ClassId} {ad : Nat → Nat} {σ : sh_S} {sh : List sh_T} {k : Nat} {s : sh_T} (g : Nat → Int32) (h : sh[k]? = some s) : (sh_W ar ad σ sh).set k (ad k, sh_e ar ad g s) = sh_W ar ad (ur σ k g) sh := by
  apply List.ext_getElem?
  intro i
  have hl : k < (sh_W ar ad σ sh).length := (List.getElem?_eq_some_iff.mp (sh_at (ar := ar) (ad := ad) (σ := σ) h)).1
  by_cases hi : i = k
  · subst hi
    rw [List.getElem?_set_self hl, sh_get, h, ur_s]; rfl
  · rw [List.getElem?_set_ne (Ne.symm hi), sh_get, sh_get, ur_n _ _ hi]
theorem sh_fset {ad : Nat → Nat} {g : Nat → Int32} {fs : List (Option Nat)} {j : Nat} (v : Int32) (h : fs[j]? = some none) : (sh_f ad g fs).set j (.int v) = sh_f ad (upd g j v) fs := by
  apply List.ext_getElem?
  intro i
  have hl : j < (sh_f ad g fs).length := by
    unfold sh_f
    rw [List.length_mapIdx]
    exact (List.getElem?_eq_some_iff.mp h).1
  by_cases hi : i = j
  · subst hi
    rw [List.getElem?_set_self hl]
    unfold sh_f
    rw [List.getElem?_mapIdx, h]
    simp [sh_g, upd]
  · rw [List.getElem?_set_ne (Ne.symm hi)]
    unfold sh_f
    rw [List.getElem?_mapIdx, List.getElem?_mapIdx]
    cases hf : fs[i]? with
    | none => rfl
    | some f =>
      cases f with
      | none => simp [sh_g, upd, hi]
      | some k => simp [sh_g]
theorem sh_fget {ad : Nat → Nat} {g : Nat → Int32} {fs : List (Option Nat)} {j : Nat} {f : Option Nat} (h : fs[j]? = some f) : (sh_f ad g fs)[j]? = some (sh_g ad g j f) := by
  unfold sh_f
  rw [List.getElem?_mapIdx, h]; rfl
def sh_t (ar : Nat → ClassId) : List (ClassId × FieldType) := [(ar 0, .int), (ar 1, .boolean), (ar 2, .object RX6)]
abbrev sh_G : Type := Program × Launch × Env × Room × State × MethodId × Array Value × List Frame × Method × Code × (State → Prop) × va_G × (Nat → ClassId) × (Nat → Nat) × (Nat → Prop) × Nat
abbrev gp (G : sh_G) : Program := G.1
abbrev gl (G : sh_G) : Launch := G.2.1
abbrev ge (G : sh_G) : Env := G.2.2.1
abbrev gR (G : sh_G) : Room := G.2.2.2.1
abbrev gs (G : sh_G) : State := G.2.2.2.2.1
abbrev gm (G : sh_G) : MethodId := G.2.2.2.2.2.1
abbrev ga (G : sh_G) : Array Value := G.2.2.2.2.2.2.1
abbrev gb (G : sh_G) : List Frame := G.2.2.2.2.2.2.2.1
abbrev gM (G : sh_G) : Method := G.2.2.2.2.2.2.2.2.1
abbrev gc (G : sh_G) : Code := G.2.2.2.2.2.2.2.2.2.1
abbrev gQ (G : sh_G) : State → Prop := G.2.2.2.2.2.2.2.2.2.2.1
abbrev gD (G : sh_G) : va_G := G.2.2.2.2.2.2.2.2.2.2.2.1
abbrev gr (G : sh_G) : Nat → ClassId := G.2.2.2.2.2.2.2.2.2.2.2.2.1
abbrev gd (G : sh_G) : Nat → Nat := G.2.2.2.2.2.2.2.2.2.2.2.2.2.1
abbrev gA (G : sh_G) : Nat → Prop := G.2.2.2.2.2.2.2.2.2.2.2.2.2.2.1
abbrev gn (G : sh_G) : Nat := G.2.2.2.2.2.2.2.2.2.2.2.2.2.2.2
def sh_K (G : sh_G) (sh : List sh_T) (pc : Nat) (lv : List (Nat × Value)) (st : List Value) (σ : sh_S) : Prop :=
  ∀ (H : Heap) (locs : List Loc) (ls : Array Slot), va_P (gD G) vwCl (sh_W (gr G) (gd G) σ sh) H → va_S (gA G) (gs G).heap H locs → lv_has ls (gn G) (lv.map (sh_p (gd G))) →
    W (gp G) (gl G) (ge G) (gR G) (gs G) (gm G) (ga G) (gb G) (gM G) (gc G) H locs 0 0 (gQ G) (F0 (gm G) pc ls (st.map (sh_v (gd G))))
def sh_ok (G : sh_G) (cc : ByteArray) (own : String) (sh : List sh_T) : Prop :=
  (gp G).tables.exec = Jvm.exec ∧ (gc G).code = cc ∧ (gc G).maxLocals = gn G ∧ (gs G).vm.findClass own = some (gm G).cls ∧ (∀ w ∈ tb, w.before (ga G) (gs G) = true) ∧ va_K (gD G) vwCl (sh_t (gr G)) (gs G) ∧ va_D (gA G) (sh_W (gr G) (gd G) (fun _ _ => 0) sh) ∧ nsOk (gs G) ∧ (∀ q, (gs G).heap.size ≤ q → gA G q)
def sh_ins (a : Nat × Value) (l : List (Nat × Value)) : List (Nat × Value) := match l with
  | [] => [a]
  | b :: r => if a.1 < b.1 then a :: b :: r else b :: sh_ins a r
theorem sh_ins_mem {a q : Nat × Value} : ∀ {l : List (Nat × Value)}, q ∈ sh_ins a l → q = a ∨ q ∈ l
  | [], h => Or.inl (List.mem_singleton.mp h)
  | b :: r, h => by
    unfold sh_ins at h
    split at h
    · rcases List.mem_cons.mp h with h | h
      · exact Or.inl h
      · exact Or.inr h
    · rcases List.mem_cons.mp h with h | h
      · exact Or.inr (by rw [h]; exact List.mem_cons_self)
      · rcases sh_ins_mem h with h | h
        · exact Or.inl h
        · exact Or.inr (List.mem_cons_of_mem _ h)
def sh_cl (i : Nat) (q : Nat × Value) : Bool := !(q.1 == i) && !(q.1 + 1 == i && q.2.category == 2)
def sh_cm (i : Nat) (q : Nat × Value) : Bool := !(q.1 == i) && (!(q.1 == i + 1) && !(q.1 + 1 == i && q.2.category == 2))
theorem sh_ins_has {ad : Nat → Nat} {ls : Array Slot} {n i : Nat} {v : Value} {lv lv' : List (Nat × Value)} {f : Nat × Value → Bool} (hf : ∀ q, f (sh_p ad q) = f q) (h : lv_has ls n ((i, sh_v ad v) :: (lv.map (sh_p ad)).filter f)) (hl : sh_ins (i, v) (lv.filter f) = lv') : lv_has ls n (lv'.map (sh_p ad)) := by
  refine ⟨h.1, h.2.1, fun q hq => ?_⟩
  obtain ⟨q0, h0, rfl⟩ := List.mem_map.mp hq
  rw [← hl] at h0
  rcases sh_ins_mem h0 with rfl | h1
  · exact h.2.2 _ List.mem_cons_self
  · obtain ⟨h2, h3⟩ := List.mem_filter.mp h1
    exact h.2.2 _ (List.mem_cons_of_mem _ (List.mem_filter.mpr ⟨List.mem_map.mpr ⟨q0, h2, rfl⟩, by rw [hf]; exact h3⟩))
theorem sh_cl_p (ad : Nat → Nat) (i : Nat) (q : Nat × Value) : sh_cl i (sh_p ad q) = sh_cl i q := by unfold sh_cl sh_p; rw [sh_v_cat]
theorem sh_cm_p (ad : Nat → Nat) (i : Nat) (q : Nat × Value) : sh_cm i (sh_p ad q) = sh_cm i q := by unfold sh_cm sh_p; rw [sh_v_cat]
theorem sh_lv {ad : Nat → Nat} {ls : Array Slot} {n : Nat} {lv : List (Nat × Value)} (h : lv_has ls n (lv.map (sh_p ad))) (k : Nat) {i : Nat} {v : Value} (hk : lv[k]? = some (i, v)) : ls[i]? = some (.val (sh_v ad v)) := by
  refine lv_at h k ?_
  rw [List.getElem?_map, hk]; rfl

section KR
variable {G : sh_G} {cc : ByteArray} {own : String} {sh : List sh_T} {pc : Nat} {lv lv' : List (Nat × Value)} {st : List Value} {σ σ' : sh_S}
theorem k_iconst (h : sh_ok G cc own sh) {n : Int} {v : Int32} (d : decode cc pc = .ok (.iconst n, 1)) (hv : Int32.ofInt n = v) (k : sh_K G sh (pc + 1) lv (.int v :: st) σ) : sh_K G sh pc lv (st) σ := fun H locs ls hP hS hl => lv_iconst h.1 h.2.1 d hv (k H locs ls hP hS hl)
theorem k_bipush (h : sh_ok G cc own sh) {n : Int} {v : Int32} (d : decode cc pc = .ok (.bipush n, 2)) (hv : (Int8.ofInt n).toInt32 = v) (k : sh_K G sh (pc + 2) lv (.int v :: st) σ) : sh_K G sh pc lv (st) σ := fun H locs ls hP hS hl => lv_bipush h.1 h.2.1 d hv (k H locs ls hP hS hl)
theorem k_sipush (h : sh_ok G cc own sh) {n : Int} {v : Int32} (d : decode cc pc = .ok (.sipush n, 3)) (hv : (Int16.ofInt n).toInt32 = v) (k : sh_K G sh (pc + 3) lv (.int v :: st) σ) : sh_K G sh pc lv (st) σ := fun H locs ls hP hS hl => lv_sipush h.1 h.2.1 d hv (k H locs ls hP hS hl)
theorem k_iadd (h : sh_ok G cc own sh) {x y : Int32} (d : decode cc pc = .ok (.iadd, 1))  (k : sh_K G sh (pc + 1) lv (.int (x + y) :: st) σ) : sh_K G sh pc lv (.int y :: .int x :: st) σ := fun H locs ls hP hS hl => lv_iadd h.1 h.2.1 d  (k H locs ls hP hS hl)
theorem k_isub (h : sh_ok G cc own sh) {x y : Int32} (d : decode cc pc = .ok (.isub, 1))  (k : sh_K G sh (pc + 1) lv (.int (x - y) :: st) σ) : sh_K G sh pc lv (.int y :: .int x :: st) σ := fun H locs ls hP hS hl => lv_isub h.1 h.2.1 d  (k H locs ls hP hS hl)
theorem k_imul (h : sh_ok G cc own sh) {x y : Int32} (d : decode cc pc = .ok (.imul, 1))  (k : sh_K G sh (pc + 1) lv (.int (x * y) :: st) σ) : sh_K G sh pc lv (.int y :: .int x :: st) σ := fun H locs ls hP hS hl => lv_imul h.1 h.2.1 d  (k H locs ls hP hS hl)
theorem k_iand (h : sh_ok G cc own sh) {x y : Int32} (d : decode cc pc = .ok (.iand, 1))  (k : sh_K G sh (pc + 1) lv (.int (x &&& y) :: st) σ) : sh_K G sh pc lv (.int y :: .int x :: st) σ := fun H locs ls hP hS hl => lv_iand h.1 h.2.1 d  (k H locs ls hP hS hl)
theorem k_ior (h : sh_ok G cc own sh) {x y : Int32} (d : decode cc pc = .ok (.ior, 1))  (k : sh_K G sh (pc + 1) lv (.int (x ||| y) :: st) σ) : sh_K G sh pc lv (.int y :: .int x :: st) σ := fun H locs ls hP hS hl => lv_ior h.1 h.2.1 d  (k H locs ls hP hS hl)
theorem k_ixor (h : sh_ok G cc own sh) {x y : Int32} (d : decode cc pc = .ok (.ixor, 1))  (k : sh_K G sh (pc + 1) lv (.int (x ^^^ y) :: st) σ) : sh_K G sh pc lv (.int y :: .int x :: st) σ := fun H locs ls hP hS hl => lv_ixor h.1 h.2.1 d  (k H locs ls hP hS hl)
theorem k_ishl (h : sh_ok G cc own sh) {x y : Int32} (d : decode cc pc = .ok (.ishl, 1))  (k : sh_K G sh (pc + 1) lv (.int (x <<< (y &&& 31)) :: st) σ) : sh_K G sh pc lv (.int y :: .int x :: st) σ := fun H locs ls hP hS hl => lv_ishl h.1 h.2.1 d  (k H locs ls hP hS hl)
theorem k_ishr (h : sh_ok G cc own sh) {x y : Int32} (d : decode cc pc = .ok (.ishr, 1))  (k : sh_K G sh (pc + 1) lv (.int (x >>> (y &&& 31)) :: st) σ) : sh_K G sh pc lv (.int y :: .int x :: st) σ := fun H locs ls hP hS hl => lv_ishr h.1 h.2.1 d  (k H locs ls hP hS hl)
theorem k_idiv (h : sh_ok G cc own sh) {x y : Int32} (d : decode cc pc = .ok (.idiv, 1)) (hne : ¬ y = 0) (k : sh_K G sh (pc + 1) lv (.int (x / y) :: st) σ) : sh_K G sh pc lv (.int y :: .int x :: st) σ := fun H locs ls hP hS hl => lv_idiv h.1 h.2.1 d hne (k H locs ls hP hS hl)
theorem k_irem (h : sh_ok G cc own sh) {x y : Int32} (d : decode cc pc = .ok (.irem, 1)) (hne : ¬ y = 0) (k : sh_K G sh (pc + 1) lv (.int (x - x / y * y) :: st) σ) : sh_K G sh pc lv (.int y :: .int x :: st) σ := fun H locs ls hP hS hl => lv_irem h.1 h.2.1 d hne (k H locs ls hP hS hl)
theorem k_iushr (h : sh_ok G cc own sh) {x y : Int32} (d : decode cc pc = .ok (.iushr, 1))  (k : sh_K G sh (pc + 1) lv (.int ((x.toUInt32 >>> (y.toUInt32 &&& Int32.toUInt32 31)).toInt32) :: st) σ) : sh_K G sh pc lv (.int y :: .int x :: st) σ := fun H locs ls hP hS hl => lv_iushr h.1 h.2.1 d rfl (k H locs ls hP hS hl)
theorem k_ladd (h : sh_ok G cc own sh) {x y : Int64} (d : decode cc pc = .ok (.ladd, 1))  (k : sh_K G sh (pc + 1) lv (.long (x + y) :: st) σ) : sh_K G sh pc lv (.long y :: .long x :: st) σ := fun H locs ls hP hS hl => lv_ladd h.1 h.2.1 d  (k H locs ls hP hS hl)
theorem k_lmul (h : sh_ok G cc own sh) {x y : Int64} (d : decode cc pc = .ok (.lmul, 1))  (k : sh_K G sh (pc + 1) lv (.long (x * y) :: st) σ) : sh_K G sh pc lv (.long y :: .long x :: st) σ := fun H locs ls hP hS hl => lv_lmul h.1 h.2.1 d  (k H locs ls hP hS hl)
theorem k_lcmp (h : sh_ok G cc own sh) {x y : Int64} (d : decode cc pc = .ok (.lcmp, 1))  (k : sh_K G sh (pc + 1) lv (.int (lg_cmp x y) :: st) σ) : sh_K G sh pc lv (.long y :: .long x :: st) σ := fun H locs ls hP hS hl => W.lcmp h.1 h.2.1 d  (k H locs ls hP hS hl)
theorem k_i2l (h : sh_ok G cc own sh) {x : Int32} (d : decode cc pc = .ok (.i2l, 1))  (k : sh_K G sh (pc + 1) lv (.long x.toInt64 :: st) σ) : sh_K G sh pc lv (.int x :: st) σ := fun H locs ls hP hS hl => lv_i2l h.1 h.2.1 d rfl (k H locs ls hP hS hl)
theorem k_i2b (h : sh_ok G cc own sh) {x : Int32} (d : decode cc pc = .ok (.i2b, 1))  (k : sh_K G sh (pc + 1) lv (.int x.toInt8.toInt32 :: st) σ) : sh_K G sh pc lv (.int x :: st) σ := fun H locs ls hP hS hl => lv_i2b h.1 h.2.1 d rfl (k H locs ls hP hS hl)
theorem k_i2s (h : sh_ok G cc own sh) {x : Int32} (d : decode cc pc = .ok (.i2s, 1))  (k : sh_K G sh (pc + 1) lv (.int x.toInt16.toInt32 :: st) σ) : sh_K G sh pc lv (.int x :: st) σ := fun H locs ls hP hS hl => lv_i2s h.1 h.2.1 d rfl (k H locs ls hP hS hl)
theorem k_dup (h : sh_ok G cc own sh) {va : Value} (d : decode cc pc = .ok (.dup, 1)) (hc : va.category = 1) (k : sh_K G sh (pc + 1) lv (va :: va :: st) σ) : sh_K G sh pc lv (va :: st) σ := fun H locs ls hP hS hl => lv_dup h.1 h.2.1 d ((sh_v_cat _ _).trans hc) (k H locs ls hP hS hl)
theorem k_dup2 (h : sh_ok G cc own sh) {va vb : Value} (d : decode cc pc = .ok (.dup2, 1)) (hc : va.category = 1) (hc2 : vb.category = 1) (k : sh_K G sh (pc + 1) lv (va :: vb :: va :: vb :: st) σ) : sh_K G sh pc lv (va :: vb :: st) σ := fun H locs ls hP hS hl => lv_dup2_11 h.1 h.2.1 d ((sh_v_cat _ _).trans hc) ((sh_v_cat _ _).trans hc2) (k H locs ls hP hS hl)
theorem k_pop (h : sh_ok G cc own sh) {va : Value} (d : decode cc pc = .ok (.pop, 1)) (hc : va.category = 1) (k : sh_K G sh (pc + 1) lv st σ) : sh_K G sh pc lv (va :: st) σ := fun H locs ls hP hS hl => lv_pop h.1 h.2.1 d ((sh_v_cat _ _).trans hc) (k H locs ls hP hS hl)
theorem k_iload_n (h : sh_ok G cc own sh) {n : Fin 4} {i : Nat} {x : Int32} (d : decode cc pc = .ok (.iload_n n, 1)) (hi : (n : Nat) = i) (q : Nat) (hq : lv[q]? = some (i, .int x)) (k : sh_K G sh (pc + 1) lv (.int x :: st) σ) : sh_K G sh pc lv st σ := fun H locs ls hP hS hl => lv_iload_n h.1 h.2.1 d hi (sh_lv hl q hq) (k H locs ls hP hS hl)
theorem k_iload (h : sh_ok G cc own sh) {i : Nat} {x : Int32} (d : decode cc pc = .ok (.iload i, 2)) (q : Nat) (hq : lv[q]? = some (i, .int x)) (k : sh_K G sh (pc + 2) lv (.int x :: st) σ) : sh_K G sh pc lv st σ := fun H locs ls hP hS hl => lv_iload h.1 h.2.1 d (sh_lv hl q hq) (k H locs ls hP hS hl)
theorem k_lload_n (h : sh_ok G cc own sh) {n : Fin 4} {i : Nat} {x : Int64} (d : decode cc pc = .ok (.lload_n n, 1)) (hi : (n : Nat) = i) (q : Nat) (hq : lv[q]? = some (i, .long x)) (k : sh_K G sh (pc + 1) lv (.long x :: st) σ) : sh_K G sh pc lv st σ := fun H locs ls hP hS hl => lv_lload_n h.1 h.2.1 d hi (sh_lv hl q hq) (k H locs ls hP hS hl)
theorem k_lload (h : sh_ok G cc own sh) {i : Nat} {x : Int64} (d : decode cc pc = .ok (.lload i, 2)) (q : Nat) (hq : lv[q]? = some (i, .long x)) (k : sh_K G sh (pc + 2) lv (.long x :: st) σ) : sh_K G sh pc lv st σ := fun H locs ls hP hS hl => lv_lload h.1 h.2.1 d (sh_lv hl q hq) (k H locs ls hP hS hl)
theorem k_aload_n (h : sh_ok G cc own sh) {n : Fin 4} {i : Nat} {x : Nat} (d : decode cc pc = .ok (.aload_n n, 1)) (hi : (n : Nat) = i) (q : Nat) (hq : lv[q]? = some (i, .ref x)) (k : sh_K G sh (pc + 1) lv (.ref x :: st) σ) : sh_K G sh pc lv st σ := fun H locs ls hP hS hl => lv_aload_n h.1 h.2.1 d hi (sh_lv hl q hq) (k H locs ls hP hS hl)
theorem k_aload (h : sh_ok G cc own sh) {i : Nat} {x : Nat} (d : decode cc pc = .ok (.aload i, 2)) (q : Nat) (hq : lv[q]? = some (i, .ref x)) (k : sh_K G sh (pc + 2) lv (.ref x :: st) σ) : sh_K G sh pc lv st σ := fun H locs ls hP hS hl => lv_aload h.1 h.2.1 d (sh_lv hl q hq) (k H locs ls hP hS hl)
theorem k_istore_n (h : sh_ok G cc own sh) {n : Fin 4} {i : Nat} {x : Int32} (d : decode cc pc = .ok (.istore_n n, 1)) (hi : (n : Nat) = i) (hn : i < gn G) (hl2 : sh_ins (i, .int x) (lv.filter (sh_cl i)) = lv') (k : sh_K G sh (pc + 1) lv' st σ) : sh_K G sh pc lv (.int x :: st) σ := fun H locs ls hP hS hl => lv_istore_n h.1 h.2.1 d hi hl hn rfl (fun ls' hl' => k H locs ls' hP hS (sh_ins_has (sh_cl_p _ i) hl' hl2))
theorem k_istore (h : sh_ok G cc own sh) {i : Nat} {x : Int32} (d : decode cc pc = .ok (.istore i, 2)) (hn : i < gn G) (hl2 : sh_ins (i, .int x) (lv.filter (sh_cl i)) = lv') (k : sh_K G sh (pc + 2) lv' st σ) : sh_K G sh pc lv (.int x :: st) σ := fun H locs ls hP hS hl => lv_istore h.1 h.2.1 d hl hn rfl (fun ls' hl' => k H locs ls' hP hS (sh_ins_has (sh_cl_p _ i) hl' hl2))
theorem k_astore_n (h : sh_ok G cc own sh) {n : Fin 4} {i : Nat} {x : Nat} (d : decode cc pc = .ok (.astore_n n, 1)) (hi : (n : Nat) = i) (hn : i < gn G) (hl2 : sh_ins (i, .ref x) (lv.filter (sh_cl i)) = lv') (k : sh_K G sh (pc + 1) lv' st σ) : sh_K G sh pc lv (.ref x :: st) σ := fun H locs ls hP hS hl => lv_astore_n h.1 h.2.1 d hi hl hn rfl (fun ls' hl' => k H locs ls' hP hS (sh_ins_has (sh_cl_p _ i) hl' hl2))
theorem k_astore (h : sh_ok G cc own sh) {i : Nat} {x : Nat} (d : decode cc pc = .ok (.astore i, 2)) (hn : i < gn G) (hl2 : sh_ins (i, .ref x) (lv.filter (sh_cl i)) = lv') (k : sh_K G sh (pc + 2) lv' st σ) : sh_K G sh pc lv (.ref x :: st) σ := fun H locs ls hP hS hl => lv_astore h.1 h.2.1 d hl hn rfl (fun ls' hl' => k H locs ls' hP hS (sh_ins_has (sh_cl_p _ i) hl' hl2))
theorem k_lstore_n (h : sh_ok G cc own sh) {n : Fin 4} {i : Nat} {x : Int64} (d : decode cc pc = .ok (.lstore_n n, 1)) (hi : (n : Nat) = i) (hn : i + 1 < gn G) (hl2 : sh_ins (i, .long x) (lv.filter (sh_cm i)) = lv') (k : sh_K G sh (pc + 1) lv' st σ) : sh_K G sh pc lv (.long x :: st) σ := fun H locs ls hP hS hl => lv_lstore_n h.1 h.2.1 d hi hl hn rfl (fun ls' hl' => k H locs ls' hP hS (sh_ins_has (sh_cm_p _ i) hl' hl2))
theorem k_lstore (h : sh_ok G cc own sh) {i : Nat} {x : Int64} (d : decode cc pc = .ok (.lstore i, 2)) (hn : i + 1 < gn G) (hl2 : sh_ins (i, .long x) (lv.filter (sh_cm i)) = lv') (k : sh_K G sh (pc + 2) lv' st σ) : sh_K G sh pc lv (.long x :: st) σ := fun H locs ls hP hS hl => lv_lstore h.1 h.2.1 d hl hn rfl (fun ls' hl' => k H locs ls' hP hS (sh_ins_has (sh_cm_p _ i) hl' hl2))
theorem k_iinc (h : sh_ok G cc own sh) {i : Nat} {n : Int} {x v : Int32} (d : decode cc pc = .ok (.iinc i n, 3)) (q : Nat) (hq : lv[q]? = some (i, .int x)) (hv : x + Int32.ofInt n = v) (hn : i < gn G) (hl2 : sh_ins (i, .int v) (lv.filter (sh_cl i)) = lv') (k : sh_K G sh (pc + 3) lv' st σ) : sh_K G sh pc lv st σ := fun H locs ls hP hS hl => lv_iinc (k := q) h.1 h.2.1 d hl (by rw [List.getElem?_map, hq]; rfl) hv hn rfl (fun ls' hl' => k H locs ls' hP hS (sh_ins_has (sh_cl_p _ i) hl' hl2))
theorem k_if_eq (h : sh_ok G cc own sh) {x : Int32} {off : Int} {tgt : Nat} (d : decode cc pc = .ok (.ifCond .eq off, 3)) (ht : (pc : Int) + off = (tgt : Int)) (kt : x = 0 → sh_K G sh tgt lv st σ) (kf : ¬ x = 0 → sh_K G sh (pc + 3) lv st σ) : sh_K G sh pc lv (.int x :: st) σ := fun H locs ls hP hS hl => lv_if_eq h.1 h.2.1 d ht (fun e => kt e H locs ls hP hS hl) (fun e => kf e H locs ls hP hS hl)
theorem k_icmp_eq (h : sh_ok G cc own sh) {x y : Int32} {off : Int} {tgt : Nat} (d : decode cc pc = .ok (.if_icmp .eq off, 3)) (ht : (pc : Int) + off = (tgt : Int)) (kt : x = y → sh_K G sh tgt lv st σ) (kf : ¬ x = y → sh_K G sh (pc + 3) lv st σ) : sh_K G sh pc lv (.int y :: .int x :: st) σ := fun H locs ls hP hS hl => lv_icmp_eq h.1 h.2.1 d ht (fun e => kt e H locs ls hP hS hl) (fun e => kf e H locs ls hP hS hl)
theorem k_if_ne (h : sh_ok G cc own sh) {x : Int32} {off : Int} {tgt : Nat} (d : decode cc pc = .ok (.ifCond .ne off, 3)) (ht : (pc : Int) + off = (tgt : Int)) (kt : ¬ x = 0 → sh_K G sh tgt lv st σ) (kf : x = 0 → sh_K G sh (pc + 3) lv st σ) : sh_K G sh pc lv (.int x :: st) σ := fun H locs ls hP hS hl => lv_if_ne h.1 h.2.1 d ht (fun e => kt e H locs ls hP hS hl) (fun e => kf e H locs ls hP hS hl)
theorem k_icmp_ne (h : sh_ok G cc own sh) {x y : Int32} {off : Int} {tgt : Nat} (d : decode cc pc = .ok (.if_icmp .ne off, 3)) (ht : (pc : Int) + off = (tgt : Int)) (kt : ¬ x = y → sh_K G sh tgt lv st σ) (kf : x = y → sh_K G sh (pc + 3) lv st σ) : sh_K G sh pc lv (.int y :: .int x :: st) σ := fun H locs ls hP hS hl => lv_icmp_ne h.1 h.2.1 d ht (fun e => kt e H locs ls hP hS hl) (fun e => kf e H locs ls hP hS hl)
theorem k_if_lt (h : sh_ok G cc own sh) {x : Int32} {off : Int} {tgt : Nat} (d : decode cc pc = .ok (.ifCond .lt off, 3)) (ht : (pc : Int) + off = (tgt : Int)) (kt : x < 0 → sh_K G sh tgt lv st σ) (kf : ¬ x < 0 → sh_K G sh (pc + 3) lv st σ) : sh_K G sh pc lv (.int x :: st) σ := fun H locs ls hP hS hl => lv_if_lt h.1 h.2.1 d ht (fun e => kt e H locs ls hP hS hl) (fun e => kf e H locs ls hP hS hl)
theorem k_icmp_lt (h : sh_ok G cc own sh) {x y : Int32} {off : Int} {tgt : Nat} (d : decode cc pc = .ok (.if_icmp .lt off, 3)) (ht : (pc : Int) + off = (tgt : Int)) (kt : x < y → sh_K G sh tgt lv st σ) (kf : ¬ x < y → sh_K G sh (pc + 3) lv st σ) : sh_K G sh pc lv (.int y :: .int x :: st) σ := fun H locs ls hP hS hl => lv_icmp_lt h.1 h.2.1 d ht (fun e => kt e H locs ls hP hS hl) (fun e => kf e H locs ls hP hS hl)
theorem k_if_ge (h : sh_ok G cc own sh) {x : Int32} {off : Int} {tgt : Nat} (d : decode cc pc = .ok (.ifCond .ge off, 3)) (ht : (pc : Int) + off = (tgt : Int)) (kt : 0 ≤ x → sh_K G sh tgt lv st σ) (kf : ¬ 0 ≤ x → sh_K G sh (pc + 3) lv st σ) : sh_K G sh pc lv (.int x :: st) σ := fun H locs ls hP hS hl => lv_if_ge h.1 h.2.1 d ht (fun e => kt e H locs ls hP hS hl) (fun e => kf e H locs ls hP hS hl)
theorem k_icmp_ge (h : sh_ok G cc own sh) {x y : Int32} {off : Int} {tgt : Nat} (d : decode cc pc = .ok (.if_icmp .ge off, 3)) (ht : (pc : Int) + off = (tgt : Int)) (kt : y ≤ x → sh_K G sh tgt lv st σ) (kf : ¬ y ≤ x → sh_K G sh (pc + 3) lv st σ) : sh_K G sh pc lv (.int y :: .int x :: st) σ := fun H locs ls hP hS hl => lv_icmp_ge h.1 h.2.1 d ht (fun e => kt e H locs ls hP hS hl) (fun e => kf e H locs ls hP hS hl)
theorem k_if_gt (h : sh_ok G cc own sh) {x : Int32} {off : Int} {tgt : Nat} (d : decode cc pc = .ok (.ifCond .gt off, 3)) (ht : (pc : Int) + off = (tgt : Int)) (kt : 0 < x → sh_K G sh tgt lv st σ) (kf : ¬ 0 < x → sh_K G sh (pc + 3) lv st σ) : sh_K G sh pc lv (.int x :: st) σ := fun H locs ls hP hS hl => lv_if_gt h.1 h.2.1 d ht (fun e => kt e H locs ls hP hS hl) (fun e => kf e H locs ls hP hS hl)
theorem k_icmp_gt (h : sh_ok G cc own sh) {x y : Int32} {off : Int} {tgt : Nat} (d : decode cc pc = .ok (.if_icmp .gt off, 3)) (ht : (pc : Int) + off = (tgt : Int)) (kt : y < x → sh_K G sh tgt lv st σ) (kf : ¬ y < x → sh_K G sh (pc + 3) lv st σ) : sh_K G sh pc lv (.int y :: .int x :: st) σ := fun H locs ls hP hS hl => lv_icmp_gt h.1 h.2.1 d ht (fun e => kt e H locs ls hP hS hl) (fun e => kf e H locs ls hP hS hl)
theorem k_if_le (h : sh_ok G cc own sh) {x : Int32} {off : Int} {tgt : Nat} (d : decode cc pc = .ok (.ifCond .le off, 3)) (ht : (pc : Int) + off = (tgt : Int)) (kt : x ≤ 0 → sh_K G sh tgt lv st σ) (kf : ¬ x ≤ 0 → sh_K G sh (pc + 3) lv st σ) : sh_K G sh pc lv (.int x :: st) σ := fun H locs ls hP hS hl => lv_if_le h.1 h.2.1 d ht (fun e => kt e H locs ls hP hS hl) (fun e => kf e H locs ls hP hS hl)
theorem k_icmp_le (h : sh_ok G cc own sh) {x y : Int32} {off : Int} {tgt : Nat} (d : decode cc pc = .ok (.if_icmp .le off, 3)) (ht : (pc : Int) + off = (tgt : Int)) (kt : x ≤ y → sh_K G sh tgt lv st σ) (kf : ¬ x ≤ y → sh_K G sh (pc + 3) lv st σ) : sh_K G sh pc lv (.int y :: .int x :: st) σ := fun H locs ls hP hS hl => lv_icmp_le h.1 h.2.1 d ht (fun e => kt e H locs ls hP hS hl) (fun e => kf e H locs ls hP hS hl)
theorem k_goto (h : sh_ok G cc own sh) {off : Int} {tgt : Nat} (d : decode cc pc = .ok (.goto off, 3)) (ht : (pc : Int) + off = (tgt : Int)) (k : sh_K G sh tgt lv st σ) : sh_K G sh pc lv st σ := fun H locs ls hP hS hl => lv_goto h.1 h.2.1 d ht (k H locs ls hP hS hl)
theorem k_tabIn (h : sh_ok G cc own sh) {dflt lo hi : Int} {offs : Array Int} {len : Nat} {x : Int32} {off : Int} {tgt : Nat} (d : decode cc pc = .ok (.tableswitch dflt lo hi offs, len)) (h1 : ¬ x.toInt < lo) (h2 : ¬ hi < x.toInt) (ho : offs[(x.toInt - lo).toNat]? = some off) (ht : (pc : Int) + off = (tgt : Int)) (k : sh_K G sh tgt lv st σ) : sh_K G sh pc lv (.int x :: st) σ := fun H locs ls hP hS hl => lv_tableIn h.1 h.2.1 d h1 h2 ho ht (k H locs ls hP hS hl)
theorem k_tabOut (h : sh_ok G cc own sh) {dflt lo hi : Int} {offs : Array Int} {len : Nat} {x : Int32} {tgt : Nat} (d : decode cc pc = .ok (.tableswitch dflt lo hi offs, len)) (hx : x.toInt < lo ∨ hi < x.toInt) (ht : (pc : Int) + dflt = (tgt : Int)) (k : sh_K G sh tgt lv st σ) : sh_K G sh pc lv (.int x :: st) σ := fun H locs ls hP hS hl => lv_tableOut h.1 h.2.1 d hx ht (k H locs ls hP hS hl)
theorem k_ldc (h : sh_ok G cc own sh) {idx : Nat} {v : Int32} (d : decode cc pc = .ok (.ldc idx, 2)) (hw : Cond.constant own idx v ∈ tb) (k : sh_K G sh (pc + 2) lv (.int v :: st) σ) : sh_K G sh pc lv st σ := fun H locs ls hP hS hl => lv_ldc h.1 h.2.1 h.2.2.2.1 (h.2.2.2.2.1 _ hw) d (k H locs ls hP hS hl)
theorem k_ldcw (h : sh_ok G cc own sh) {idx : Nat} {v : Int32} (d : decode cc pc = .ok (.ldc_w idx, 3)) (hw : Cond.constant own idx v ∈ tb) (k : sh_K G sh (pc + 3) lv (.int v :: st) σ) : sh_K G sh pc lv st σ := fun H locs ls hP hS hl => lv_ldcw h.1 h.2.1 h.2.2.2.1 (h.2.2.2.2.1 _ hw) d (k H locs ls hP hS hl)
theorem k_ldc2 (h : sh_ok G cc own sh) {idx : Nat} {v : Int64} (d : decode cc pc = .ok (.ldc2_w idx, 3)) (hw : Cond.constantLong own idx v ∈ tb) (k : sh_K G sh (pc + 3) lv (.long v :: st) σ) : sh_K G sh pc lv st σ := fun H locs ls hP hS hl => lv_ldc2 h.1 h.2.1 h.2.2.2.1 (h.2.2.2.2.1 _ hw) d (k H locs ls hP hS hl)

def FL (own : String) (idx ci j : Nat) : Prop := ∃ q : vw_C, vwCl[ci]? = some q ∧ j < q.2.2 ∧ (∀ w ∈ u_ws q.1 q.2.1 q.2.2, w ∈ tb) ∧ Cond.fieldLink own idx (q.2.1 j).1 (q.2.1 j).2.1 (q.2.1 j).2.2.1 ∈ tb
def FP (ci j : Nat) (ty : FieldType) : Prop := ∃ (q : vw_C) (ty0 : Nat → FieldType), vwCl[ci]? = some q ∧ (∀ k, k < q.2.2 → parseFieldDescriptor (q.2.1 k).2.2.1 = some (ty0 k)) ∧ (∀ a, a < q.2.2 → ∀ b, b < q.2.2 → a ≠ b → (q.2.1 a).2.1 ≠ (q.2.1 b).2.1) ∧ (q.2.1 j).2.2.2 = false ∧ parseFieldDescriptor (q.2.1 j).2.2.1 = some ty
theorem k_get (h : sh_ok G cc own sh) {idx ci j k : Nat} {fs : List (Option Nat)} {f : Option Nat} {v : Value} (fl : FL own idx ci j) (hs : sh[k]? = some (.inr (.inl (ci, fs)))) (hf : fs[j]? = some f) (hv : ∀ ad : Nat → Nat, sh_v ad v = sh_g ad (σ k) j f) (d : decode cc pc = .ok (.getfield idx, 3)) (kk : sh_K G sh (pc + 3) lv (v :: st) σ) : sh_K G sh pc lv (.ref k :: st) σ := by
  intro H locs ls hP hS hl
  obtain ⟨⟨C, T, N⟩, hc, hj, hin, hlink⟩ := fl
  have hk := kk H locs ls hP hS hl
  have e : List.map (sh_v (gd G)) (v :: st) = sh_g (gd G) (σ k) j f :: st.map (sh_v (gd G)) := by rw [List.map_cons, hv]
  rw [e] at hk
  exact va_get h.1 h.2.1 h.2.2.2.2.1 hin h.2.2.2.1 h.2.2.2.2.2.1 hP k (sh_at hs) hc j hj (h.2.2.2.2.1 _ hlink) (fun _ z => z) (sh_fget hf) d hk
theorem k_getI (h : sh_ok G cc own sh) {idx ci j k : Nat} {fs : List (Option Nat)} (fl : FL own idx ci j) (hs : sh[k]? = some (.inr (.inl (ci, fs)))) (hf : fs[j]? = some none) (d : decode cc pc = .ok (.getfield idx, 3)) (kk : sh_K G sh (pc + 3) lv (.int (σ k j) :: st) σ) : sh_K G sh pc lv (.ref k :: st) σ := k_get h fl hs hf (fun _ => rfl) d kk
theorem k_getR (h : sh_ok G cc own sh) {idx ci j k k' : Nat} {fs : List (Option Nat)} (fl : FL own idx ci j) (hs : sh[k]? = some (.inr (.inl (ci, fs)))) (hf : fs[j]? = some (some k')) (d : decode cc pc = .ok (.getfield idx, 3)) (kk : sh_K G sh (pc + 3) lv (.ref k' :: st) σ) : sh_K G sh pc lv (.ref k :: st) σ := k_get h fl hs hf (fun _ => rfl) d kk
theorem k_put (h : sh_ok G cc own sh) {idx ci j k : Nat} {fs : List (Option Nat)} {x : Int32} {ty : FieldType} (fl : FL own idx ci j) (fp : FP ci j ty) (hs : sh[k]? = some (.inr (.inl (ci, fs)))) (hf : fs[j]? = some none) (hn : narrow ty (.int x) = .int x) (hft : fits ty (.int x) = true) (d : decode cc pc = .ok (.putfield idx, 3)) (kk : sh_K G sh (pc + 3) lv st (ur σ k (upd (σ k) j x))) : sh_K G sh pc lv (.int x :: .ref k :: st) σ := by
  intro H locs ls hP hS hl
  obtain ⟨⟨C, T, N⟩, hc, hj, hin, hlink⟩ := fl
  obtain ⟨q, ty0, hc2, hty, hnm, hfin, hd⟩ := fp
  cases hc.symm.trans hc2
  have hlen : j < (sh_f (gd G) (σ k) fs).length := by
    unfold sh_f; rw [List.length_mapIdx]; exact (List.getElem?_eq_some_iff.mp hf).1
  refine va_put h.1 h.2.1 h.2.2.2.2.1 hin ty0 hty hnm h.2.2.2.1 h.2.2.2.2.2.1 hP (sh_D h.2.2.2.2.2.2.1) hS k (sh_at hs) hc j hj (h.2.2.2.2.1 _ hlink) (fun _ z => z) hfin hd hn hft hlen d (fun H1 locs1 hP1 _ hS1 => ?_)
  have e : (sh_W (gr G) (gd G) σ sh).set k (gd G k, .inr (ci, (sh_f (gd G) (σ k) fs).set j (.int x))) = sh_W (gr G) (gd G) (ur σ k (upd (σ k) j x)) sh := by
    rw [sh_fset x hf]
    exact sh_set (upd (σ k) j x) hs
  have hP2 : va_P (gD G) vwCl ((sh_W (gr G) (gd G) σ sh).set k (gd G k, .inr (ci, (sh_f (gd G) (σ k) fs).set j (.int x)))) H1 := hP1
  rw [e] at hP2
  exact kk H1 locs1 ls hP2 hS1 hl
abbrev inb (i : Int32) (n : Nat) : Prop := ¬ (i < 0 ∨ n ≤ i.toNatClampNeg)
abbrev ix (i : Int32) : Nat := i.toNatClampNeg
theorem k_iald (h : sh_ok G cc own sh) {k n : Nat} {i : Int32} (hs : sh[k]? = some (.inl (0, n))) (hin : inb i n) (d : decode cc pc = .ok (.iaload, 1)) (kk : sh_K G sh (pc + 1) lv (.int (σ k (ix i)) :: st) σ) : sh_K G sh pc lv (.int i :: .ref k :: st) σ :=
  fun H locs ls hP hS hl => va_iald h.1 h.2.1 h.2.2.2.2.2.1 hP k 0 (sh_at hs) rfl hin d (kk H locs ls hP hS hl)
theorem k_zald (h : sh_ok G cc own sh) {k n : Nat} {i : Int32} (hs : sh[k]? = some (.inl (1, n))) (hin : inb i n) (d : decode cc pc = .ok (.baload, 1)) (kk : sh_K G sh (pc + 1) lv (.int (σ k (ix i)) :: st) σ) : sh_K G sh pc lv (.int i :: .ref k :: st) σ :=
  fun H locs ls hP hS hl => va_zald h.1 h.2.1 h.2.2.2.2.2.1 hP k 1 (sh_at hs) rfl hin d (kk H locs ls hP hS hl)
theorem k_iast (h : sh_ok G cc own sh) {k n : Nat} {i x : Int32} (hs : sh[k]? = some (.inl (0, n))) (hin : inb i n) (d : decode cc pc = .ok (.iastore, 1)) (kk : sh_K G sh (pc + 1) lv st (ur σ k (upd (σ k) (ix i) x))) : sh_K G sh pc lv (.int x :: .int i :: .ref k :: st) σ := by
  intro H locs ls hP hS hl
  refine va_iast h.1 h.2.1 h.2.2.2.2.2.1 hP (sh_D h.2.2.2.2.2.2.1) hS k 0 (sh_at hs) rfl hin d (fun H1 locs1 hP1 _ hS1 => ?_)
  have e := sh_set (ar := gr G) (ad := gd G) (σ := σ) (upd (σ k) (ix i) x) hs
  exact kk H1 locs1 ls (e ▸ hP1) hS1 hl
def nz (x : Int32) : Int32 := vp_nar .boolean x
theorem k_zast (h : sh_ok G cc own sh) {k n : Nat} {i x : Int32} (hs : sh[k]? = some (.inl (1, n))) (hin : inb i n) (d : decode cc pc = .ok (.bastore, 1)) (kk : sh_K G sh (pc + 1) lv st (ur σ k (upd (σ k) (ix i) (nz x)))) : sh_K G sh pc lv (.int x :: .int i :: .ref k :: st) σ := by
  intro H locs ls hP hS hl
  refine va_zast h.1 h.2.1 h.2.2.2.2.2.1 hP (sh_D h.2.2.2.2.2.2.1) hS k 1 (sh_at hs) rfl hin d (fun H1 locs1 hP1 _ hS1 => ?_)
  have e := sh_set (ar := gr G) (ad := gd G) (σ := σ) (upd (σ k) (ix i) (nz x)) hs
  exact kk H1 locs1 ls (e ▸ hP1) hS1 hl
theorem k_aald (h : sh_ok G cc own sh) {k k' : Nat} {rs : List Nat} {i : Int32} (hs : sh[k]? = some (.inr (.inr rs))) (hin : inb i rs.length) (hr : rs[ix i]? = some k') (d : decode cc pc = .ok (.aaload, 1)) (kk : sh_K G sh (pc + 1) lv (.ref k' :: st) σ) : sh_K G sh pc lv (.int i :: .ref k :: st) σ := by
  intro H locs ls hP hS hl
  refine va_aldq (C := RX6) h.1 h.2.1 h.2.2.2.2.2.1 hP k 2 (sh_at hs) rfl hin d ?_
  have hk := kk H locs ls hP hS hl
  have e : va_rf ((rs[i.toNatClampNeg]?).map (gd G)) = .ref (gd G k') := by
    rw [show rs[i.toNatClampNeg]? = some k' from hr]; rfl
  show W _ _ _ _ _ _ _ _ _ _ _ _ _ _ _ (F0 _ _ _ (va_rf ((rs[i.toNatClampNeg]?).map (gd G)) :: _))
  rw [e]
  exact hk
theorem k_drop (ks : List Nat) (hl2 : lv_pick lv ks = lv') (kk : sh_K G sh pc lv' st σ) : sh_K G sh pc lv st σ := by
  intro H locs ls hP hS hl
  refine kk H locs ls hP hS (lv_sub hl ks ?_)
  rw [← hl2]
  unfold lv_pick
  rw [List.map_filterMap]
  congr 1
  funext i
  rw [List.getElem?_map]
theorem k_top {x y : Int32} (e : y = x) (kk : sh_K G sh pc lv (.int y :: st) σ) : sh_K G sh pc lv (.int x :: st) σ := e ▸ kk
theorem k_topl {x y : Int64} (e : y = x) (kk : sh_K G sh pc lv (.long y :: st) σ) : sh_K G sh pc lv (.long x :: st) σ := e ▸ kk
theorem k_heap {σ1 σ2 : sh_S} (e : σ2 = σ1) (kk : sh_K G sh pc lv st σ2) : sh_K G sh pc lv st σ1 := e ▸ kk
theorem k_at {pc' : Nat} (e : pc' = pc) (kk : sh_K G sh pc' lv st σ) : sh_K G sh pc lv st σ := e ▸ kk
end KR
end
section
def rs (em : List Nat) (σ : sh_S) : sh_S := fun k => σ (em.getD k 0)
def mg (em : List Nat) (i : Nat) (σ σ2 : sh_S) : sh_S := match em with
  | [] => σ
  | e :: em => ur (mg em (i + 1) σ σ2) e (σ2 i)
def sh_r (em : Nat → Nat) (s : sh_T) : sh_T := match s with
  | .inl q => .inl q
  | .inr (.inl q) => .inr (.inl (q.1, q.2.map (fun f => f.map em)))
  | .inr (.inr r) => .inr (.inr (r.map em))
abbrev emf (em : List Nat) : Nat → Nat := fun k => em.getD k 0
def emb (em : List Nat) (shc sh : List sh_T) : Prop := em.map (fun i => sh[i]?) = (shc.map (sh_r (emf em))).map some ∧ va_nd em = true
theorem mg_at (σ σ2 : sh_S) : ∀ (em : List Nat) (i k : Nat), (∃ j, em[j]? = some k ∧ mg em i σ σ2 k = σ2 (i + j)) ∨ (k ∉ em ∧ mg em i σ σ2 k = σ k)
  | [], i, k => Or.inr ⟨List.not_mem_nil, rfl⟩
  | e :: em, i, k => by
    by_cases hk : k = e
    · subst hk
      exact Or.inl ⟨0, rfl, by show ur _ k _ k = _; rw [ur_s, Nat.add_zero]⟩
    · rcases mg_at σ σ2 em (i + 1) k with ⟨j, h1, h2⟩ | ⟨h1, h2⟩
      · exact Or.inl ⟨j + 1, h1, by show ur _ e _ k = _; rw [ur_n _ _ hk, h2]; congr 1; omega⟩
      · exact Or.inr ⟨fun h => (List.mem_cons.mp h).elim hk h1, by show ur _ e _ k = _; rw [ur_n _ _ hk, h2]⟩
theorem emb_at {em : List Nat} {shc sh : List sh_T} (h : emb em shc sh) {i : Nat} {s : sh_T} (hs : shc[i]? = some s) : em[i]? = some (emf em i) ∧ sh[emf em i]? = some (sh_r (emf em) s) := by
  have h1 : (em.map (fun i => sh[i]?))[i]? = some (some (sh_r (emf em) s)) := by rw [h.1, List.getElem?_map, List.getElem?_map, hs]; rfl
  rw [List.getElem?_map] at h1
  cases he : em[i]? with
  | none => rw [he] at h1; cases h1
  | some k =>
    rw [he] at h1
    have e : emf em i = k := by show em.getD i 0 = k; rw [List.getD_eq_getElem?_getD, he]; rfl
    rw [e]
    exact ⟨rfl, Option.some.inj h1⟩
theorem emb_of {em : List Nat} {shc sh : List sh_T} (h : emb em shc sh) {i k : Nat} (hk : em[i]? = some k) : emf em i = k ∧ ∃ s, shc[i]? = some s ∧ sh[k]? = some (sh_r (emf em) s) := by
  have e : emf em i = k := by show em.getD i 0 = k; rw [List.getD_eq_getElem?_getD, hk]; rfl
  refine ⟨e, ?_⟩
  have h1 : (em.map (fun i => sh[i]?))[i]? = some (sh[k]?) := by rw [List.getElem?_map, hk]; rfl
  rw [h.1, List.getElem?_map, List.getElem?_map] at h1
  cases hs : shc[i]? with
  | none => rw [hs] at h1; cases h1
  | some s => rw [hs] at h1; exact ⟨s, rfl, (Option.some.inj h1).symm⟩
theorem sh_er (ar : Nat → ClassId) (ad em : Nat → Nat) (g : Nat → Int32) (s : sh_T) : sh_e ar (fun k => ad (em k)) g s = sh_e ar ad g (sh_r em s) := by
  rcases s with q | q | r
  · rfl
  · show Sum.inr (q.1, sh_f _ g q.2) = Sum.inr (q.1, sh_f ad g (q.2.map _))
    congr 2
    apply List.ext_getElem?
    intro i
    unfold sh_f
    rw [List.getElem?_mapIdx, List.getElem?_mapIdx, List.getElem?_map]
    cases q.2[i]? with
    | none => rfl
    | some f => cases f <;> rfl
  · have e : (fun j => (r[j]?).map (fun k => ad (em k))) = (fun j : Nat => ((r.map em)[j]?).map ad) := by
      funext j
      rw [List.getElem?_map, Option.map_map]
      rfl
    show Sum.inl (ar 2, r.length, Sum.inr (Sum.inr (Sum.inr (Sum.inr (fun j => (r[j]?).map (fun k => ad (em k))))))) = Sum.inl (ar 2, (r.map em).length, Sum.inr (Sum.inr (Sum.inr (Sum.inr (fun j => ((r.map em)[j]?).map ad)))))
    rw [List.length_map, e]
theorem sh_vr (ad em : Nat → Nat) (v : Value) : sh_v (fun k => ad (em k)) v = sh_v ad (sh_v em v) := by cases v <;> rfl
section EM
variable {D : va_G} {ar : Nat → ClassId} {ad : Nat → Nat} {em : List Nat} {shc sh : List sh_T} {σ σ2 : sh_S} {H H1 : Heap} {A : Nat → Prop}
theorem emb_P (hE : emb em shc sh) (hP : va_P D vwCl (sh_W ar ad σ sh) H) : va_P D vwCl (sh_W ar (fun k => ad (emf em k)) (rs em σ) shc) H := by
  intro i q hq
  obtain ⟨s, hs, rfl⟩ := sh_of hq
  obtain ⟨-, h2⟩ := emb_at hE hs
  have h3 := hP _ _ (sh_at h2)
  rw [sh_er]
  exact h3
theorem emb_D (hE : emb em shc sh) (hD : va_D A (sh_W ar ad σ sh)) : va_D A (sh_W ar (fun k => ad (emf em k)) (rs em σ) shc) := by
  refine ⟨fun i j p q hi hj hpq => ?_, fun k q hk => ?_⟩
  · obtain ⟨s1, a1, rfl⟩ := sh_of hi
    obtain ⟨s2, a2, rfl⟩ := sh_of hj
    obtain ⟨b1, c1⟩ := emb_at hE a1
    obtain ⟨b2, c2⟩ := emb_at hE a2
    have := hD.1 _ _ _ _ (sh_at c1) (sh_at c2) hpq
    rw [← this] at b2
    exact va_nd_inj em hE.2 i j _ b1 b2
  · obtain ⟨s1, a1, rfl⟩ := sh_of hk
    obtain ⟨b1, c1⟩ := emb_at hE a1
    have h9 := hD.2 _ _ (sh_at (ar := ar) (ad := ad) (σ := σ) c1)
    exact h9
theorem emb_A (hE : emb em shc sh) (hD : va_D A (sh_W ar ad σ sh)) (hA : ∀ q, H.size ≤ q → A q) : ∀ q, va_A (sh_W ar (fun k => ad (emf em k)) (rs em σ) shc) H.size q → A q := by
  intro q h
  rcases h with ⟨k, e, h⟩ | h
  · exact (emb_D hE hD).2 k _ h
  · exact hA q h
theorem emb_back (hE : emb em shc sh) (hP : va_P D vwCl (sh_W ar ad σ sh) H) (hD : va_D A (sh_W ar ad σ sh)) (hk : ∀ q : Nat, q < H.size → ¬ va_A (sh_W ar (fun k => ad (emf em k)) (rs em σ) shc) H.size q → H1[q]? = H[q]?)
    (hP1 : va_P D vwCl (sh_W ar (fun k => ad (emf em k)) σ2 shc) H1) : va_P D vwCl (sh_W ar ad (mg em 0 σ σ2) sh) H1 := by
  intro k q hq
  obtain ⟨s, hs, rfl⟩ := sh_of hq
  rcases mg_at σ σ2 em 0 k with ⟨j, h1, h2⟩ | ⟨h1, h2⟩
  · obtain ⟨e, s', h3, h4⟩ := emb_of hE h1
    rw [hs] at h4
    have h5 := hP1 _ _ (sh_at h3)
    rw [sh_er] at h5
    rw [h2, Nat.zero_add, Option.some.inj h4]
    rw [e] at h5
    exact h5
  · have h3 := hP k _ (sh_at hs)
    rw [h2]
    refine h3.kept (hk _ h3.lt (fun hx => ?_))
    rcases hx with ⟨i, e, hx⟩ | hx
    · obtain ⟨s', h5, h6⟩ := sh_of hx
      obtain ⟨h7, h8⟩ := emb_at hE h5
      have h9 : ad k = ad (emf em i) := congrArg Prod.fst h6
      have := hD.1 _ _ _ _ (sh_at (σ := σ) hs) (sh_at h8) h9
      rw [← this] at h7
      exact h1 (List.mem_of_getElem? h7)
    · exact absurd h3.lt (Nat.not_lt.mpr hx)
end EM
def Cq (D : va_G) (ar : Nat → ClassId) (ad : Nat → Nat) (sh : List sh_T) (wc : va_W) (sz : Nat) (r : Option Value) (σ' : sh_S) : Array Value → State → Outcome → State → Prop := fun _ st oc t => (oc = .returned (r.map (sh_v ad)) ∧ va_P D vwCl (sh_W ar ad σ' sh) t.heap) ∧ va_F (va_A wc sz) st t
def Cp (D : va_G) (ar : Nat → ClassId) (ad : Nat → Nat) (sh : List sh_T) (av : List Value) (σ : sh_S) (sz : Nat) : Array Value → State → Prop := va_Pc (av.map (sh_v ad)) (fun U => U.heap.size = sz ∧ va_P D vwCl (sh_W ar ad σ sh) U.heap ∧ va_K D vwCl (sh_t ar) U ∧ va_D (fun _ => True) (sh_W ar ad σ sh) ∧ nsOk U)
def Ctr (y : MethodName) (bytes : ByteArray) (mL : Nat) (ret : Option FieldType) (rm : Room) (sh : List sh_T) (av : List Value) (σ : sh_S) (r : Option Value) (σ' : sh_S) : Prop :=
  ∀ (l : Launch) (D : va_G) (ar : Nat → ClassId) (ad : Nat → Nat) (sz : Nat), Met l y (.code y bytes mL ret :: tb) rm (Cp D ar ad sh av σ sz) (Cq D ar ad sh (sh_W ar ad σ sh) sz r σ') 0 0 (va_A (sh_W ar ad σ sh) sz)
theorem Cp_blind {D : va_G} {ar : Nat → ClassId} {ad : Nat → Nat} {sh : List sh_T} {av : List Value} {σ : sh_S} {sz : Nat} : FrameBlind (Cp D ar ad sh av σ sz) := fun a U g mk q => by
  obtain ⟨q0, q1, qP, qK, qD, qN⟩ := q
  exact ⟨q0, q1, qP, va_K.moved (u := U) (U := U.calling g mk a) (Vm.Alike.refl U.vm) qK, qD, nsOk.same (s := U) (U := U.calling g mk a) rfl qN⟩
def CV (own : String) (idx ci : Nat) (y : MethodName) (bytes : ByteArray) (mL : Nat) (ret : Option FieldType) (n : Nat) : Prop := ∃ q : vw_C, vwCl[ci]? = some q ∧ y.cls = q.1 ∧ (y.cls ≠ "java/lang/invoke/MethodHandle" ∧ y.cls ≠ "java/lang/invoke/VarHandle" ∧ (parseMethodDescriptor y.desc).map (fun d => d.parameters.length) = some n) ∧ Cond.methodLink own idx y ∈ tb ∧ Cond.instanceMethod y ∈ tb ∧ Cond.selects y.cls y y ∈ tb ∧ Cond.initialized y.cls ∈ tb ∧ Cond.code y bytes mL ret ∈ tb
def CS (own : String) (idx : Nat) (y : MethodName) (bytes : ByteArray) (mL : Nat) (ret : Option FieldType) (n : Nat) : Prop := (y.cls ≠ "java/lang/invoke/MethodHandle" ∧ y.cls ≠ "java/lang/invoke/VarHandle" ∧ (parseMethodDescriptor y.desc).map (fun d => d.parameters.length) = some n) ∧ Cond.methodLink own idx y ∈ tb ∧ Cond.static y ∈ tb ∧ Cond.initialized y.cls ∈ tb ∧ Cond.code y bytes mL ret ∈ tb
def CN (own : String) (idx : Nat) (y : MethodName) (bytes : ByteArray) (mL : Nat) (ret : Option FieldType) (n : Nat) : Prop := (y.cls ≠ "java/lang/invoke/MethodHandle" ∧ y.cls ≠ "java/lang/invoke/VarHandle" ∧ (parseMethodDescriptor y.desc).map (fun d => d.parameters.length) = some n) ∧ (own, idx, y, RX9) ∈ nsQ ∧ Cond.static y ∈ tb ∧ Cond.initialized y.cls ∈ tb ∧ Cond.code y bytes mL ret ∈ tb
section KC
variable {G : sh_G} {cc : ByteArray} {own : String} {sh shc : List sh_T} {pc : Nat} {lv : List (Nat × Value)} {st st0 : List Value} {σ σ2 : sh_S} {em : List Nat} {y : MethodName} {bytes : ByteArray} {mL idx n ci : Nat} {ret : Option FieldType} {rm : Room} {av : List Value} {r : Option Value}
theorem k_run (h : sh_ok G cc own sh) (hE : emb em shc sh) {aa : Array Value}
    (hr : ∀ (H : Heap) (locs : List Loc) (ls : Array Slot), va_P (gD G) vwCl (sh_W (gr G) (gd G) σ sh) H → va_S (gA G) (gs G).heap H locs → ls.size = gn G →
      va_Run (gp G) (gl G) (ge G) (gR G) (gs G) (gm G) (ga G) (gb G) (gM G) (gc G) H locs 0 0 0 0 (F0 (gm G) pc ls (st0.map (sh_v (gd G)))) (st.map (sh_v (gd G))) (Cq (gD G) (gr G) (fun k => gd G (emf em k)) shc (sh_W (gr G) (fun k => gd G (emf em k)) (rs em σ) shc) H.size r σ2 aa) (va_A (sh_W (gr G) (fun k => gd G (emf em k)) (rs em σ) shc) H.size))
    (kk : sh_K G sh (pc + 3) lv ((r.map (sh_v (emf em))).toList ++ st) (mg em 0 σ σ2)) : sh_K G sh pc lv st0 σ := by
  intro H locs ls hP hS hl T hT X
  have hD : va_D (gA G) (sh_W (gr G) (gd G) σ sh) := sh_D h.2.2.2.2.2.2.1
  have hA : ∀ q, H.size ≤ q → gA G q := fun q hq => h.2.2.2.2.2.2.2.2 q (Nat.le_trans hS.1 hq)
  have hF := emb_A hE hD hA
  obtain ⟨v, st₀, t, T', L, h0, X', hL, e1, e2, ⟨⟨hv, hB⟩, hz, hk⟩, sp⟩ := hr H locs ls hP hS hl.1 T hT X
  rw [h0] at hz hk
  rw [← e1] at hz hk hB
  have hP1 := emb_back hE hP hD hk hB
  have hv2 : v = r.map (sh_v (fun k => gd G (emf em k))) := by
    injection hv
  have hst : (v.toList ++ st.map (sh_v (gd G))) = ((r.map (sh_v (emf em))).toList ++ st).map (sh_v (gd G)) := by
    rw [hv2, List.map_append]
    congr 1
    cases r with
    | none => rfl
    | some x => show [sh_v (fun k => gd G (emf em k)) x] = [sh_v (gd G) (sh_v (emf em) x)]; rw [sh_vr]
  obtain ⟨t2, a1, b1⟩ := kk T'.heap (locs ++ L) ls hP1 ⟨Nat.le_trans hS.1 hz, fun q h1 h2 => by
      rw [hk q (Nat.lt_of_lt_of_le h1 hS.1) (fun z => h2 (hF q z))]
      exact hS.2.1 q h1 h2, fun q hq => by
      rcases List.mem_append.mp hq with h | h
      · exact hS.2.2 q h
      · exact hF _ (hL q h)⟩ hl T' rfl X'
  rw [← hst] at a1
  exact ⟨t2, sp t2 a1, b1⟩
theorem k_pre (h : sh_ok G cc own sh) (hE : emb em shc sh) {H : Heap} (hP : va_P (gD G) vwCl (sh_W (gr G) (gd G) σ sh) H) (U : State) (hU : U.heap = H) (hW : (gs G).WarmedH U.vm) : Cp (gD G) (gr G) (fun k => gd G (emf em k)) shc av (rs em σ) H.size (av.map (sh_v (fun k => gd G (emf em k)))).toArray U :=
  ⟨rfl, by rw [hU], by rw [hU]; exact emb_P hE hP, va_K.moved hW.alike h.2.2.2.2.2.1, (emb_D hE (sh_D h.2.2.2.2.2.2.1)).weaken (fun _ _ _ _ => trivial), nsOk.warm hW h.2.2.2.2.2.2.2.1⟩
theorem k_fix (h : sh_ok G cc own sh) : CallFix (gp G) (gm G) (gc G) cc (gn G) (gs G) (ga G) tb own := ⟨h.1, h.2.1, h.2.2.1, h.2.2.2.1, h.2.2.2.2.1⟩
theorem k_avm (av : List Value) (em : List Nat) (ad : Nat → Nat) : av.map (sh_v (fun k => ad (emf em k))) = (av.map (sh_v (emf em))).map (sh_v ad) := by
  rw [List.map_map]
  exact List.map_congr_left (fun v _ => sh_vr ad (emf em) v)
theorem k_callS (h : sh_ok G cc own sh) (cs : CS own idx y bytes mL ret n) (hc : Ctr y bytes mL ret rm shc av (rs em σ) r σ2) (hE : emb em shc sh) (hn : av.length = n) (hst : (av.map (sh_v (emf em))).reverse ++ st = st0) (hrm : rm.cells = 0 ∧ rm.slots = 0) (hR : rm.frames + 1 ≤ (gR G).frames ∧ 8 + (mL + 11) + rm.locals ≤ (gR G).locals) (h8 : (st.map fun v => v.category).sum ≤ 8) (d : decode cc pc = .ok (.invokestatic idx, 3))
    (kk : sh_K G sh (pc + 3) lv ((r.map (sh_v (emf em))).toList ++ st) (mg em 0 σ σ2)) : sh_K G sh pc lv st0 σ := by
  obtain ⟨hd, hl, hs, hi, hco⟩ := cs
  refine k_run h hE (r := r) (aa := (av.map (sh_v (fun k => gd G (emf em k)))).toArray) (fun H locs ls hP hS hsz => ?_) kk
  have hw := h.2.2.2.2.1
  refine va_runS (As := av.map (sh_v (fun k => gd G (emf em k)))) (k_fix h) (hc (gl G) (gD G) (gr G) (fun k => gd G (emf em k)) H.size) ⟨callB_of n hw (tb_GI (fun _ z => z) hco) rfl hrm.1 hrm.2 (hw _ hi) (hw _ hl) hd hR, hw _ hs⟩ ⟨Cp_blind, fun U hU hW => k_pre h hE hP U hU hW⟩ rfl (by rw [List.length_map]; exact hn) hsz ?_ (lv_room (by rw [List.map_map]; exact (show _ = (st.map fun v => v.category).sum from congrArg List.sum (List.map_congr_left (fun v _ => sh_v_cat _ v))) ▸ h8)) d ⟨Nat.zero_le _, Nat.zero_le _⟩
  show st0.map _ = _
  rw [← hst, k_avm, List.map_append, List.map_reverse]
theorem k_callN (h : sh_ok G cc own sh) (cs : CN own idx y bytes mL ret n) (hc : Ctr y bytes mL ret rm shc av (rs em σ) r σ2) (hE : emb em shc sh) (hn : av.length = n) (hst : (av.map (sh_v (emf em))).reverse ++ st = st0) (hrm : rm.cells = 0 ∧ rm.slots = 0) (hR : rm.frames + 1 ≤ (gR G).frames ∧ 8 + (mL + 11) + rm.locals ≤ (gR G).locals) (h8 : (st.map fun v => v.category).sum ≤ 8) (d : decode cc pc = .ok (.invokestatic idx, 3))
    (kk : sh_K G sh (pc + 3) lv ((r.map (sh_v (emf em))).toList ++ st) (mg em 0 σ σ2)) : sh_K G sh pc lv st0 σ := by
  obtain ⟨hd, hl, hs, hi, hco⟩ := cs
  refine k_run h hE (r := r) (aa := (av.map (sh_v (fun k => gd G (emf em k)))).toArray) (fun H locs ls hP hS hsz => ?_) kk
  have hw := h.2.2.2.2.1
  refine va_runSN (As := av.map (sh_v (fun k => gd G (emf em k)))) (k_fix h) (hc (gl G) (gD G) (gr G) (fun k => gd G (emf em k)) H.size) ⟨va_cnB n hw (tb_GI (fun _ z => z) hco) rfl hrm.1 hrm.2 (h.2.2.2.2.2.2.2.1 _ hl) (hw _ hi) hd hR, hw _ hs, trivial⟩ ⟨Cp_blind, fun U hU hW => k_pre h hE hP U hU hW⟩ rfl (by rw [List.length_map]; exact hn) hsz ?_ (lv_room (by rw [List.map_map]; exact (show _ = (st.map fun v => v.category).sum from congrArg List.sum (List.map_congr_left (fun v _ => sh_v_cat _ v))) ▸ h8)) d ⟨Nat.zero_le _, Nat.zero_le _⟩
  show st0.map _ = _
  rw [← hst, k_avm, List.map_append, List.map_reverse]
theorem k_callV (h : sh_ok G cc own sh) (cs : CV own idx ci y bytes mL ret n) {k0 : Nat} {fs : List (Option Nat)} {as : List Value} (hc : Ctr y bytes mL ret rm shc (.ref k0 :: as) (rs em σ) r σ2) (hE : emb em shc sh) (hk : sh[emf em k0]? = some (.inr (.inl (ci, fs)))) (hn : as.length = n) (hst : (as.map (sh_v (emf em))).reverse ++ .ref (emf em k0) :: st = st0) (hrm : rm.cells = 0 ∧ rm.slots = 0) (hR : rm.frames + 1 ≤ (gR G).frames ∧ 8 + (mL + 11) + rm.locals ≤ (gR G).locals) (h8 : (st.map fun v => v.category).sum ≤ 8) (d : decode cc pc = .ok (.invokevirtual idx, 3))
    (kk : sh_K G sh (pc + 3) lv ((r.map (sh_v (emf em))).toList ++ st) (mg em 0 σ σ2)) : sh_K G sh pc lv st0 σ := by
  obtain ⟨q, hq, hy, hd, hl, hin, hse, hi, hco⟩ := cs
  refine k_run h hE (r := r) (aa := ((Value.ref (gd G (emf em k0))) :: as.map (sh_v (fun k => gd G (emf em k)))).toArray) (fun H locs ls hP hS hsz => ?_) kk
  have hw := h.2.2.2.2.1
  refine va_runV (C := y.cls) (b := gd G (emf em k0)) (As := as.map (sh_v (fun k => gd G (emf em k)))) (k_fix h) (hc (gl G) (gD G) (gr G) (fun k => gd G (emf em k)) H.size) ⟨callB_of n hw (tb_GI (fun _ z => z) hco) rfl hrm.1 hrm.2 (hw _ hi) (hw _ hl) hd hR, hw _ hin, hw _ hse⟩ ⟨Cp_blind, ?_, fun U hU hW => k_pre h hE hP U hU hW⟩ rfl (by rw [List.length_map]; exact hn) hsz ?_ (lv_room (by rw [List.map_map]; exact (show _ = (st.map fun v => v.category).sum from congrArg List.sum (List.map_congr_left (fun v _ => sh_v_cat _ v))) ▸ h8)) d ⟨Nat.zero_le _, Nat.zero_le _⟩
  · rw [hy]
    exact va_recv h.2.2.2.2.2.1 hP hq (sh_at hk)
  · show st0.map _ = _
    rw [← hst, k_avm, List.map_append, List.map_reverse]
    rfl
end KC
end
section
theorem lv_args_p (ad : Nat → Nat) : ∀ (av : List Value) (i : Nat), lv_args i (av.map (sh_v ad)) = (lv_args i av).map (sh_p ad)
  | [], _ => rfl
  | v :: vs, i => by
    show (i, sh_v ad v) :: lv_args (if (sh_v ad v).category = 2 then i + 2 else i + 1) (vs.map (sh_v ad)) = sh_p ad (i, v) :: (lv_args (if v.category = 2 then i + 2 else i + 1) vs).map (sh_p ad)
    rw [sh_v_cat, lv_args_p ad vs]
    rfl
theorem lg_sl_p (ad : Nat → Nat) (av : List Value) : (lg_sl (av.map (sh_v ad))).length = (lg_sl av).length := by
  unfold lg_sl
  induction av with
  | nil => rfl
  | cons v vs ih =>
    simp only [List.map_cons, List.flatMap_cons, List.length_append, ih, sh_v_cat]
    congr 1
    split <;> rfl
def Rt (bytes : ByteArray) (ret : Option FieldType) (ri : Instr) (r : Option Value) (C : Prop) : Prop := C → ∀ (ad : Nat → Nat) (p : Program) (l : Launch) (e : Env) (R : Room) (s : State) (m : MethodId) (args : Array Value) (below : List Frame) (meth : Method) (c : Code) (H : Heap) (locs : List Loc) (Qc : Array Value → State → Outcome → State → Prop) (free : Addr → Prop) (pc : Nat) (ls : Array Slot), p.tables.exec = Jvm.exec → c.code = bytes → meth.sig.returnType = ret → meth.locks = false → (∀ t : State, t.heap = H → s.WarmedH t.vm → Qc args s (.returned (r.map (sh_v ad))) t) → (∀ q ∈ locs, free q.base) → decode bytes pc = .ok (ri, 1) → W p l e R s m args below meth c H locs 0 0 (MQ below Qc args s 0 0 free) (F0 m pc ls (r.toList.map (sh_v ad)))
theorem Rt_i {bytes : ByteArray} (x : Int32) : Rt bytes (some .int) .ireturn (some (.int x)) True := by
  intro _ ad p l e R s m args below meth c H locs Qc free pc ls hx hb hr hlk hq hf d
  exact W.iret hx hb hr hq hf d hlk
theorem Rt_z {bytes : ByteArray} (x : Int32) : Rt bytes (some .boolean) .ireturn (some (.int x)) (x = 0 ∨ x = 1) := by
  intro hz ad p l e R s m args below meth c H locs Qc free pc ls hx hb hr hlk hq hf d
  exact W.zret hx hb hr (by rcases hz with rfl | rfl <;> rfl) hq hf d hlk
theorem Rt_l {bytes : ByteArray} (x : Int64) : Rt bytes (some .long) .lreturn (some (.long x)) True := by
  intro _ ad p l e R s m args below meth c H locs Qc free pc ls hx hb hr hlk hq hf d
  exact W.lret hx hb hr hq hf d hlk
theorem Rt_v {bytes : ByteArray} : Rt bytes none .return_ none True := by
  intro _ ad p l e R s m args below meth c H locs Qc free pc ls hx hb hr hlk hq hf d
  exact W.vret hx hb hr hq hf d hlk
theorem Rt_a {bytes : ByteArray} {C : String} (k : Nat) : Rt bytes (some (.object C)) .areturn (some (.ref k)) True := by
  intro _ ad p l e R s m args below meth c H locs Qc free pc ls hx hb hr hlk hq hf d
  exact W.aret hx hb hr (Or.inl ⟨_, rfl⟩) (Or.inr ⟨_, rfl⟩) hq hf d hlk
theorem Ctr.mk {y : MethodName} {bytes : ByteArray} {mL : Nat} {ret : Option FieldType} {rm : Room} {sh : List sh_T} {av : List Value} {σ : sh_S} {r : Option Value} {σ' : sh_S} {ri : Instr} {C : Prop} (hy : plainName y.cls = true) (hlen : (lg_sl av).length ≤ mL) (hrt : Rt bytes ret ri r C)
    (body : ∀ G : sh_G, sh_ok G bytes y.cls sh → gn G = mL → gR G = rm → (∀ (pc : Nat) (lv : List (Nat × Value)), decode bytes pc = .ok (ri, 1) → C → sh_K G sh pc lv r.toList σ') → sh_K G sh 0 (lv_args 0 av) [] σ) : Ctr y bytes mL ret rm sh av σ r σ' := by
  intro l D ar ad sz
  refine Met.ofW (cc := bytes) (maxL := mL) (ret := ret) hy rfl ?_
  intro p e s m args below meth c s₁ B hml hv
  obtain ⟨rfl, hsz, hP, hK, hD0, hN⟩ := hv
  subst hsz
  have hts := atoms_spec (ws := .code y bytes mL ret :: tb) B.pre
  have hown : s.vm.findClass y.cls = some m.cls := findClass_of_methodNamed B.named
  have hl := lv_entry (av.map (sh_v ad)) (n := mL) (by rw [lg_sl_p]; exact hlen)
  rw [lv_args_p] at hl
  rw [lg_entry_eq]
  have key := body (p, l, e, rm, s, m, (av.map (sh_v ad)).toArray, below, meth, c, MQ below (Cq D ar ad sh (sh_W ar ad σ sh) s.heap.size r σ') (av.map (sh_v ad)).toArray s 0 0 (va_A (sh_W ar ad σ sh) s.heap.size), D, ar, ad, va_A (sh_W ar ad σ sh) s.heap.size, mL)
    ⟨B.exec, B.bytes, hml, hown, fun w hw => hts w (List.mem_cons_of_mem _ hw), hK, sh_D hD0.self, hN, fun q h => Or.inr h⟩ rfl rfl
    (fun pc lv d hC H locs ls hP1 hS1 hl1 => hrt hC ad p l e rm s m _ below meth c H locs _ _ pc ls B.exec B.bytes B.returns B.notSynchronized (fun t ht hW => ⟨⟨rfl, by rw [ht]; exact hP1⟩, hS1.F ht⟩) hS1.2.2 d)
  exact key s.heap [] _ hP va_S.rf hl
def gu {α : Type} (c : Prop) [Decidable c] (t : Option α) : Option α := if c then t else none
def lb {α β : Type} (a : α) (f : α → β) : β := f a
def ob {α β : Type} (x : Option α) (f : α → Option β) : Option β := match x with
  | some a => f a
  | none => none
def ob2 {α β γ : Type} (x : Option (α × β)) (f : α → β → Option γ) : Option γ := match x with
  | some q => f q.1 q.2
  | none => none
def ob3 {α β γ δ : Type} (x : Option (α × β × γ)) (f : α → β → γ → Option δ) : Option δ := match x with
  | some q => f q.1 q.2.1 q.2.2
  | none => none
def ob4 {α β γ δ ε : Type} (x : Option (α × β × γ × δ)) (f : α → β → γ → δ → Option ε) : Option ε := match x with
  | some q => f q.1 q.2.1 q.2.2.1 q.2.2.2
  | none => none
def ob5 {α β γ δ ε ζ : Type} (x : Option (α × β × γ × δ × ε)) (f : α → β → γ → δ → ε → Option ζ) : Option ζ := match x with
  | some q => f q.1 q.2.1 q.2.2.1 q.2.2.2.1 q.2.2.2.2
  | none => none
def lp {S E : Type} (body : S → Option (S ⊕ E)) (n : Nat) (s : S) : Option E := match n with
  | 0 => none
  | n + 1 => match body s with
    | none => none
    | some (.inl s') => lp body n s'
    | some (.inr e) => some e
def FU : Nat := 6000
theorem gu_s {α : Type} {c : Prop} [Decidable c] {t : Option α} {r : α} (h : gu c t = some r) : c ∧ t = some r := by
  unfold gu at h
  split at h
  · exact ⟨by assumption, h⟩
  · cases h
theorem lb_s {α β : Type} {a : α} {f : α → β} {r : β} (h : lb a f = r) : ∃ v, v = a ∧ f v = r := ⟨a, rfl, h⟩
theorem it_p {α : Type} {c : Prop} [Decidable c] {t e r : α} (hc : c) (h : (if c then t else e) = r) : t = r := by rw [if_pos hc] at h; exact h
theorem it_n {α : Type} {c : Prop} [Decidable c] {t e r : α} (hc : ¬ c) (h : (if c then t else e) = r) : e = r := by rw [if_neg hc] at h; exact h
theorem ob_s {α β : Type} {x : Option α} {f : α → Option β} {r : β} (h : ob x f = some r) : ∃ a, x = some a ∧ f a = some r := by
  cases x with
  | none => cases h
  | some a => exact ⟨a, rfl, h⟩
theorem ob2_s {α β γ : Type} {x : Option (α × β)} {f : α → β → Option γ} {r : γ} (h : ob2 x f = some r) : ∃ a b, x = some (a, b) ∧ f a b = some r := by
  cases x with
  | none => cases h
  | some a => exact ⟨a.1, a.2, rfl, h⟩
theorem ob3_s {α β γ δ : Type} {x : Option (α × β × γ)} {f : α → β → γ → Option δ} {r : δ} (h : ob3 x f = some r) : ∃ a b c, x = some (a, b, c) ∧ f a b c = some r := by
  cases x with
  | none => cases h
  | some a => exact ⟨a.1, a.2.1, a.2.2, rfl, h⟩
theorem ob4_s {α β γ δ ε : Type} {x : Option (α × β × γ × δ)} {f : α → β → γ → δ → Option ε} {r : ε} (h : ob4 x f = some r) : ∃ a b c d, x = some (a, b, c, d) ∧ f a b c d = some r := by
  cases x with
  | none => cases h
  | some a => exact ⟨a.1, a.2.1, a.2.2.1, a.2.2.2, rfl, h⟩
theorem ob5_s {α β γ δ ε ζ : Type} {x : Option (α × β × γ × δ × ε)} {f : α → β → γ → δ → ε → Option ζ} {r : ζ} (h : ob5 x f = some r) : ∃ a b c d e, x = some (a, b, c, d, e) ∧ f a b c d e = some r := by
  cases x with
  | none => cases h
  | some a => exact ⟨a.1, a.2.1, a.2.2.1, a.2.2.2.1, a.2.2.2.2, rfl, h⟩
theorem lp_s {S E : Type} {body : S → Option (S ⊕ E)} (P : S → Prop) (Q : E → Prop) (step : ∀ (s : S) (r : S ⊕ E), body s = some r → Sum.elim P Q r → P s) : ∀ {n : Nat} {s : S} {e : E}, lp body n s = some e → Q e → P s
  | 0, _, _, h, _ => by cases h
  | n + 1, s, e, h, hq => by
    unfold lp at h
    cases hb : body s with
    | none => rw [hb] at h; cases h
    | some r =>
      rw [hb] at h
      cases r with
      | inl s' => exact step s _ hb (lp_s P Q step h hq)
      | inr e' => cases h; exact step s _ hb hq
def sm {α β γ : Type} (e : α ⊕ β) (f : α → γ) (g : β → γ) : γ := match e with
  | .inl a => f a
  | .inr b => g b
theorem mg_rs (em : List Nat) (σ : sh_S) : σ = mg em 0 σ (rs em σ) := by
  funext k
  rcases mg_at σ (rs em σ) em 0 k with ⟨j, h1, h2⟩ | ⟨h1, h2⟩
  · rw [h2, Nat.zero_add]
    show σ k = σ (em.getD j 0)
    rw [List.getD_eq_getElem?_getD, h1]
    rfl
  · exact h2.symm
theorem rk {R rm : Room} {a b : Nat} (e : R = rm) (h1 : a ≤ rm.frames) (h2 : b ≤ rm.locals) : a ≤ R.frames ∧ b ≤ R.locals := by rw [e]; exact ⟨h1, h2⟩
theorem nk {a b i : Nat} (e : a = b) (h : i < b) : i < a := by rw [e]; exact h
section K0
variable {G : sh_G} {cc : ByteArray} {own : String} {sh shc : List sh_T} {pc : Nat} {lv : List (Nat × Value)} {st st0 st1 : List Value} {σ σ1 σ2 : sh_S} {em : List Nat} {y : MethodName} {bytes : ByteArray} {mL idx n ci : Nat} {ret : Option FieldType} {rm : Room} {av : List Value} {r : Option Value}
theorem k_run0 (h : sh_ok G cc own sh) {aa : Array Value}
    (hr : ∀ (H : Heap) (locs : List Loc) (ls : Array Slot), va_P (gD G) vwCl (sh_W (gr G) (gd G) σ sh) H → va_S (gA G) (gs G).heap H locs → ls.size = gn G →
      va_Run (gp G) (gl G) (ge G) (gR G) (gs G) (gm G) (ga G) (gb G) (gM G) (gc G) H locs 0 0 0 0 (F0 (gm G) pc ls (st0.map (sh_v (gd G)))) (st.map (sh_v (gd G))) (Cq (gD G) (gr G) (gd G) sh (sh_W (gr G) (gd G) σ sh) H.size r σ2 aa) (va_A (sh_W (gr G) (gd G) σ sh) H.size))
    (kk : sh_K G sh (pc + 3) lv (r.toList ++ st) σ2) : sh_K G sh pc lv st0 σ := by
  intro H locs ls hP hS hl T hT X
  have hD : va_D (gA G) (sh_W (gr G) (gd G) σ sh) := sh_D h.2.2.2.2.2.2.1
  have hA : ∀ q, H.size ≤ q → gA G q := fun q hq => h.2.2.2.2.2.2.2.2 q (Nat.le_trans hS.1 hq)
  have hF : ∀ q, va_A (sh_W (gr G) (gd G) σ sh) H.size q → gA G q := by
    intro q hq
    rcases hq with ⟨k, e, hq⟩ | hq
    · exact hD.2 k _ hq
    · exact hA q hq
  obtain ⟨v, st₀, t, T', L, h0, X', hL, e1, e2, ⟨⟨hv, hB⟩, hz, hk⟩, sp⟩ := hr H locs ls hP hS hl.1 T hT X
  rw [h0] at hz hk
  rw [← e1] at hz hk hB
  have hv2 : v = r.map (sh_v (gd G)) := by
    injection hv
  have hst : (v.toList ++ st.map (sh_v (gd G))) = (r.toList ++ st).map (sh_v (gd G)) := by
    rw [hv2, List.map_append]
    congr 1
    cases r <;> rfl
  obtain ⟨t2, a1, b1⟩ := kk T'.heap (locs ++ L) ls hB ⟨Nat.le_trans hS.1 hz, fun q h1 h2 => by
      rw [hk q (Nat.lt_of_lt_of_le h1 hS.1) (fun z => h2 (hF q z))]
      exact hS.2.1 q h1 h2, fun q hq => by
      rcases List.mem_append.mp hq with h | h
      · exact hS.2.2 q h
      · exact hF _ (hL q h)⟩ hl T' rfl X'
  rw [← hst] at a1
  exact ⟨t2, sp t2 a1, b1⟩
theorem k_pre0 (h : sh_ok G cc own sh) {H : Heap} (hP : va_P (gD G) vwCl (sh_W (gr G) (gd G) σ sh) H) (U : State) (hU : U.heap = H) (hW : (gs G).WarmedH U.vm) : Cp (gD G) (gr G) (gd G) sh av σ H.size (av.map (sh_v (gd G))).toArray U :=
  ⟨rfl, by rw [hU], by rw [hU]; exact hP, va_K.moved hW.alike h.2.2.2.2.2.1, (sh_D h.2.2.2.2.2.2.1).weaken (fun _ _ _ _ => trivial), nsOk.warm hW h.2.2.2.2.2.2.2.1⟩
theorem k_callS0 (h : sh_ok G cc own sh) (cs : CS own idx y bytes mL ret n) (hc : Ctr y bytes mL ret rm sh av σ r σ2) (hn : av.length = n) (hst : av.reverse ++ st = st0) (hst1 : r.toList ++ st = st1) (hrm : rm.cells = 0 ∧ rm.slots = 0) (hR : rm.frames + 1 ≤ (gR G).frames ∧ 8 + (mL + 11) + rm.locals ≤ (gR G).locals) (h8 : (st.map fun v => v.category).sum ≤ 8) (d : decode cc pc = .ok (.invokestatic idx, 3))
    (kk : sh_K G sh (pc + 3) lv st1 σ2) : sh_K G sh pc lv st0 σ := by
  obtain ⟨hd, hl, hs, hi, hco⟩ := cs
  refine k_run0 h (r := r) (aa := (av.map (sh_v (gd G))).toArray) (fun H locs ls hP hS hsz => ?_) (by rw [hst1]; exact kk)
  have hw := h.2.2.2.2.1
  refine va_runS (As := av.map (sh_v (gd G))) (k_fix h) (hc (gl G) (gD G) (gr G) (gd G) H.size) ⟨callB_of n hw (tb_GI (fun _ z => z) hco) rfl hrm.1 hrm.2 (hw _ hi) (hw _ hl) hd hR, hw _ hs⟩ ⟨Cp_blind, fun U hU hW => k_pre0 h hP U hU hW⟩ rfl (by rw [List.length_map]; exact hn) hsz ?_ (lv_room (by rw [List.map_map]; exact (show _ = (st.map fun v => v.category).sum from congrArg List.sum (List.map_congr_left (fun v _ => sh_v_cat _ v))) ▸ h8)) d ⟨Nat.zero_le _, Nat.zero_le _⟩
  show st0.map _ = _
  rw [← hst, List.map_append, List.map_reverse]
theorem k_callV0 (h : sh_ok G cc own sh) (cs : CV own idx ci y bytes mL ret n) {k0 : Nat} {fs : List (Option Nat)} {as : List Value} (hc : Ctr y bytes mL ret rm sh (.ref k0 :: as) σ r σ2) (hk : sh[k0]? = some (.inr (.inl (ci, fs)))) (hn : as.length = n) (hst : as.reverse ++ .ref k0 :: st = st0) (hst1 : r.toList ++ st = st1) (hrm : rm.cells = 0 ∧ rm.slots = 0) (hR : rm.frames + 1 ≤ (gR G).frames ∧ 8 + (mL + 11) + rm.locals ≤ (gR G).locals) (h8 : (st.map fun v => v.category).sum ≤ 8) (d : decode cc pc = .ok (.invokevirtual idx, 3))
    (kk : sh_K G sh (pc + 3) lv st1 σ2) : sh_K G sh pc lv st0 σ := by
  obtain ⟨q, hq, hy, hd, hl, hin, hse, hi, hco⟩ := cs
  refine k_run0 h (r := r) (aa := ((Value.ref (gd G k0)) :: as.map (sh_v (gd G))).toArray) (fun H locs ls hP hS hsz => ?_) (by rw [hst1]; exact kk)
  have hw := h.2.2.2.2.1
  refine va_runV (C := y.cls) (b := gd G k0) (As := as.map (sh_v (gd G))) (k_fix h) (hc (gl G) (gD G) (gr G) (gd G) H.size) ⟨callB_of n hw (tb_GI (fun _ z => z) hco) rfl hrm.1 hrm.2 (hw _ hi) (hw _ hl) hd hR, hw _ hin, hw _ hse⟩ ⟨Cp_blind, ?_, fun U hU hW => k_pre0 h hP U hU hW⟩ rfl (by rw [List.length_map]; exact hn) hsz ?_ (lv_room (by rw [List.map_map]; exact (show _ = (st.map fun v => v.category).sum from congrArg List.sum (List.map_congr_left (fun v _ => sh_v_cat _ v))) ▸ h8)) d ⟨Nat.zero_le _, Nat.zero_le _⟩
  · rw [hy]
    exact va_recv h.2.2.2.2.2.1 hP hq (sh_at hk)
  · show st0.map _ = _
    rw [← hst, List.map_append, List.map_reverse]
    rfl
theorem emb_nil : emb [] [] sh := ⟨rfl, rfl⟩
theorem k_callSp (h : sh_ok G cc own sh) (cs : CS own idx y bytes mL ret n) (hc : Ctr y bytes mL ret rm [] av (rs [] σ) r σ2) (hn : av.length = n) (hst : (av.map (sh_v (emf []))).reverse ++ st = st0) (hst1 : (r.map (sh_v (emf []))).toList ++ st = st1) (hrm : rm.cells = 0 ∧ rm.slots = 0) (hR : rm.frames + 1 ≤ (gR G).frames ∧ 8 + (mL + 11) + rm.locals ≤ (gR G).locals) (h8 : (st.map fun v => v.category).sum ≤ 8) (d : decode cc pc = .ok (.invokestatic idx, 3))
    (kk : sh_K G sh (pc + 3) lv st1 σ) : sh_K G sh pc lv st0 σ := k_callS h cs hc emb_nil hn hst hrm hR h8 d (by rw [hst1]; exact kk)
theorem k_callNp (h : sh_ok G cc own sh) (cs : CN own idx y bytes mL ret n) (hc : Ctr y bytes mL ret rm [] av (rs [] σ) r σ2) (hn : av.length = n) (hst : (av.map (sh_v (emf []))).reverse ++ st = st0) (hst1 : (r.map (sh_v (emf []))).toList ++ st = st1) (hrm : rm.cells = 0 ∧ rm.slots = 0) (hR : rm.frames + 1 ≤ (gR G).frames ∧ 8 + (mL + 11) + rm.locals ≤ (gR G).locals) (h8 : (st.map fun v => v.category).sum ≤ 8) (d : decode cc pc = .ok (.invokestatic idx, 3))
    (kk : sh_K G sh (pc + 3) lv st1 σ) : sh_K G sh pc lv st0 σ := k_callN h cs hc emb_nil hn hst hrm hR h8 d (by rw [hst1]; exact kk)
theorem k_callVe (h : sh_ok G cc own sh) (cs : CV own idx ci y bytes mL ret n) {k0 : Nat} {fs : List (Option Nat)} {as : List Value} (hc : Ctr y bytes mL ret rm shc (.ref k0 :: as) (rs em σ) r σ2) (hE : emb em shc sh) (hk : sh[emf em k0]? = some (.inr (.inl (ci, fs)))) (hn : as.length = n) (hst : (as.map (sh_v (emf em))).reverse ++ .ref (emf em k0) :: st = st0) (hst1 : (r.map (sh_v (emf em))).toList ++ st = st1) (hrm : rm.cells = 0 ∧ rm.slots = 0) (hR : rm.frames + 1 ≤ (gR G).frames ∧ 8 + (mL + 11) + rm.locals ≤ (gR G).locals) (h8 : (st.map fun v => v.category).sum ≤ 8) (d : decode cc pc = .ok (.invokevirtual idx, 3)) (hσ : σ1 = mg em 0 σ σ2)
    (kk : sh_K G sh (pc + 3) lv st1 σ1) : sh_K G sh pc lv st0 σ := k_callV h cs hc hE hk hn hst hrm hR h8 d (by rw [hst1, ← hσ]; exact kk)
theorem k_acopy (h : sh_ok G cc own sh) {k0 k1 n0 n1 : Nat} {sp dp m : Int32} (hs0 : sh[k0]? = some (.inl (0, n0))) (hs1 : sh[k1]? = some (.inl (0, n1))) (hw : Cond.methodLink own idx arraycopyName ∈ tb ∧ Cond.native arraycopyName ∈ tb ∧ Cond.static arraycopyName ∈ tb ∧ Cond.initialized "java/lang/System" ∈ tb)
    (hg : (¬ sp < 0 ∧ ¬ dp < 0 ∧ ¬ m < 0) ∧ ix sp + ix m ≤ n0 ∧ ix dp + ix m ≤ n1) (hR : 1 ≤ (gR G).frames ∧ 8 + (nativeFrameWords "java/lang/System" "arraycopy" 5 + 11) ≤ (gR G).locals) (h8 : (st.map fun v => v.category).sum ≤ 8) (d : decode cc pc = .ok (.invokestatic idx, 3))
    (kk : sh_K G sh (pc + 3) lv st (ur σ k1 (va_cpy (σ k0) (σ k1) (ix sp) (ix dp) (ix m)))) : sh_K G sh pc lv (.int m :: .int dp :: .ref k1 :: .int sp :: .ref k0 :: st) σ := by
  intro H locs ls hP hS hl
  have hv := h.2.2.2.2.1
  refine va_copyi (ty := .int) h.1 h.2.1 (h.2.2.1.trans hl.1.symm) h.2.2.2.1 (hv _ hw.1) (hv _ hw.2.1) (hv _ hw.2.2.1) (hv _ hw.2.2.2) h.2.2.2.2.2.1 hP (sh_D h.2.2.2.2.2.2.1) hS k0 k1 0 0 (sh_at hs0) (sh_at hs1) rfl rfl rfl hg.1.1 hg.1.2.1 hg.1.2.2 hg.2.1 hg.2.2 (fun _ _ => rfl) hR.1 ?_ d (fun H1 locs1 hP1 _ hS1 => ?_)
  · have e : ((st.map (sh_v (gd G))).map fun v => v.category).sum = (st.map fun v => v.category).sum := by
      rw [List.map_map]
      exact congrArg List.sum (List.map_congr_left (fun v _ => sh_v_cat _ v))
    have := hR.2
    omega
  · have e := sh_set (ar := gr G) (ad := gd G) (σ := σ) (va_cpy (σ k0) (σ k1) (ix sp) (ix dp) (ix m)) hs1
    exact kk H1 locs1 ls (e ▸ hP1) hS1 hl
end K0
end
section
theorem kc_bipush_7 : (Int8.ofInt 7).toInt32 = (7 : Int32) := by decide
theorem kc_bipush_8 : (Int8.ofInt 8).toInt32 = (8 : Int32) := by decide
theorem kc_bipush_9 : (Int8.ofInt 9).toInt32 = (9 : Int32) := by decide
theorem kc_bipush_24 : (Int8.ofInt 24).toInt32 = (24 : Int32) := by decide
theorem kc_iconst_m1 : Int32.ofInt (-1) = (-1 : Int32) := by decide
theorem kc_iconst_0 : Int32.ofInt 0 = (0 : Int32) := by decide
theorem kc_iconst_1 : Int32.ofInt 1 = (1 : Int32) := by decide
theorem kc_iconst_3 : Int32.ofInt 3 = (3 : Int32) := by decide
theorem kc_iconst_5 : Int32.ofInt 5 = (5 : Int32) := by decide
theorem tb_ws {ws : List Cond} (ps : List Nat) (h : ws = ps.filterMap (fun i => lw_tbl[i]?)) (g : ws.all goodWord = true) : ∀ w ∈ ws, w ∈ tb := by
  intro w hw
  have g1 := List.all_eq_true.mp g w hw
  rw [h] at hw
  obtain ⟨i, -, hi⟩ := List.mem_filterMap.mp hw
  exact List.mem_filter.mpr ⟨List.mem_of_getElem? hi, g1⟩
theorem in_X0 : ∀ w ∈ u_ws RX0 TX0 5, w ∈ tb := tb_ws [331, 333, 335, 337, 339] (by decide +kernel) (by decide +kernel)
theorem in_X1 : ∀ w ∈ u_ws RX1 TX1 3, w ∈ tb := tb_ws [311, 313, 315] (by decide +kernel) (by decide +kernel)
theorem in_X2 : ∀ w ∈ u_ws RX2 TX2 9, w ∈ tb := tb_ws [222, 224, 226, 228, 230, 232, 234, 236, 238] (by decide +kernel) (by decide +kernel)
theorem in_X3 : ∀ w ∈ u_ws RX3 TX3 14, w ∈ tb := tb_ws [271, 273, 275, 277, 279, 281, 283, 285, 287, 289, 291, 293, 295, 297] (by decide +kernel) (by decide +kernel)
theorem in_X4 : ∀ w ∈ u_ws RX4 TX4 10, w ∈ tb := tb_ws [164, 166, 168, 170, 172, 174, 176, 178, 180, 182] (by decide +kernel) (by decide +kernel)
theorem in_X5 : ∀ w ∈ u_ws RX5 TX5 8, w ∈ tb := tb_ws [361, 363, 365, 367, 369, 371, 373, 375] (by decide +kernel) (by decide +kernel)
theorem in_X6 : ∀ w ∈ u_ws RX6 TX6 3, w ∈ tb := tb_ws [476, 478, 480] (by decide +kernel) (by decide +kernel)
theorem in_X7 : ∀ w ∈ u_ws RX7 TX7 6, w ∈ tb := tb_ws [392, 394, 396, 398, 400, 402] (by decide +kernel) (by decide +kernel)
theorem in_X8 : ∀ w ∈ u_ws RX8 TX8 16, w ∈ tb := tb_ws [430, 432, 434, 436, 438, 440, 442, 444, 446, 448, 450, 452, 454, 456, 458, 460] (by decide +kernel) (by decide +kernel)
theorem in_X9 : ∀ w ∈ u_ws RX9 TX9 7, w ∈ tb := tb_ws [490, 492, 494, 496, 498, 500, 502] (by decide +kernel) (by decide +kernel)
theorem in_X10 : ∀ w ∈ u_ws RX10 TX10 36, w ∈ tb := tb_ws [998, 1000, 1002, 1004, 1006, 1008, 1010, 1012, 1014, 1016, 1018, 1020, 1022, 1024, 1026, 1028, 1030, 1032, 1034, 1036, 1038, 1040, 1042, 1044, 1046, 1048, 1050, 1052, 1054, 1056, 1058, 1060, 1062, 1064, 1066, 1068] (by decide +kernel) (by decide +kernel)
theorem wd_26 : Cond.selects RX10 yX10_isPoint yX10_isPoint ∈ tb := tb_of 26 (by decide +kernel) rfl
theorem wd_29 : Cond.selects RX10 yX10_nextOf yX10_nextOf ∈ tb := tb_of 29 (by decide +kernel) rfl
theorem wd_30 : Cond.selects RX10 yX10_there yX10_there ∈ tb := tb_of 30 (by decide +kernel) rfl
theorem wd_34 : Cond.selects RX10 yX10_lends yX10_lends ∈ tb := tb_of 34 (by decide +kernel) rfl
theorem wd_88 : Cond.initialized RX9 ∈ tb := tb_of 88 (by decide +kernel) rfl
theorem wd_98 : Cond.initialized RX10 ∈ tb := tb_of 98 (by decide +kernel) rfl
theorem wd_603 : Cond.static yX9_hasBit ∈ tb := tb_of 603 (by decide +kernel) rfl
theorem wd_604 : Cond.code yX9_hasBit cX9_hasBit 2 (some .boolean) ∈ tb := tb_of 604 (by decide +kernel) rfl
theorem wd_1078 : Cond.methodLink RX10 93 yX10_in ∈ tb := tb_of 1078 (by decide +kernel) rfl
theorem wd_1079 : Cond.static yX10_in ∈ tb := tb_of 1079 (by decide +kernel) rfl
theorem wd_1080 : Cond.code yX10_in cX10_in 3 (some .boolean) ∈ tb := tb_of 1080 (by decide +kernel) rfl
theorem wd_1089 : Cond.methodLink RX10 109 yX10_isPoint ∈ tb := tb_of 1089 (by decide +kernel) rfl
theorem wd_1091 : Cond.instanceMethod yX10_isPoint ∈ tb := tb_of 1091 (by decide +kernel) rfl
theorem wd_1092 : Cond.code yX10_isPoint cX10_isPoint 2 (some .boolean) ∈ tb := tb_of 1092 (by decide +kernel) rfl
theorem wd_1125 : Cond.methodLink RX10 140 yX10_nextOf ∈ tb := tb_of 1125 (by decide +kernel) rfl
theorem wd_1127 : Cond.instanceMethod yX10_nextOf ∈ tb := tb_of 1127 (by decide +kernel) rfl
theorem wd_1128 : Cond.code yX10_nextOf cX10_nextOf 4 (some .int) ∈ tb := tb_of 1128 (by decide +kernel) rfl
theorem wd_1129 : Cond.methodLink RX10 137 yX10_there ∈ tb := tb_of 1129 (by decide +kernel) rfl
theorem wd_1131 : Cond.instanceMethod yX10_there ∈ tb := tb_of 1131 (by decide +kernel) rfl
theorem wd_1132 : Cond.code yX10_there cX10_there 2 (some .int) ∈ tb := tb_of 1132 (by decide +kernel) rfl
theorem wd_1149 : Cond.methodLink RX10 89 yX10_isIn ∈ tb := tb_of 1149 (by decide +kernel) rfl
theorem wd_1150 : Cond.static yX10_isIn ∈ tb := tb_of 1150 (by decide +kernel) rfl
theorem wd_1151 : Cond.code yX10_isIn cX10_isIn 2 (some .boolean) ∈ tb := tb_of 1151 (by decide +kernel) rfl
theorem wd_1152 : Cond.methodLink RX10 143 yX10_lends ∈ tb := tb_of 1152 (by decide +kernel) rfl
theorem wd_1154 : Cond.instanceMethod yX10_lends ∈ tb := tb_of 1154 (by decide +kernel) rfl
theorem wd_1155 : Cond.code yX10_lends cX10_lends 2 (some .boolean) ∈ tb := tb_of 1155 (by decide +kernel) rfl
theorem fl_RX10_101 : FL RX10 101 10 0 := ⟨(RX10, TX10, 36), rfl, by decide, in_X10, tb_of 962 (by decide +kernel) rfl⟩
theorem fl_RX10_146 : FL RX10 146 10 5 := ⟨(RX10, TX10, 36), rfl, by decide, in_X10, tb_of 967 (by decide +kernel) rfl⟩
theorem fl_RX10_149 : FL RX10 149 10 6 := ⟨(RX10, TX10, 36), rfl, by decide, in_X10, tb_of 968 (by decide +kernel) rfl⟩
theorem fl_RX10_19 : FL RX10 19 10 4 := ⟨(RX10, TX10, 36), rfl, by decide, in_X10, tb_of 966 (by decide +kernel) rfl⟩
theorem fl_RX10_7 : FL RX10 7 10 1 := ⟨(RX10, TX10, 36), rfl, by decide, in_X10, tb_of 963 (by decide +kernel) rfl⟩
theorem fp_X10_5 : FP 10 5 .int := ⟨(RX10, TX10, 36), tyX10, rfl, tyX10_ok, nmX10, rfl, by decide +kernel⟩
theorem fp_X10_6 : FP 10 6 .int := ⟨(RX10, TX10, 36), tyX10, rfl, tyX10_ok, nmX10, rfl, by decide +kernel⟩
theorem cv_RX10_109 : CV RX10 109 10 yX10_isPoint cX10_isPoint 2 (some .boolean) 1 := ⟨_, rfl, rfl, ⟨by decide, by decide, by decide +kernel⟩, wd_1089, wd_1091, wd_26, wd_98, wd_1092⟩
theorem cv_RX10_137 : CV RX10 137 10 yX10_there cX10_there 2 (some .int) 1 := ⟨_, rfl, rfl, ⟨by decide, by decide, by decide +kernel⟩, wd_1129, wd_1131, wd_30, wd_98, wd_1132⟩
theorem cv_RX10_140 : CV RX10 140 10 yX10_nextOf cX10_nextOf 4 (some .int) 1 := ⟨_, rfl, rfl, ⟨by decide, by decide, by decide +kernel⟩, wd_1125, wd_1127, wd_29, wd_98, wd_1128⟩
theorem cv_RX10_143 : CV RX10 143 10 yX10_lends cX10_lends 2 (some .boolean) 1 := ⟨_, rfl, rfl, ⟨by decide, by decide, by decide +kernel⟩, wd_1152, wd_1154, wd_34, wd_98, wd_1155⟩
theorem cs_RX10_89 : CS RX10 89 yX10_isIn cX10_isIn 2 (some .boolean) 2 := ⟨⟨by decide, by decide, by decide +kernel⟩, wd_1149, wd_1150, wd_98, wd_1151⟩
theorem cs_RX10_93 : CS RX10 93 yX10_in cX10_in 3 (some .boolean) 3 := ⟨⟨by decide, by decide, by decide +kernel⟩, wd_1078, wd_1079, wd_98, wd_1080⟩
theorem cn_RX1_91 : CN RX1 91 yX9_hasBit cX9_hasBit 2 (some .boolean) 2 := ⟨⟨by decide, by decide, by decide +kernel⟩, by decide +kernel, wd_603, wd_88, wd_604⟩
abbrev shNO : List sh_T := []
def shLI : List sh_T := [.inr (.inl (4, [some 1, some 2, some 3, some 4, some 5, some 6, some 7, some 8, some 9, none])), .inl (0, 24), .inl (0, 24), .inl (0, 24), .inl (0, 24), .inl (0, 24), .inl (0, 24), .inl (0, 24), .inl (1, 24), .inl (1, 24)]
def shSH : List sh_T := [.inr (.inl (6, [some 1, none, none])), .inl (0, 60)]
def shCK : List sh_T := [.inr (.inl (4, [some 1, some 2, some 3, some 4, some 5, some 6, some 7, some 8, some 9, none])), .inl (0, 24), .inl (0, 24), .inl (0, 24), .inl (0, 24), .inl (0, 24), .inl (0, 24), .inl (0, 24), .inl (1, 24), .inl (1, 24), .inr (.inl (0, [some 0, none, some 11, some 19, some 29])), .inr (.inl (2, [some 12, some 13, some 14, some 15, some 16, some 17, some 18, none, none])), .inl (0, 24), .inl (0, 24), .inl (0, 24), .inl (0, 24), .inl (0, 24), .inl (0, 24), .inl (0, 8), .inr (.inl (3, [none, none, none, none, some 20, some 21, none, some 22, some 23, some 24, some 25, some 26, some 27, some 28])), .inl (0, 192), .inl (0, 8), .inl (0, 24), .inl (0, 24), .inl (0, 24), .inl (0, 24), .inl (0, 24), .inl (0, 8), .inl (0, 8), .inr (.inl (1, [some 30, none, none])), .inl (0, 96)]
def shX : List sh_T := [.inr (.inl (4, [some 1, some 2, some 3, some 4, some 5, some 6, some 7, some 8, some 9, none])), .inl (0, 24), .inl (0, 24), .inl (0, 24), .inl (0, 24), .inl (0, 24), .inl (0, 24), .inl (0, 24), .inl (1, 24), .inl (1, 24), .inr (.inl (0, [some 0, none, some 11, some 19, some 29])), .inr (.inl (2, [some 12, some 13, some 14, some 15, some 16, some 17, some 18, none, none])), .inl (0, 24), .inl (0, 24), .inl (0, 24), .inl (0, 24), .inl (0, 24), .inl (0, 24), .inl (0, 8), .inr (.inl (3, [none, none, none, none, some 20, some 21, none, some 22, some 23, some 24, some 25, some 26, some 27, some 28])), .inl (0, 192), .inl (0, 8), .inl (0, 24), .inl (0, 24), .inl (0, 24), .inl (0, 24), .inl (0, 24), .inl (0, 8), .inl (0, 8), .inr (.inl (1, [some 30, none, none])), .inl (0, 96), .inr (.inl (0, [some 0, none, some 32, some 40, some 50])), .inr (.inl (2, [some 33, some 34, some 35, some 36, some 37, some 38, some 39, none, none])), .inl (0, 24), .inl (0, 24), .inl (0, 24), .inl (0, 24), .inl (0, 24), .inl (0, 24), .inl (0, 8), .inr (.inl (3, [none, none, none, none, some 41, some 42, none, some 43, some 44, some 45, some 46, some 47, some 48, some 49])), .inl (0, 192), .inl (0, 8), .inl (0, 24), .inl (0, 24), .inl (0, 24), .inl (0, 24), .inl (0, 24), .inl (0, 8), .inl (0, 8), .inr (.inl (1, [some 51, none, none])), .inl (0, 96), .inr (.inl (5, [some 0, some 10, some 31, none, none, none, none, none])), .inr (.inl (7, [some 0, some 10, some 54, none, some 55, none])), .inl (0, 24), .inl (0, 60), .inr (.inl (8, [some 0, some 57, some 58, some 59, some 60, some 61, some 62, none, none, some 63, none, none, none, none, none, none])), .inl (0, 300), .inl (0, 300), .inl (0, 300), .inl (1, 300), .inl (1, 300), .inl (0, 300), .inl (0, 8), .inr (.inl (6, [some 65, none, none])), .inl (0, 60), .inr (.inl (6, [some 67, none, none])), .inl (0, 60), .inr (.inl (6, [some 69, none, none])), .inl (0, 60), .inr (.inl (6, [some 71, none, none])), .inl (0, 60), .inr (.inr [64, 66, 68, 70]), .inr (.inl (9, [some 0, some 10, some 52, some 53, some 56, some 72, none]))]
def shM : List sh_T := [.inr (.inl (10, [none, some 1, some 2, some 3, some 4, none, none, some 5, some 6, some 7, some 8, some 9, none, some 10, some 11, some 12, some 13, none, some 14, none, some 15, some 16, some 17, some 18, some 19, some 20, some 21, none, none, none, some 22, some 23, some 24, some 25, some 26, none])), .inl (0, 24), .inl (0, 24), .inl (0, 24), .inl (0, 24), .inl (0, 8), .inl (0, 8), .inl (0, 192), .inl (0, 24), .inl (0, 24), .inl (0, 1300), .inl (0, 1300), .inl (0, 1300), .inl (0, 24), .inl (0, 60), .inl (0, 301), .inl (0, 301), .inl (0, 301), .inl (0, 301), .inl (0, 301), .inl (0, 301), .inl (0, 8), .inl (1, 4), .inl (0, 4), .inl (0, 4), .inl (0, 240), .inl (0, 60)]
def em_LI : List Nat := [0, 1, 2, 3, 4, 5, 6, 7, 8, 9]
def em_CK : List Nat := [0, 1, 2, 3, 4, 5, 6, 7, 8, 9, 10, 11, 12, 13, 14, 15, 16, 17, 18, 19, 20, 21, 22, 23, 24, 25, 26, 27, 28, 29, 30]
def em_TR : List Nat := [0, 1, 2, 3, 4, 5, 6, 7, 8, 9, 31, 32, 33, 34, 35, 36, 37, 38, 39, 40, 41, 42, 43, 44, 45, 46, 47, 48, 49, 50, 51]
theorem k_sec {G : sh_G} {sh : List sh_T} {pc : Nat} {lv : List (Nat × Value)} {st : List Value} {σ : sh_S} {a : Value} {x y : Int32} (e : y = x) (kk : sh_K G sh pc lv (a :: .int y :: st) σ) : sh_K G sh pc lv (a :: .int x :: st) σ := e ▸ kk
theorem inb_lt {i : Int32} {n : Nat} (h : inb i n) : ix i < n := Nat.not_le.mp fun q => h (Or.inr q)
theorem sh_refs {j : Nat} (h : j < 4) : ([64, 66, 68, 70] : List Nat)[j]? = some (64 + 2 * j) := by
  match j, h with
  | 0, _ => rfl
  | 1, _ => rfl
  | 2, _ => rfl
  | 3, _ => rfl
theorem sh_sheet {j : Nat} (h : j < 4) : shX[64 + 2 * j]? = some (.inr (.inl (6, [some (64 + 2 * j + 1), none, none]))) := by
  match j, h with
  | 0, _ => rfl
  | 1, _ => rfl
  | 2, _ => rfl
  | 3, _ => rfl
theorem sh_items {j : Nat} (h : j < 4) : shX[64 + 2 * j + 1]? = some (.inl (0, 60)) := by
  match j, h with
  | 0, _ => rfl
  | 1, _ => rfl
  | 2, _ => rfl
  | 3, _ => rfl
theorem emb_SH {j : Nat} (h : j < 4) : emb [64 + 2 * j, 64 + 2 * j + 1] shSH shX := by
  match j, h with
  | 0, _ => exact ⟨rfl, rfl⟩
  | 1, _ => exact ⟨rfl, rfl⟩
  | 2, _ => exact ⟨rfl, rfl⟩
  | 3, _ => exact ⟨rfl, rfl⟩
theorem emb_LI_CK : emb em_LI shLI shCK := ⟨rfl, rfl⟩
theorem emb_LI_X : emb em_LI shLI shX := ⟨rfl, rfl⟩
theorem emb_CK_X : emb em_CK shCK shX := ⟨rfl, rfl⟩
theorem emb_TR_X : emb em_TR shCK shX := ⟨rfl, rfl⟩
end
section
theorem dX10_in_0 : decode cX10_in 0 = .ok (.iload_n 0, 1) := by decide +kernel
theorem dX10_in_1 : decode cX10_in 1 = .ok (.iload_n 1, 1) := by decide +kernel
theorem dX10_in_2 : decode cX10_in 2 = .ok (.if_icmp .lt 12, 3) := by decide +kernel
theorem dX10_in_5 : decode cX10_in 5 = .ok (.iload_n 0, 1) := by decide +kernel
theorem dX10_in_6 : decode cX10_in 6 = .ok (.iload_n 2, 1) := by decide +kernel
theorem dX10_in_7 : decode cX10_in 7 = .ok (.if_icmp .gt 7, 3) := by decide +kernel
theorem dX10_in_10 : decode cX10_in 10 = .ok (.iconst 1, 1) := by decide +kernel
theorem dX10_in_11 : decode cX10_in 11 = .ok (.goto 4, 3) := by decide +kernel
theorem dX10_in_14 : decode cX10_in 14 = .ok (.iconst 0, 1) := by decide +kernel
theorem dX10_in_15 : decode cX10_in 15 = .ok (.ireturn, 1) := by decide +kernel
def f_X10_in (p0 : Int32) (p1 : Int32) (p2 : Int32) : Option (Int32) := ob (if p0 < p1 then some (0 : Int32) else (if p2 < p0 then some (0 : Int32) else some (1 : Int32))) (fun v1 => gu (v1 = 0 ∨ v1 = 1) (some v1))
set_option maxRecDepth 100000 in
set_option maxHeartbeats 4000000 in
theorem c_X10_in (p0 : Int32) (p1 : Int32) (p2 : Int32) (s0 : sh_S) (r : Int32) (hf : f_X10_in p0 p1 p2 = some r) : Ctr yX10_in cX10_in 3 (some .boolean) ({ frames := 0, cells := 0, slots := 0, locals := 0 } : Room) shNO [.int p0, .int p1, .int p2] s0 (some (.int r)) s0 := by
  refine Ctr.mk (ri := .ireturn) (by decide) (Nat.le_of_ble_eq_true rfl) (Rt_z r) ?_
  intro G h hL hR hret
  refine k_drop (lv' := [(0, .int p0), (1, .int p1), (2, .int p2)]) [0, 1, 2] rfl ?_
  unfold f_X10_in at hf
  refine k_iload_n (pc := 0) h dX10_in_0 rfl 0 rfl ?_
  refine k_iload_n (pc := 1) h dX10_in_1 rfl 1 rfl ?_
  obtain ⟨v1, hj, hf⟩ := ob_s hf
  have kj2 : sh_K G shNO 15 [] [.int v1] s0 := by
    obtain ⟨g2, hf⟩ := gu_s hf
    cases hf
    exact hret 15 _ dX10_in_15 g2
  clear hf
  have hf := hj
  clear hj
  refine k_icmp_lt (pc := 2) (tgt := 14) h dX10_in_2 rfl (fun hc => ?_) (fun hc => ?_)
  · have hf := it_p hc hf
    refine k_iconst (pc := 14) h dX10_in_14 kc_iconst_0 ?_
    cases hf
    exact k_drop [] rfl kj2
  · have hf := it_n hc hf
    refine k_iload_n (pc := 5) h dX10_in_5 rfl 0 rfl ?_
    refine k_iload_n (pc := 6) h dX10_in_6 rfl 2 rfl ?_
    refine k_icmp_gt (pc := 7) (tgt := 14) h dX10_in_7 rfl (fun hc => ?_) (fun hc => ?_)
    · have hf := it_p hc hf
      refine k_iconst (pc := 14) h dX10_in_14 kc_iconst_0 ?_
      cases hf
      exact k_drop [] rfl kj2
    · have hf := it_n hc hf
      refine k_iconst (pc := 10) h dX10_in_10 kc_iconst_1 ?_
      refine k_goto (pc := 11) (tgt := 15) h dX10_in_11 rfl ?_
      cases hf
      exact k_drop [] rfl kj2
theorem dX10_isIn_0 : decode cX10_isIn 0 = .ok (.iload_n 0, 1) := by decide +kernel
theorem dX10_isIn_1 : decode cX10_isIn 1 = .ok (.iload_n 1, 1) := by decide +kernel
theorem dX10_isIn_2 : decode cX10_isIn 2 = .ok (.ishr, 1) := by decide +kernel
theorem dX10_isIn_3 : decode cX10_isIn 3 = .ok (.iconst 1, 1) := by decide +kernel
theorem dX10_isIn_4 : decode cX10_isIn 4 = .ok (.iand, 1) := by decide +kernel
theorem dX10_isIn_5 : decode cX10_isIn 5 = .ok (.iconst 1, 1) := by decide +kernel
theorem dX10_isIn_6 : decode cX10_isIn 6 = .ok (.if_icmp .ne 7, 3) := by decide +kernel
theorem dX10_isIn_9 : decode cX10_isIn 9 = .ok (.iconst 1, 1) := by decide +kernel
theorem dX10_isIn_10 : decode cX10_isIn 10 = .ok (.goto 4, 3) := by decide +kernel
theorem dX10_isIn_13 : decode cX10_isIn 13 = .ok (.iconst 0, 1) := by decide +kernel
theorem dX10_isIn_14 : decode cX10_isIn 14 = .ok (.ireturn, 1) := by decide +kernel
def f_X10_isIn (p0 : Int32) (p1 : Int32) : Option (Int32) := ob (if ((p0 >>> (p1 &&& 31)) &&& (1 : Int32)) = (1 : Int32) then some (1 : Int32) else some (0 : Int32)) (fun v1 => gu (v1 = 0 ∨ v1 = 1) (some v1))
set_option maxRecDepth 100000 in
set_option maxHeartbeats 4000000 in
theorem c_X10_isIn (p0 : Int32) (p1 : Int32) (s0 : sh_S) (r : Int32) (hf : f_X10_isIn p0 p1 = some r) : Ctr yX10_isIn cX10_isIn 2 (some .boolean) ({ frames := 0, cells := 0, slots := 0, locals := 0 } : Room) shNO [.int p0, .int p1] s0 (some (.int r)) s0 := by
  refine Ctr.mk (ri := .ireturn) (by decide) (Nat.le_of_ble_eq_true rfl) (Rt_z r) ?_
  intro G h hL hR hret
  refine k_drop (lv' := [(0, .int p0), (1, .int p1)]) [0, 1] rfl ?_
  unfold f_X10_isIn at hf
  refine k_iload_n (pc := 0) h dX10_isIn_0 rfl 0 rfl ?_
  refine k_iload_n (pc := 1) h dX10_isIn_1 rfl 1 rfl ?_
  refine k_ishr (pc := 2) h dX10_isIn_2 ?_
  refine k_iconst (pc := 3) h dX10_isIn_3 kc_iconst_1 ?_
  refine k_iand (pc := 4) h dX10_isIn_4 ?_
  refine k_iconst (pc := 5) h dX10_isIn_5 kc_iconst_1 ?_
  obtain ⟨v1, hj, hf⟩ := ob_s hf
  have kj6 : sh_K G shNO 14 [] [.int v1] s0 := by
    obtain ⟨g2, hf⟩ := gu_s hf
    cases hf
    exact hret 14 _ dX10_isIn_14 g2
  clear hf
  have hf := hj
  clear hj
  refine k_icmp_ne (pc := 6) (tgt := 13) h dX10_isIn_6 rfl (fun hc => ?_) (fun hc => ?_)
  · have hf := it_n hc hf
    refine k_iconst (pc := 13) h dX10_isIn_13 kc_iconst_0 ?_
    cases hf
    exact k_drop [] rfl kj6
  · have hf := it_p hc hf
    refine k_iconst (pc := 9) h dX10_isIn_9 kc_iconst_1 ?_
    refine k_goto (pc := 10) (tgt := 14) h dX10_isIn_10 rfl ?_
    cases hf
    exact k_drop [] rfl kj6
theorem dX10_many_0 : decode cX10_many 0 = .ok (.iconst 0, 1) := by decide +kernel
theorem dX10_many_1 : decode cX10_many 1 = .ok (.istore_n 1, 1) := by decide +kernel
theorem dX10_many_2 : decode cX10_many 2 = .ok (.iconst 0, 1) := by decide +kernel
theorem dX10_many_3 : decode cX10_many 3 = .ok (.istore_n 2, 1) := by decide +kernel
theorem dX10_many_4 : decode cX10_many 4 = .ok (.iload_n 2, 1) := by decide +kernel
theorem dX10_many_5 : decode cX10_many 5 = .ok (.bipush 24, 2) := by decide +kernel
theorem dX10_many_7 : decode cX10_many 7 = .ok (.if_icmp .ge 25, 3) := by decide +kernel
theorem dX10_many_10 : decode cX10_many 10 = .ok (.iload_n 1, 1) := by decide +kernel
theorem dX10_many_11 : decode cX10_many 11 = .ok (.iload_n 0, 1) := by decide +kernel
theorem dX10_many_12 : decode cX10_many 12 = .ok (.iload_n 2, 1) := by decide +kernel
theorem dX10_many_13 : decode cX10_many 13 = .ok (.invokestatic 89, 3) := by decide +kernel
theorem dX10_many_16 : decode cX10_many 16 = .ok (.ifCond .eq 7, 3) := by decide +kernel
theorem dX10_many_19 : decode cX10_many 19 = .ok (.iconst 1, 1) := by decide +kernel
theorem dX10_many_20 : decode cX10_many 20 = .ok (.goto 4, 3) := by decide +kernel
theorem dX10_many_23 : decode cX10_many 23 = .ok (.iconst 0, 1) := by decide +kernel
theorem dX10_many_24 : decode cX10_many 24 = .ok (.iadd, 1) := by decide +kernel
theorem dX10_many_25 : decode cX10_many 25 = .ok (.istore_n 1, 1) := by decide +kernel
theorem dX10_many_26 : decode cX10_many 26 = .ok (.iinc 2 1, 3) := by decide +kernel
theorem dX10_many_29 : decode cX10_many 29 = .ok (.goto (-25), 3) := by decide +kernel
theorem dX10_many_32 : decode cX10_many 32 = .ok (.iload_n 1, 1) := by decide +kernel
theorem dX10_many_33 : decode cX10_many 33 = .ok (.ireturn, 1) := by decide +kernel
def f_X10_many_L4 (p0 : Int32) (v1 : Int32) (v2 : Int32) : Option ((Int32 × Int32) ⊕ (Int32)) := (if (24 : Int32) ≤ v2 then some (.inr v1) else ob (f_X10_isIn p0 v2) (fun v4 => ob (if v4 = 0 then some (0 : Int32) else some (1 : Int32)) (fun v5 => lb ((v1 + v5)) (fun v6 => lb (v2 + (1 : Int32)) (fun v7 => some (.inl (v6, v7)))))))
def f_X10_many (p0 : Int32) : Option (Int32) := ob (lp (fun q => f_X10_many_L4 p0 q.1 q.2) FU ((0 : Int32), (0 : Int32))) (fun v3 => some v3)
set_option maxRecDepth 100000 in
set_option maxHeartbeats 4000000 in
theorem c_X10_many (p0 : Int32) (s0 : sh_S) (r : Int32) (hf : f_X10_many p0 = some r) : Ctr yX10_many cX10_many 3 (some .int) ({ frames := 1, cells := 0, slots := 0, locals := 21 } : Room) shNO [.int p0] s0 (some (.int r)) s0 := by
  refine Ctr.mk (ri := .ireturn) (by decide) (Nat.le_of_ble_eq_true rfl) (Rt_i r) ?_
  intro G h hL hR hret
  refine k_drop (lv' := [(0, .int p0)]) [0] rfl ?_
  unfold f_X10_many at hf
  refine k_iconst (pc := 0) h dX10_many_0 kc_iconst_0 ?_
  refine k_istore_n (pc := 1) h dX10_many_1 rfl (nk hL (by decide)) (lv' := [(0, .int p0), (1, .int (0 : Int32))]) rfl ?_
  refine k_iconst (pc := 2) h dX10_many_2 kc_iconst_0 ?_
  refine k_istore_n (pc := 3) h dX10_many_3 rfl (nk hL (by decide)) (lv' := [(0, .int p0), (1, .int (0 : Int32)), (2, .int (0 : Int32))]) rfl ?_
  obtain ⟨v3, hl, hf⟩ := ob_s hf
  refine k_drop (lv' := [(0, .int p0), (1, .int (0 : Int32)), (2, .int (0 : Int32))]) [0, 1, 2] rfl ?_
  refine lp_s (P := (fun q : Int32 × Int32 => sh_K G shNO 4 [(0, .int p0), (1, .int q.1), (2, .int q.2)] [] s0)) (Q := (fun q : Int32 => sh_K G shNO 32 [(1, .int q)] [] s0)) (s := ((0 : Int32), (0 : Int32))) ?_ hl ?_
  · clear hf hl
    intro q rr hf kc4
    obtain ⟨v1, v2⟩ := q
    have hf : f_X10_many_L4 p0 v1 v2 = some rr := hf
    unfold f_X10_many_L4 at hf
    refine k_iload_n (pc := 4) h dX10_many_4 rfl 2 rfl ?_
    refine k_bipush (pc := 5) h dX10_many_5 kc_bipush_24 ?_
    refine k_icmp_ge (pc := 7) (tgt := 32) h dX10_many_7 rfl (fun hc => ?_) (fun hc => ?_)
    · have hf := it_p hc hf
      cases hf
      exact k_drop [1] rfl kc4
    · have hf := it_n hc hf
      refine k_iload_n (pc := 10) h dX10_many_10 rfl 1 rfl ?_
      refine k_iload_n (pc := 11) h dX10_many_11 rfl 0 rfl ?_
      refine k_iload_n (pc := 12) h dX10_many_12 rfl 2 rfl ?_
      obtain ⟨v4, cv4, hf⟩ := ob_s hf
      refine k_callSp (pc := 13) h cs_RX10_89 (c_X10_isIn p0 v2 _ v4 cv4) rfl rfl (st1 := [.int v4, .int v1]) rfl ⟨rfl, rfl⟩ (rk hR (Nat.le_of_ble_eq_true rfl) (Nat.le_of_ble_eq_true rfl)) (Nat.le_of_ble_eq_true rfl) dX10_many_13 ?_
      obtain ⟨v5, hj, hf⟩ := ob_s hf
      have kj16 : sh_K G shNO 24 [(0, .int p0), (2, .int v2)] [.int v5, .int v1] s0 := by
        refine k_iadd (pc := 24) h dX10_many_24 ?_
        obtain ⟨v6, ev6, hf⟩ := lb_s hf
        refine k_top ev6 ?_
        refine k_istore_n (pc := 25) h dX10_many_25 rfl (nk hL (by decide)) (lv' := [(0, .int p0), (1, .int v6), (2, .int v2)]) rfl ?_
        obtain ⟨v7, ev7, hf⟩ := lb_s hf
        refine k_iinc (pc := 26) h dX10_many_26 2 rfl ((congrArg (_ + ·) kc_iconst_1).trans ev7.symm) (nk hL (by decide)) (lv' := [(0, .int p0), (1, .int v6), (2, .int v7)]) rfl ?_
        refine k_goto (pc := 29) (tgt := 4) h dX10_many_29 rfl ?_
        cases hf
        exact k_drop [0, 1, 2] rfl kc4
      clear hf
      have hf := hj
      clear hj
      refine k_if_eq (pc := 16) (tgt := 23) h dX10_many_16 rfl (fun hc => ?_) (fun hc => ?_)
      · have hf := it_p hc hf
        refine k_iconst (pc := 23) h dX10_many_23 kc_iconst_0 ?_
        cases hf
        exact k_drop [0, 2] rfl kj16
      · have hf := it_n hc hf
        refine k_iconst (pc := 19) h dX10_many_19 kc_iconst_1 ?_
        refine k_goto (pc := 20) (tgt := 24) h dX10_many_20 rfl ?_
        cases hf
        exact k_drop [0, 2] rfl kj16
  · refine k_iload_n (pc := 32) h dX10_many_32 rfl 0 rfl ?_
    cases hf
    exact hret 33 _ dX10_many_33 trivial
theorem dX9_hasBit_0 : decode cX9_hasBit 0 = .ok (.iload_n 0, 1) := by decide +kernel
theorem dX9_hasBit_1 : decode cX9_hasBit 1 = .ok (.iload_n 1, 1) := by decide +kernel
theorem dX9_hasBit_2 : decode cX9_hasBit 2 = .ok (.ishr, 1) := by decide +kernel
theorem dX9_hasBit_3 : decode cX9_hasBit 3 = .ok (.iconst 1, 1) := by decide +kernel
theorem dX9_hasBit_4 : decode cX9_hasBit 4 = .ok (.iand, 1) := by decide +kernel
theorem dX9_hasBit_5 : decode cX9_hasBit 5 = .ok (.iconst 1, 1) := by decide +kernel
theorem dX9_hasBit_6 : decode cX9_hasBit 6 = .ok (.if_icmp .ne 7, 3) := by decide +kernel
theorem dX9_hasBit_9 : decode cX9_hasBit 9 = .ok (.iconst 1, 1) := by decide +kernel
theorem dX9_hasBit_10 : decode cX9_hasBit 10 = .ok (.goto 4, 3) := by decide +kernel
theorem dX9_hasBit_13 : decode cX9_hasBit 13 = .ok (.iconst 0, 1) := by decide +kernel
theorem dX9_hasBit_14 : decode cX9_hasBit 14 = .ok (.ireturn, 1) := by decide +kernel
def f_X9_hasBit (p0 : Int32) (p1 : Int32) : Option (Int32) := ob (if ((p0 >>> (p1 &&& 31)) &&& (1 : Int32)) = (1 : Int32) then some (1 : Int32) else some (0 : Int32)) (fun v1 => gu (v1 = 0 ∨ v1 = 1) (some v1))
set_option maxRecDepth 100000 in
set_option maxHeartbeats 4000000 in
theorem c_X9_hasBit (p0 : Int32) (p1 : Int32) (s0 : sh_S) (r : Int32) (hf : f_X9_hasBit p0 p1 = some r) : Ctr yX9_hasBit cX9_hasBit 2 (some .boolean) ({ frames := 0, cells := 0, slots := 0, locals := 0 } : Room) shNO [.int p0, .int p1] s0 (some (.int r)) s0 := by
  refine Ctr.mk (ri := .ireturn) (by decide) (Nat.le_of_ble_eq_true rfl) (Rt_z r) ?_
  intro G h hL hR hret
  refine k_drop (lv' := [(0, .int p0), (1, .int p1)]) [0, 1] rfl ?_
  unfold f_X9_hasBit at hf
  refine k_iload_n (pc := 0) h dX9_hasBit_0 rfl 0 rfl ?_
  refine k_iload_n (pc := 1) h dX9_hasBit_1 rfl 1 rfl ?_
  refine k_ishr (pc := 2) h dX9_hasBit_2 ?_
  refine k_iconst (pc := 3) h dX9_hasBit_3 kc_iconst_1 ?_
  refine k_iand (pc := 4) h dX9_hasBit_4 ?_
  refine k_iconst (pc := 5) h dX9_hasBit_5 kc_iconst_1 ?_
  obtain ⟨v1, hj, hf⟩ := ob_s hf
  have kj6 : sh_K G shNO 14 [] [.int v1] s0 := by
    obtain ⟨g2, hf⟩ := gu_s hf
    cases hf
    exact hret 14 _ dX9_hasBit_14 g2
  clear hf
  have hf := hj
  clear hj
  refine k_icmp_ne (pc := 6) (tgt := 13) h dX9_hasBit_6 rfl (fun hc => ?_) (fun hc => ?_)
  · have hf := it_n hc hf
    refine k_iconst (pc := 13) h dX9_hasBit_13 kc_iconst_0 ?_
    cases hf
    exact k_drop [] rfl kj6
  · have hf := it_p hc hf
    refine k_iconst (pc := 9) h dX9_hasBit_9 kc_iconst_1 ?_
    refine k_goto (pc := 10) (tgt := 14) h dX9_hasBit_10 rfl ?_
    cases hf
    exact k_drop [] rfl kj6
theorem dX1_numberOfBit_0 : decode cX1_numberOfBit 0 = .ok (.iload_n 1, 1) := by decide +kernel
theorem dX1_numberOfBit_1 : decode cX1_numberOfBit 1 = .ok (.istore_n 2, 1) := by decide +kernel
theorem dX1_numberOfBit_2 : decode cX1_numberOfBit 2 = .ok (.iconst 0, 1) := by decide +kernel
theorem dX1_numberOfBit_3 : decode cX1_numberOfBit 3 = .ok (.istore_n 3, 1) := by decide +kernel
theorem dX1_numberOfBit_4 : decode cX1_numberOfBit 4 = .ok (.iload_n 3, 1) := by decide +kernel
theorem dX1_numberOfBit_5 : decode cX1_numberOfBit 5 = .ok (.bipush 24, 2) := by decide +kernel
theorem dX1_numberOfBit_7 : decode cX1_numberOfBit 7 = .ok (.if_icmp .ge 26, 3) := by decide +kernel
theorem dX1_numberOfBit_10 : decode cX1_numberOfBit 10 = .ok (.iload_n 0, 1) := by decide +kernel
theorem dX1_numberOfBit_11 : decode cX1_numberOfBit 11 = .ok (.iload_n 3, 1) := by decide +kernel
theorem dX1_numberOfBit_12 : decode cX1_numberOfBit 12 = .ok (.invokestatic 91, 3) := by decide +kernel
theorem dX1_numberOfBit_15 : decode cX1_numberOfBit 15 = .ok (.ifCond .eq 12, 3) := by decide +kernel
theorem dX1_numberOfBit_18 : decode cX1_numberOfBit 18 = .ok (.iload_n 2, 1) := by decide +kernel
theorem dX1_numberOfBit_19 : decode cX1_numberOfBit 19 = .ok (.ifCond .ne 5, 3) := by decide +kernel
theorem dX1_numberOfBit_22 : decode cX1_numberOfBit 22 = .ok (.iload_n 3, 1) := by decide +kernel
theorem dX1_numberOfBit_23 : decode cX1_numberOfBit 23 = .ok (.ireturn, 1) := by decide +kernel
theorem dX1_numberOfBit_24 : decode cX1_numberOfBit 24 = .ok (.iinc 2 (-1), 3) := by decide +kernel
theorem dX1_numberOfBit_27 : decode cX1_numberOfBit 27 = .ok (.iinc 3 1, 3) := by decide +kernel
theorem dX1_numberOfBit_30 : decode cX1_numberOfBit 30 = .ok (.goto (-26), 3) := by decide +kernel
theorem dX1_numberOfBit_33 : decode cX1_numberOfBit 33 = .ok (.iconst (-1), 1) := by decide +kernel
theorem dX1_numberOfBit_34 : decode cX1_numberOfBit 34 = .ok (.ireturn, 1) := by decide +kernel
def f_X1_numberOfBit_L4 (p0 : Int32) (v1 : Int32) (v2 : Int32) : Option ((Int32 × Int32) ⊕ ((Unit) ⊕ (Int32))) := (if (24 : Int32) ≤ v2 then some (.inr (.inl ())) else ob (f_X9_hasBit p0 v2) (fun v3 => (if v3 = 0 then lb (v2 + (1 : Int32)) (fun v4 => some (.inl (v1, v4))) else (if v1 = 0 then some (.inr (.inr v2)) else lb (v1 + (-1 : Int32)) (fun v5 => lb (v2 + (1 : Int32)) (fun v6 => some (.inl (v5, v6))))))))
def f_X1_numberOfBit (p0 : Int32) (p1 : Int32) : Option (Int32) := ob (lp (fun q => f_X1_numberOfBit_L4 p0 q.1 q.2) FU (p1, (0 : Int32))) (fun ee => sm ee (fun _ => some (-1 : Int32)) (fun q => some q))
set_option maxRecDepth 100000 in
set_option maxHeartbeats 4000000 in
theorem c_X1_numberOfBit (p0 : Int32) (p1 : Int32) (s0 : sh_S) (r : Int32) (hf : f_X1_numberOfBit p0 p1 = some r) : Ctr yX1_numberOfBit cX1_numberOfBit 4 (some .int) ({ frames := 1, cells := 0, slots := 0, locals := 21 } : Room) shNO [.int p0, .int p1] s0 (some (.int r)) s0 := by
  refine Ctr.mk (ri := .ireturn) (by decide) (Nat.le_of_ble_eq_true rfl) (Rt_i r) ?_
  intro G h hL hR hret
  refine k_drop (lv' := [(0, .int p0), (1, .int p1)]) [0, 1] rfl ?_
  unfold f_X1_numberOfBit at hf
  refine k_iload_n (pc := 0) h dX1_numberOfBit_0 rfl 1 rfl ?_
  refine k_istore_n (pc := 1) h dX1_numberOfBit_1 rfl (nk hL (by decide)) (lv' := [(0, .int p0), (1, .int p1), (2, .int p1)]) rfl ?_
  refine k_iconst (pc := 2) h dX1_numberOfBit_2 kc_iconst_0 ?_
  refine k_istore_n (pc := 3) h dX1_numberOfBit_3 rfl (nk hL (by decide)) (lv' := [(0, .int p0), (1, .int p1), (2, .int p1), (3, .int (0 : Int32))]) rfl ?_
  obtain ⟨ee, hl, hf⟩ := ob_s hf
  refine k_drop (lv' := [(0, .int p0), (2, .int p1), (3, .int (0 : Int32))]) [0, 2, 3] rfl ?_
  refine lp_s (P := (fun q : Int32 × Int32 => sh_K G shNO 4 [(0, .int p0), (2, .int q.1), (3, .int q.2)] [] s0)) (Q := (Sum.elim (fun q : Unit => sh_K G shNO 33 [] [] s0) (fun q : Int32 => q = r))) (s := (p1, (0 : Int32))) ?_ hl ?_
  · clear hf hl
    intro q rr hf kc4
    obtain ⟨v1, v2⟩ := q
    have hf : f_X1_numberOfBit_L4 p0 v1 v2 = some rr := hf
    unfold f_X1_numberOfBit_L4 at hf
    refine k_iload_n (pc := 4) h dX1_numberOfBit_4 rfl 2 rfl ?_
    refine k_bipush (pc := 5) h dX1_numberOfBit_5 kc_bipush_24 ?_
    refine k_icmp_ge (pc := 7) (tgt := 33) h dX1_numberOfBit_7 rfl (fun hc => ?_) (fun hc => ?_)
    · have hf := it_p hc hf
      cases hf
      exact k_drop [] rfl kc4
    · have hf := it_n hc hf
      refine k_iload_n (pc := 10) h dX1_numberOfBit_10 rfl 0 rfl ?_
      refine k_iload_n (pc := 11) h dX1_numberOfBit_11 rfl 2 rfl ?_
      obtain ⟨v3, cv3, hf⟩ := ob_s hf
      refine k_callNp (pc := 12) h cn_RX1_91 (c_X9_hasBit p0 v2 _ v3 cv3) rfl rfl (st1 := [.int v3]) rfl ⟨rfl, rfl⟩ (rk hR (Nat.le_of_ble_eq_true rfl) (Nat.le_of_ble_eq_true rfl)) (Nat.le_of_ble_eq_true rfl) dX1_numberOfBit_12 ?_
      refine k_if_eq (pc := 15) (tgt := 27) h dX1_numberOfBit_15 rfl (fun hc => ?_) (fun hc => ?_)
      · have hf := it_p hc hf
        obtain ⟨v4, ev4, hf⟩ := lb_s hf
        refine k_iinc (pc := 27) h dX1_numberOfBit_27 2 rfl ((congrArg (_ + ·) kc_iconst_1).trans ev4.symm) (nk hL (by decide)) (lv' := [(0, .int p0), (2, .int v1), (3, .int v4)]) rfl ?_
        refine k_goto (pc := 30) (tgt := 4) h dX1_numberOfBit_30 rfl ?_
        cases hf
        exact k_drop [0, 1, 2] rfl kc4
      · have hf := it_n hc hf
        refine k_iload_n (pc := 18) h dX1_numberOfBit_18 rfl 1 rfl ?_
        refine k_if_ne (pc := 19) (tgt := 24) h dX1_numberOfBit_19 rfl (fun hc => ?_) (fun hc => ?_)
        · have hf := it_n hc hf
          obtain ⟨v5, ev5, hf⟩ := lb_s hf
          refine k_iinc (pc := 24) h dX1_numberOfBit_24 1 rfl ((congrArg (_ + ·) kc_iconst_m1).trans ev5.symm) (nk hL (by decide)) (lv' := [(0, .int p0), (2, .int v5), (3, .int v2)]) rfl ?_
          obtain ⟨v6, ev6, hf⟩ := lb_s hf
          refine k_iinc (pc := 27) h dX1_numberOfBit_27 2 rfl ((congrArg (_ + ·) kc_iconst_1).trans ev6.symm) (nk hL (by decide)) (lv' := [(0, .int p0), (2, .int v5), (3, .int v6)]) rfl ?_
          refine k_goto (pc := 30) (tgt := 4) h dX1_numberOfBit_30 rfl ?_
          cases hf
          exact k_drop [0, 1, 2] rfl kc4
        · have hf := it_p hc hf
          refine k_iload_n (pc := 22) h dX1_numberOfBit_22 rfl 2 rfl ?_
          cases hf
          cases kc4
          exact hret 23 _ dX1_numberOfBit_23 trivial
  · cases ee with
    | inl qq =>
      refine k_iconst (pc := 33) h dX1_numberOfBit_33 kc_iconst_m1 ?_
      cases hf
      exact hret 34 _ dX1_numberOfBit_34 trivial
    | inr qq =>
      cases hf
      exact rfl
theorem dX10_isPoint_0 : decode cX10_isPoint 0 = .ok (.iload_n 1, 1) := by decide +kernel
theorem dX10_isPoint_1 : decode cX10_isPoint 1 = .ok (.iconst 0, 1) := by decide +kernel
theorem dX10_isPoint_2 : decode cX10_isPoint 2 = .ok (.aload_n 0, 1) := by decide +kernel
theorem dX10_isPoint_3 : decode cX10_isPoint 3 = .ok (.getfield 101, 3) := by decide +kernel
theorem dX10_isPoint_6 : decode cX10_isPoint 6 = .ok (.iconst 1, 1) := by decide +kernel
theorem dX10_isPoint_7 : decode cX10_isPoint 7 = .ok (.isub, 1) := by decide +kernel
theorem dX10_isPoint_8 : decode cX10_isPoint 8 = .ok (.invokestatic 93, 3) := by decide +kernel
theorem dX10_isPoint_11 : decode cX10_isPoint 11 = .ok (.ireturn, 1) := by decide +kernel
def f_X10_isPoint (p1 : Int32) (s0 : sh_S) : Option (Int32) := ob (f_X10_in p1 (0 : Int32) ((s0 0 0) - (1 : Int32))) (fun v1 => gu (v1 = 0 ∨ v1 = 1) (some v1))
set_option maxRecDepth 100000 in
set_option maxHeartbeats 4000000 in
theorem c_X10_isPoint (p1 : Int32) (s0 : sh_S) (r : Int32) (hf : f_X10_isPoint p1 s0 = some r) : Ctr yX10_isPoint cX10_isPoint 2 (some .boolean) ({ frames := 1, cells := 0, slots := 0, locals := 22 } : Room) shM [.ref 0, .int p1] s0 (some (.int r)) s0 := by
  refine Ctr.mk (ri := .ireturn) (by decide) (Nat.le_of_ble_eq_true rfl) (Rt_z r) ?_
  intro G h hL hR hret
  refine k_drop (lv' := [(0, .ref 0), (1, .int p1)]) [0, 1] rfl ?_
  unfold f_X10_isPoint at hf
  refine k_iload_n (pc := 0) h dX10_isPoint_0 rfl 1 rfl ?_
  refine k_iconst (pc := 1) h dX10_isPoint_1 kc_iconst_0 ?_
  refine k_aload_n (pc := 2) h dX10_isPoint_2 rfl 0 rfl ?_
  refine k_getI (pc := 3) h fl_RX10_101 rfl rfl dX10_isPoint_3 ?_
  refine k_iconst (pc := 6) h dX10_isPoint_6 kc_iconst_1 ?_
  refine k_isub (pc := 7) h dX10_isPoint_7 ?_
  obtain ⟨v1, cv1, hf⟩ := ob_s hf
  refine k_callSp (pc := 8) h cs_RX10_93 (c_X10_in p1 (0 : Int32) ((s0 0 0) - (1 : Int32)) _ v1 cv1) rfl rfl (st1 := [.int v1]) rfl ⟨rfl, rfl⟩ (rk hR (Nat.le_of_ble_eq_true rfl) (Nat.le_of_ble_eq_true rfl)) (Nat.le_of_ble_eq_true rfl) dX10_isPoint_8 ?_
  obtain ⟨g2, hf⟩ := gu_s hf
  cases hf
  exact hret 11 _ dX10_isPoint_11 g2
theorem dX10_there_0 : decode cX10_there 0 = .ok (.aload_n 0, 1) := by decide +kernel
theorem dX10_there_1 : decode cX10_there 1 = .ok (.iload_n 1, 1) := by decide +kernel
theorem dX10_there_2 : decode cX10_there 2 = .ok (.invokevirtual 109, 3) := by decide +kernel
theorem dX10_there_5 : decode cX10_there 5 = .ok (.ifCond .eq 9, 3) := by decide +kernel
theorem dX10_there_8 : decode cX10_there 8 = .ok (.iconst 1, 1) := by decide +kernel
theorem dX10_there_9 : decode cX10_there 9 = .ok (.iload_n 1, 1) := by decide +kernel
theorem dX10_there_10 : decode cX10_there 10 = .ok (.ishl, 1) := by decide +kernel
theorem dX10_there_11 : decode cX10_there 11 = .ok (.goto 4, 3) := by decide +kernel
theorem dX10_there_14 : decode cX10_there 14 = .ok (.iconst 0, 1) := by decide +kernel
theorem dX10_there_15 : decode cX10_there 15 = .ok (.ireturn, 1) := by decide +kernel
def f_X10_there (p1 : Int32) (s0 : sh_S) : Option (Int32) := ob (f_X10_isPoint p1 s0) (fun v1 => ob (if v1 = 0 then some (0 : Int32) else some ((1 : Int32) <<< (p1 &&& 31))) (fun v2 => some v2))
set_option maxRecDepth 100000 in
set_option maxHeartbeats 4000000 in
theorem c_X10_there (p1 : Int32) (s0 : sh_S) (r : Int32) (hf : f_X10_there p1 s0 = some r) : Ctr yX10_there cX10_there 2 (some .int) ({ frames := 2, cells := 0, slots := 0, locals := 43 } : Room) shM [.ref 0, .int p1] s0 (some (.int r)) s0 := by
  refine Ctr.mk (ri := .ireturn) (by decide) (Nat.le_of_ble_eq_true rfl) (Rt_i r) ?_
  intro G h hL hR hret
  refine k_drop (lv' := [(0, .ref 0), (1, .int p1)]) [0, 1] rfl ?_
  unfold f_X10_there at hf
  refine k_aload_n (pc := 0) h dX10_there_0 rfl 0 rfl ?_
  refine k_iload_n (pc := 1) h dX10_there_1 rfl 1 rfl ?_
  obtain ⟨v1, cv1, hf⟩ := ob_s hf
  refine k_callV0 (pc := 2) h cv_RX10_109 (c_X10_isPoint p1 s0 v1 cv1) rfl rfl rfl (st1 := [.int v1]) rfl ⟨rfl, rfl⟩ (rk hR (Nat.le_of_ble_eq_true rfl) (Nat.le_of_ble_eq_true rfl)) (Nat.le_of_ble_eq_true rfl) dX10_there_2 ?_
  obtain ⟨v2, hj, hf⟩ := ob_s hf
  have kj5 : sh_K G shM 15 [] [.int v2] s0 := by
    cases hf
    exact hret 15 _ dX10_there_15 trivial
  clear hf
  have hf := hj
  clear hj
  refine k_if_eq (pc := 5) (tgt := 14) h dX10_there_5 rfl (fun hc => ?_) (fun hc => ?_)
  · have hf := it_p hc hf
    refine k_iconst (pc := 14) h dX10_there_14 kc_iconst_0 ?_
    cases hf
    exact k_drop [] rfl kj5
  · have hf := it_n hc hf
    refine k_iconst (pc := 8) h dX10_there_8 kc_iconst_1 ?_
    refine k_iload_n (pc := 9) h dX10_there_9 rfl 1 rfl ?_
    refine k_ishl (pc := 10) h dX10_there_10 ?_
    refine k_goto (pc := 11) (tgt := 15) h dX10_there_11 rfl ?_
    cases hf
    exact k_drop [] rfl kj5
theorem dX10_nextOf_0 : decode cX10_nextOf 0 = .ok (.aload_n 0, 1) := by decide +kernel
theorem dX10_nextOf_1 : decode cX10_nextOf 1 = .ok (.getfield 7, 3) := by decide +kernel
theorem dX10_nextOf_4 : decode cX10_nextOf 4 = .ok (.iload_n 1, 1) := by decide +kernel
theorem dX10_nextOf_5 : decode cX10_nextOf 5 = .ok (.iaload, 1) := by decide +kernel
theorem dX10_nextOf_6 : decode cX10_nextOf 6 = .ok (.bipush 8, 2) := by decide +kernel
theorem dX10_nextOf_8 : decode cX10_nextOf 8 = .ok (.if_icmp .eq 14, 3) := by decide +kernel
theorem dX10_nextOf_11 : decode cX10_nextOf 11 = .ok (.aload_n 0, 1) := by decide +kernel
theorem dX10_nextOf_12 : decode cX10_nextOf 12 = .ok (.getfield 7, 3) := by decide +kernel
theorem dX10_nextOf_15 : decode cX10_nextOf 15 = .ok (.iload_n 1, 1) := by decide +kernel
theorem dX10_nextOf_16 : decode cX10_nextOf 16 = .ok (.iaload, 1) := by decide +kernel
theorem dX10_nextOf_17 : decode cX10_nextOf 17 = .ok (.bipush 9, 2) := by decide +kernel
theorem dX10_nextOf_19 : decode cX10_nextOf 19 = .ok (.if_icmp .ne 7, 3) := by decide +kernel
theorem dX10_nextOf_22 : decode cX10_nextOf 22 = .ok (.iconst 0, 1) := by decide +kernel
theorem dX10_nextOf_23 : decode cX10_nextOf 23 = .ok (.goto 10, 3) := by decide +kernel
theorem dX10_nextOf_26 : decode cX10_nextOf 26 = .ok (.aload_n 0, 1) := by decide +kernel
theorem dX10_nextOf_27 : decode cX10_nextOf 27 = .ok (.iload_n 1, 1) := by decide +kernel
theorem dX10_nextOf_28 : decode cX10_nextOf 28 = .ok (.iconst 1, 1) := by decide +kernel
theorem dX10_nextOf_29 : decode cX10_nextOf 29 = .ok (.iadd, 1) := by decide +kernel
theorem dX10_nextOf_30 : decode cX10_nextOf 30 = .ok (.invokevirtual 137, 3) := by decide +kernel
theorem dX10_nextOf_33 : decode cX10_nextOf 33 = .ok (.istore_n 2, 1) := by decide +kernel
theorem dX10_nextOf_34 : decode cX10_nextOf 34 = .ok (.aload_n 0, 1) := by decide +kernel
theorem dX10_nextOf_35 : decode cX10_nextOf 35 = .ok (.getfield 7, 3) := by decide +kernel
theorem dX10_nextOf_38 : decode cX10_nextOf 38 = .ok (.iload_n 1, 1) := by decide +kernel
theorem dX10_nextOf_39 : decode cX10_nextOf 39 = .ok (.iaload, 1) := by decide +kernel
theorem dX10_nextOf_40 : decode cX10_nextOf 40 = .ok (.bipush 8, 2) := by decide +kernel
theorem dX10_nextOf_42 : decode cX10_nextOf 42 = .ok (.if_icmp .eq 14, 3) := by decide +kernel
theorem dX10_nextOf_45 : decode cX10_nextOf 45 = .ok (.aload_n 0, 1) := by decide +kernel
theorem dX10_nextOf_46 : decode cX10_nextOf 46 = .ok (.getfield 7, 3) := by decide +kernel
theorem dX10_nextOf_49 : decode cX10_nextOf 49 = .ok (.iload_n 1, 1) := by decide +kernel
theorem dX10_nextOf_50 : decode cX10_nextOf 50 = .ok (.iaload, 1) := by decide +kernel
theorem dX10_nextOf_51 : decode cX10_nextOf 51 = .ok (.bipush 7, 2) := by decide +kernel
theorem dX10_nextOf_53 : decode cX10_nextOf 53 = .ok (.if_icmp .ne 16, 3) := by decide +kernel
theorem dX10_nextOf_56 : decode cX10_nextOf 56 = .ok (.aload_n 0, 1) := by decide +kernel
theorem dX10_nextOf_57 : decode cX10_nextOf 57 = .ok (.aload_n 0, 1) := by decide +kernel
theorem dX10_nextOf_58 : decode cX10_nextOf 58 = .ok (.getfield 19, 3) := by decide +kernel
theorem dX10_nextOf_61 : decode cX10_nextOf 61 = .ok (.iload_n 1, 1) := by decide +kernel
theorem dX10_nextOf_62 : decode cX10_nextOf 62 = .ok (.iaload, 1) := by decide +kernel
theorem dX10_nextOf_63 : decode cX10_nextOf 63 = .ok (.invokevirtual 137, 3) := by decide +kernel
theorem dX10_nextOf_66 : decode cX10_nextOf 66 = .ok (.goto 4, 3) := by decide +kernel
theorem dX10_nextOf_69 : decode cX10_nextOf 69 = .ok (.iconst 0, 1) := by decide +kernel
theorem dX10_nextOf_70 : decode cX10_nextOf 70 = .ok (.istore_n 3, 1) := by decide +kernel
theorem dX10_nextOf_71 : decode cX10_nextOf 71 = .ok (.iload_n 2, 1) := by decide +kernel
theorem dX10_nextOf_72 : decode cX10_nextOf 72 = .ok (.iload_n 3, 1) := by decide +kernel
theorem dX10_nextOf_73 : decode cX10_nextOf 73 = .ok (.ior, 1) := by decide +kernel
theorem dX10_nextOf_74 : decode cX10_nextOf 74 = .ok (.ireturn, 1) := by decide +kernel
def f_X10_nextOf (p1 : Int32) (s0 : sh_S) : Option (Int32) := gu (inb p1 24) (ob (if (s0 1 (ix p1)) = (8 : Int32) then some (0 : Int32) else gu (inb p1 24) ((if (s0 1 (ix p1)) = (9 : Int32) then some (0 : Int32) else ob (f_X10_there (p1 + (1 : Int32)) s0) (fun v4 => some v4)))) (fun v2 => gu (inb p1 24) (ob (if (s0 1 (ix p1)) = (8 : Int32) then gu (inb p1 24) (ob (f_X10_there (s0 4 (ix p1)) s0) (fun v8 => some v8)) else gu (inb p1 24) ((if (s0 1 (ix p1)) = (7 : Int32) then gu (inb p1 24) (ob (f_X10_there (s0 4 (ix p1)) s0) (fun v11 => some v11)) else some (0 : Int32)))) (fun v6 => some (v2 ||| v6)))))
set_option maxRecDepth 100000 in
set_option maxHeartbeats 4000000 in
theorem c_X10_nextOf (p1 : Int32) (s0 : sh_S) (r : Int32) (hf : f_X10_nextOf p1 s0 = some r) : Ctr yX10_nextOf cX10_nextOf 4 (some .int) ({ frames := 3, cells := 0, slots := 0, locals := 64 } : Room) shM [.ref 0, .int p1] s0 (some (.int r)) s0 := by
  refine Ctr.mk (ri := .ireturn) (by decide) (Nat.le_of_ble_eq_true rfl) (Rt_i r) ?_
  intro G h hL hR hret
  refine k_drop (lv' := [(0, .ref 0), (1, .int p1)]) [0, 1] rfl ?_
  unfold f_X10_nextOf at hf
  refine k_aload_n (pc := 0) h dX10_nextOf_0 rfl 0 rfl ?_
  refine k_getR (pc := 1) h fl_RX10_7 rfl rfl dX10_nextOf_1 ?_
  refine k_iload_n (pc := 4) h dX10_nextOf_4 rfl 1 rfl ?_
  obtain ⟨g1, hf⟩ := gu_s hf
  refine k_iald (pc := 5) (n := 24) h rfl g1 dX10_nextOf_5 ?_
  refine k_bipush (pc := 6) h dX10_nextOf_6 kc_bipush_8 ?_
  obtain ⟨v2, hj, hf⟩ := ob_s hf
  have kj8 : sh_K G shM 33 [(0, .ref 0), (1, .int p1)] [.int v2] s0 := by
    refine k_istore_n (pc := 33) h dX10_nextOf_33 rfl (nk hL (by decide)) (lv' := [(0, .ref 0), (1, .int p1), (2, .int v2)]) rfl ?_
    refine k_aload_n (pc := 34) h dX10_nextOf_34 rfl 0 rfl ?_
    refine k_getR (pc := 35) h fl_RX10_7 rfl rfl dX10_nextOf_35 ?_
    refine k_iload_n (pc := 38) h dX10_nextOf_38 rfl 1 rfl ?_
    obtain ⟨g5, hf⟩ := gu_s hf
    refine k_iald (pc := 39) (n := 24) h rfl g5 dX10_nextOf_39 ?_
    refine k_bipush (pc := 40) h dX10_nextOf_40 kc_bipush_8 ?_
    obtain ⟨v6, hj, hf⟩ := ob_s hf
    have kj42 : sh_K G shM 70 [(2, .int v2)] [.int v6] s0 := by
      refine k_istore_n (pc := 70) h dX10_nextOf_70 rfl (nk hL (by decide)) (lv' := [(2, .int v2), (3, .int v6)]) rfl ?_
      refine k_iload_n (pc := 71) h dX10_nextOf_71 rfl 0 rfl ?_
      refine k_iload_n (pc := 72) h dX10_nextOf_72 rfl 1 rfl ?_
      refine k_ior (pc := 73) h dX10_nextOf_73 ?_
      cases hf
      exact hret 74 _ dX10_nextOf_74 trivial
    clear hf
    have hf := hj
    clear hj
    refine k_icmp_eq (pc := 42) (tgt := 56) h dX10_nextOf_42 rfl (fun hc => ?_) (fun hc => ?_)
    · have hf := it_p hc hf
      refine k_aload_n (pc := 56) h dX10_nextOf_56 rfl 0 rfl ?_
      refine k_aload_n (pc := 57) h dX10_nextOf_57 rfl 0 rfl ?_
      refine k_getR (pc := 58) h fl_RX10_19 rfl rfl dX10_nextOf_58 ?_
      refine k_iload_n (pc := 61) h dX10_nextOf_61 rfl 1 rfl ?_
      obtain ⟨g7, hf⟩ := gu_s hf
      refine k_iald (pc := 62) (n := 24) h rfl g7 dX10_nextOf_62 ?_
      obtain ⟨v8, cv8, hf⟩ := ob_s hf
      refine k_callV0 (pc := 63) h cv_RX10_137 (c_X10_there (s0 4 (ix p1)) s0 v8 cv8) rfl rfl rfl (st1 := [.int v8]) rfl ⟨rfl, rfl⟩ (rk hR (Nat.le_of_ble_eq_true rfl) (Nat.le_of_ble_eq_true rfl)) (Nat.le_of_ble_eq_true rfl) dX10_nextOf_63 ?_
      refine k_goto (pc := 66) (tgt := 70) h dX10_nextOf_66 rfl ?_
      cases hf
      exact k_drop [2] rfl kj42
    · have hf := it_n hc hf
      refine k_aload_n (pc := 45) h dX10_nextOf_45 rfl 0 rfl ?_
      refine k_getR (pc := 46) h fl_RX10_7 rfl rfl dX10_nextOf_46 ?_
      refine k_iload_n (pc := 49) h dX10_nextOf_49 rfl 1 rfl ?_
      obtain ⟨g9, hf⟩ := gu_s hf
      refine k_iald (pc := 50) (n := 24) h rfl g9 dX10_nextOf_50 ?_
      refine k_bipush (pc := 51) h dX10_nextOf_51 kc_bipush_7 ?_
      refine k_icmp_ne (pc := 53) (tgt := 69) h dX10_nextOf_53 rfl (fun hc => ?_) (fun hc => ?_)
      · have hf := it_n hc hf
        refine k_iconst (pc := 69) h dX10_nextOf_69 kc_iconst_0 ?_
        cases hf
        exact k_drop [2] rfl kj42
      · have hf := it_p hc hf
        refine k_aload_n (pc := 56) h dX10_nextOf_56 rfl 0 rfl ?_
        refine k_aload_n (pc := 57) h dX10_nextOf_57 rfl 0 rfl ?_
        refine k_getR (pc := 58) h fl_RX10_19 rfl rfl dX10_nextOf_58 ?_
        refine k_iload_n (pc := 61) h dX10_nextOf_61 rfl 1 rfl ?_
        obtain ⟨g10, hf⟩ := gu_s hf
        refine k_iald (pc := 62) (n := 24) h rfl g10 dX10_nextOf_62 ?_
        obtain ⟨v11, cv11, hf⟩ := ob_s hf
        refine k_callV0 (pc := 63) h cv_RX10_137 (c_X10_there (s0 4 (ix p1)) s0 v11 cv11) rfl rfl rfl (st1 := [.int v11]) rfl ⟨rfl, rfl⟩ (rk hR (Nat.le_of_ble_eq_true rfl) (Nat.le_of_ble_eq_true rfl)) (Nat.le_of_ble_eq_true rfl) dX10_nextOf_63 ?_
        refine k_goto (pc := 66) (tgt := 70) h dX10_nextOf_66 rfl ?_
        cases hf
        exact k_drop [2] rfl kj42
  clear hf
  have hf := hj
  clear hj
  refine k_icmp_eq (pc := 8) (tgt := 22) h dX10_nextOf_8 rfl (fun hc => ?_) (fun hc => ?_)
  · have hf := it_p hc hf
    refine k_iconst (pc := 22) h dX10_nextOf_22 kc_iconst_0 ?_
    refine k_goto (pc := 23) (tgt := 33) h dX10_nextOf_23 rfl ?_
    cases hf
    exact k_drop [0, 1] rfl kj8
  · have hf := it_n hc hf
    refine k_aload_n (pc := 11) h dX10_nextOf_11 rfl 0 rfl ?_
    refine k_getR (pc := 12) h fl_RX10_7 rfl rfl dX10_nextOf_12 ?_
    refine k_iload_n (pc := 15) h dX10_nextOf_15 rfl 1 rfl ?_
    obtain ⟨g3, hf⟩ := gu_s hf
    refine k_iald (pc := 16) (n := 24) h rfl g3 dX10_nextOf_16 ?_
    refine k_bipush (pc := 17) h dX10_nextOf_17 kc_bipush_9 ?_
    refine k_icmp_ne (pc := 19) (tgt := 26) h dX10_nextOf_19 rfl (fun hc => ?_) (fun hc => ?_)
    · have hf := it_n hc hf
      refine k_aload_n (pc := 26) h dX10_nextOf_26 rfl 0 rfl ?_
      refine k_iload_n (pc := 27) h dX10_nextOf_27 rfl 1 rfl ?_
      refine k_iconst (pc := 28) h dX10_nextOf_28 kc_iconst_1 ?_
      refine k_iadd (pc := 29) h dX10_nextOf_29 ?_
      obtain ⟨v4, cv4, hf⟩ := ob_s hf
      refine k_callV0 (pc := 30) h cv_RX10_137 (c_X10_there (p1 + (1 : Int32)) s0 v4 cv4) rfl rfl rfl (st1 := [.int v4]) rfl ⟨rfl, rfl⟩ (rk hR (Nat.le_of_ble_eq_true rfl) (Nat.le_of_ble_eq_true rfl)) (Nat.le_of_ble_eq_true rfl) dX10_nextOf_30 ?_
      cases hf
      exact k_drop [0, 1] rfl kj8
    · have hf := it_p hc hf
      refine k_iconst (pc := 22) h dX10_nextOf_22 kc_iconst_0 ?_
      refine k_goto (pc := 23) (tgt := 33) h dX10_nextOf_23 rfl ?_
      cases hf
      exact k_drop [0, 1] rfl kj8
theorem dX10_lends_0 : decode cX10_lends 0 = .ok (.aload_n 0, 1) := by decide +kernel
theorem dX10_lends_1 : decode cX10_lends 1 = .ok (.getfield 7, 3) := by decide +kernel
theorem dX10_lends_4 : decode cX10_lends 4 = .ok (.iload_n 1, 1) := by decide +kernel
theorem dX10_lends_5 : decode cX10_lends 5 = .ok (.iaload, 1) := by decide +kernel
theorem dX10_lends_6 : decode cX10_lends 6 = .ok (.iconst 3, 1) := by decide +kernel
theorem dX10_lends_7 : decode cX10_lends 7 = .ok (.iconst 5, 1) := by decide +kernel
theorem dX10_lends_8 : decode cX10_lends 8 = .ok (.invokestatic 93, 3) := by decide +kernel
theorem dX10_lends_11 : decode cX10_lends 11 = .ok (.ireturn, 1) := by decide +kernel
def f_X10_lends (p1 : Int32) (s0 : sh_S) : Option (Int32) := gu (inb p1 24) (ob (f_X10_in (s0 1 (ix p1)) (3 : Int32) (5 : Int32)) (fun v2 => gu (v2 = 0 ∨ v2 = 1) (some v2)))
set_option maxRecDepth 100000 in
set_option maxHeartbeats 4000000 in
theorem c_X10_lends (p1 : Int32) (s0 : sh_S) (r : Int32) (hf : f_X10_lends p1 s0 = some r) : Ctr yX10_lends cX10_lends 2 (some .boolean) ({ frames := 1, cells := 0, slots := 0, locals := 22 } : Room) shM [.ref 0, .int p1] s0 (some (.int r)) s0 := by
  refine Ctr.mk (ri := .ireturn) (by decide) (Nat.le_of_ble_eq_true rfl) (Rt_z r) ?_
  intro G h hL hR hret
  refine k_drop (lv' := [(0, .ref 0), (1, .int p1)]) [0, 1] rfl ?_
  unfold f_X10_lends at hf
  refine k_aload_n (pc := 0) h dX10_lends_0 rfl 0 rfl ?_
  refine k_getR (pc := 1) h fl_RX10_7 rfl rfl dX10_lends_1 ?_
  refine k_iload_n (pc := 4) h dX10_lends_4 rfl 1 rfl ?_
  obtain ⟨g1, hf⟩ := gu_s hf
  refine k_iald (pc := 5) (n := 24) h rfl g1 dX10_lends_5 ?_
  refine k_iconst (pc := 6) h dX10_lends_6 kc_iconst_3 ?_
  refine k_iconst (pc := 7) h dX10_lends_7 kc_iconst_5 ?_
  obtain ⟨v2, cv2, hf⟩ := ob_s hf
  refine k_callSp (pc := 8) h cs_RX10_93 (c_X10_in (s0 1 (ix p1)) (3 : Int32) (5 : Int32) _ v2 cv2) rfl rfl (st1 := [.int v2]) rfl ⟨rfl, rfl⟩ (rk hR (Nat.le_of_ble_eq_true rfl) (Nat.le_of_ble_eq_true rfl)) (Nat.le_of_ble_eq_true rfl) dX10_lends_8 ?_
  obtain ⟨g3, hf⟩ := gu_s hf
  cases hf
  exact hret 11 _ dX10_lends_11 g3
theorem dX10_findsReached_0 : decode cX10_findsReached 0 = .ok (.aload_n 0, 1) := by decide +kernel
theorem dX10_findsReached_1 : decode cX10_findsReached 1 = .ok (.aload_n 0, 1) := by decide +kernel
theorem dX10_findsReached_2 : decode cX10_findsReached 2 = .ok (.iconst 0, 1) := by decide +kernel
theorem dX10_findsReached_3 : decode cX10_findsReached 3 = .ok (.invokevirtual 137, 3) := by decide +kernel
theorem dX10_findsReached_6 : decode cX10_findsReached 6 = .ok (.putfield 146, 3) := by decide +kernel
theorem dX10_findsReached_9 : decode cX10_findsReached 9 = .ok (.iconst 0, 1) := by decide +kernel
theorem dX10_findsReached_10 : decode cX10_findsReached 10 = .ok (.istore_n 1, 1) := by decide +kernel
theorem dX10_findsReached_11 : decode cX10_findsReached 11 = .ok (.iload_n 1, 1) := by decide +kernel
theorem dX10_findsReached_12 : decode cX10_findsReached 12 = .ok (.aload_n 0, 1) := by decide +kernel
theorem dX10_findsReached_13 : decode cX10_findsReached 13 = .ok (.getfield 101, 3) := by decide +kernel
theorem dX10_findsReached_16 : decode cX10_findsReached 16 = .ok (.if_icmp .ge 54, 3) := by decide +kernel
theorem dX10_findsReached_19 : decode cX10_findsReached 19 = .ok (.iconst 0, 1) := by decide +kernel
theorem dX10_findsReached_20 : decode cX10_findsReached 20 = .ok (.istore_n 2, 1) := by decide +kernel
theorem dX10_findsReached_21 : decode cX10_findsReached 21 = .ok (.iload_n 2, 1) := by decide +kernel
theorem dX10_findsReached_22 : decode cX10_findsReached 22 = .ok (.aload_n 0, 1) := by decide +kernel
theorem dX10_findsReached_23 : decode cX10_findsReached 23 = .ok (.getfield 101, 3) := by decide +kernel
theorem dX10_findsReached_26 : decode cX10_findsReached 26 = .ok (.if_icmp .ge 38, 3) := by decide +kernel
theorem dX10_findsReached_29 : decode cX10_findsReached 29 = .ok (.aload_n 0, 1) := by decide +kernel
theorem dX10_findsReached_30 : decode cX10_findsReached 30 = .ok (.dup, 1) := by decide +kernel
theorem dX10_findsReached_31 : decode cX10_findsReached 31 = .ok (.getfield 146, 3) := by decide +kernel
theorem dX10_findsReached_34 : decode cX10_findsReached 34 = .ok (.aload_n 0, 1) := by decide +kernel
theorem dX10_findsReached_35 : decode cX10_findsReached 35 = .ok (.getfield 146, 3) := by decide +kernel
theorem dX10_findsReached_38 : decode cX10_findsReached 38 = .ok (.iload_n 2, 1) := by decide +kernel
theorem dX10_findsReached_39 : decode cX10_findsReached 39 = .ok (.invokestatic 89, 3) := by decide +kernel
theorem dX10_findsReached_42 : decode cX10_findsReached 42 = .ok (.ifCond .eq 11, 3) := by decide +kernel
theorem dX10_findsReached_45 : decode cX10_findsReached 45 = .ok (.aload_n 0, 1) := by decide +kernel
theorem dX10_findsReached_46 : decode cX10_findsReached 46 = .ok (.iload_n 2, 1) := by decide +kernel
theorem dX10_findsReached_47 : decode cX10_findsReached 47 = .ok (.invokevirtual 140, 3) := by decide +kernel
theorem dX10_findsReached_50 : decode cX10_findsReached 50 = .ok (.goto 4, 3) := by decide +kernel
theorem dX10_findsReached_53 : decode cX10_findsReached 53 = .ok (.iconst 0, 1) := by decide +kernel
theorem dX10_findsReached_54 : decode cX10_findsReached 54 = .ok (.ior, 1) := by decide +kernel
theorem dX10_findsReached_55 : decode cX10_findsReached 55 = .ok (.putfield 146, 3) := by decide +kernel
theorem dX10_findsReached_58 : decode cX10_findsReached 58 = .ok (.iinc 2 1, 3) := by decide +kernel
theorem dX10_findsReached_61 : decode cX10_findsReached 61 = .ok (.goto (-40), 3) := by decide +kernel
theorem dX10_findsReached_64 : decode cX10_findsReached 64 = .ok (.iinc 1 1, 3) := by decide +kernel
theorem dX10_findsReached_67 : decode cX10_findsReached 67 = .ok (.goto (-56), 3) := by decide +kernel
theorem dX10_findsReached_70 : decode cX10_findsReached 70 = .ok (.aload_n 0, 1) := by decide +kernel
theorem dX10_findsReached_71 : decode cX10_findsReached 71 = .ok (.iconst 0, 1) := by decide +kernel
theorem dX10_findsReached_72 : decode cX10_findsReached 72 = .ok (.putfield 149, 3) := by decide +kernel
theorem dX10_findsReached_75 : decode cX10_findsReached 75 = .ok (.iconst 0, 1) := by decide +kernel
theorem dX10_findsReached_76 : decode cX10_findsReached 76 = .ok (.istore_n 1, 1) := by decide +kernel
theorem dX10_findsReached_77 : decode cX10_findsReached 77 = .ok (.iload_n 1, 1) := by decide +kernel
theorem dX10_findsReached_78 : decode cX10_findsReached 78 = .ok (.aload_n 0, 1) := by decide +kernel
theorem dX10_findsReached_79 : decode cX10_findsReached 79 = .ok (.getfield 101, 3) := by decide +kernel
theorem dX10_findsReached_82 : decode cX10_findsReached 82 = .ok (.if_icmp .ge 44, 3) := by decide +kernel
theorem dX10_findsReached_85 : decode cX10_findsReached 85 = .ok (.aload_n 0, 1) := by decide +kernel
theorem dX10_findsReached_86 : decode cX10_findsReached 86 = .ok (.dup, 1) := by decide +kernel
theorem dX10_findsReached_87 : decode cX10_findsReached 87 = .ok (.getfield 149, 3) := by decide +kernel
theorem dX10_findsReached_90 : decode cX10_findsReached 90 = .ok (.aload_n 0, 1) := by decide +kernel
theorem dX10_findsReached_91 : decode cX10_findsReached 91 = .ok (.iload_n 1, 1) := by decide +kernel
theorem dX10_findsReached_92 : decode cX10_findsReached 92 = .ok (.invokevirtual 143, 3) := by decide +kernel
theorem dX10_findsReached_95 : decode cX10_findsReached 95 = .ok (.ifCond .eq 20, 3) := by decide +kernel
theorem dX10_findsReached_98 : decode cX10_findsReached 98 = .ok (.aload_n 0, 1) := by decide +kernel
theorem dX10_findsReached_99 : decode cX10_findsReached 99 = .ok (.getfield 146, 3) := by decide +kernel
theorem dX10_findsReached_102 : decode cX10_findsReached 102 = .ok (.iload_n 1, 1) := by decide +kernel
theorem dX10_findsReached_103 : decode cX10_findsReached 103 = .ok (.invokestatic 89, 3) := by decide +kernel
theorem dX10_findsReached_106 : decode cX10_findsReached 106 = .ok (.ifCond .eq 9, 3) := by decide +kernel
theorem dX10_findsReached_109 : decode cX10_findsReached 109 = .ok (.iconst 1, 1) := by decide +kernel
theorem dX10_findsReached_110 : decode cX10_findsReached 110 = .ok (.iload_n 1, 1) := by decide +kernel
theorem dX10_findsReached_111 : decode cX10_findsReached 111 = .ok (.ishl, 1) := by decide +kernel
theorem dX10_findsReached_112 : decode cX10_findsReached 112 = .ok (.goto 4, 3) := by decide +kernel
theorem dX10_findsReached_115 : decode cX10_findsReached 115 = .ok (.iconst 0, 1) := by decide +kernel
theorem dX10_findsReached_116 : decode cX10_findsReached 116 = .ok (.ior, 1) := by decide +kernel
theorem dX10_findsReached_117 : decode cX10_findsReached 117 = .ok (.putfield 149, 3) := by decide +kernel
theorem dX10_findsReached_120 : decode cX10_findsReached 120 = .ok (.iinc 1 1, 3) := by decide +kernel
theorem dX10_findsReached_123 : decode cX10_findsReached 123 = .ok (.goto (-46), 3) := by decide +kernel
theorem dX10_findsReached_126 : decode cX10_findsReached 126 = .ok (.return_, 1) := by decide +kernel
def f_X10_findsReached_L21 (v6 : Int32) (s7 : sh_S) : Option ((Int32 × sh_S) ⊕ (sh_S)) := (if (s7 0 0) ≤ v6 then some (.inr s7) else ob (f_X10_isIn (s7 0 5) v6) (fun v9 => ob (if v9 = 0 then some (0 : Int32) else ob (f_X10_nextOf v6 s7) (fun v11 => some v11)) (fun v10 => lb (ur s7 0 (upd (s7 0) 5 ((s7 0 5) ||| v10))) (fun s12 => lb (v6 + (1 : Int32)) (fun v13 => some (.inl (v13, s12)))))))
def f_X10_findsReached_L11 (v3 : Int32) (s4 : sh_S) : Option ((Int32 × sh_S) ⊕ (sh_S)) := (if (s4 0 0) ≤ v3 then some (.inr s4) else ob (lp (fun q => f_X10_findsReached_L21 q.1 q.2) FU ((0 : Int32), s4)) (fun s8 => lb (v3 + (1 : Int32)) (fun v14 => some (.inl (v14, s8)))))
def f_X10_findsReached_L77 (v16 : Int32) (s17 : sh_S) : Option ((Int32 × sh_S) ⊕ (sh_S)) := (if (s17 0 0) ≤ v16 then some (.inr s17) else ob (f_X10_lends v16 s17) (fun v19 => ob (if v19 = 0 then some (0 : Int32) else ob (f_X10_isIn (s17 0 5) v16) (fun v21 => (if v21 = 0 then some (0 : Int32) else some ((1 : Int32) <<< (v16 &&& 31))))) (fun v20 => lb (ur s17 0 (upd (s17 0) 6 ((s17 0 6) ||| v20))) (fun s22 => lb (v16 + (1 : Int32)) (fun v23 => some (.inl (v23, s22)))))))
def f_X10_findsReached  (s0 : sh_S) : Option (sh_S) := ob (f_X10_there (0 : Int32) s0) (fun v1 => lb (ur s0 0 (upd (s0 0) 5 v1)) (fun s2 => ob (lp (fun q => f_X10_findsReached_L11 q.1 q.2) FU ((0 : Int32), s2)) (fun s5 => lb (ur s5 0 (upd (s5 0) 6 (0 : Int32))) (fun s15 => ob (lp (fun q => f_X10_findsReached_L77 q.1 q.2) FU ((0 : Int32), s15)) (fun s18 => some s18)))))
set_option maxRecDepth 100000 in
set_option maxHeartbeats 4000000 in
theorem c_X10_findsReached  (s0 : sh_S) (s9x : sh_S) (hf : f_X10_findsReached  s0 = some s9x) : Ctr yX10_findsReached cX10_findsReached 3 none ({ frames := 4, cells := 0, slots := 0, locals := 87 } : Room) shM [.ref 0] s0 none s9x := by
  refine Ctr.mk (ri := .return_) (by decide) (Nat.le_of_ble_eq_true rfl) (Rt_v) ?_
  intro G h hL hR hret
  refine k_drop (lv' := [(0, .ref 0)]) [0] rfl ?_
  unfold f_X10_findsReached at hf
  refine k_aload_n (pc := 0) h dX10_findsReached_0 rfl 0 rfl ?_
  refine k_aload_n (pc := 1) h dX10_findsReached_1 rfl 0 rfl ?_
  refine k_iconst (pc := 2) h dX10_findsReached_2 kc_iconst_0 ?_
  obtain ⟨v1, cv1, hf⟩ := ob_s hf
  refine k_callV0 (pc := 3) h cv_RX10_137 (c_X10_there (0 : Int32) s0 v1 cv1) rfl rfl rfl (st1 := [.int v1, .ref 0]) rfl ⟨rfl, rfl⟩ (rk hR (Nat.le_of_ble_eq_true rfl) (Nat.le_of_ble_eq_true rfl)) (Nat.le_of_ble_eq_true rfl) dX10_findsReached_3 ?_
  obtain ⟨s2, es2, hf⟩ := lb_s hf
  refine k_put (pc := 6) h fl_RX10_146 fp_X10_5 rfl rfl rfl rfl dX10_findsReached_6 ?_
  refine k_heap es2 ?_
  refine k_iconst (pc := 9) h dX10_findsReached_9 kc_iconst_0 ?_
  refine k_istore_n (pc := 10) h dX10_findsReached_10 rfl (nk hL (by decide)) (lv' := [(0, .ref 0), (1, .int (0 : Int32))]) rfl ?_
  obtain ⟨s5, hl, hf⟩ := ob_s hf
  refine k_drop (lv' := [(0, .ref 0), (1, .int (0 : Int32))]) [0, 1] rfl ?_
  refine lp_s (P := (fun q : Int32 × sh_S => sh_K G shM 11 [(0, .ref 0), (1, .int q.1)] [] q.2)) (Q := (fun q : sh_S => sh_K G shM 70 [(0, .ref 0)] [] q)) (s := ((0 : Int32), s2)) ?_ hl ?_
  · clear hf hl
    intro q rr hf kc11
    obtain ⟨v3, s4⟩ := q
    have hf : f_X10_findsReached_L11 v3 s4 = some rr := hf
    unfold f_X10_findsReached_L11 at hf
    refine k_iload_n (pc := 11) h dX10_findsReached_11 rfl 1 rfl ?_
    refine k_aload_n (pc := 12) h dX10_findsReached_12 rfl 0 rfl ?_
    refine k_getI (pc := 13) h fl_RX10_101 rfl rfl dX10_findsReached_13 ?_
    refine k_icmp_ge (pc := 16) (tgt := 70) h dX10_findsReached_16 rfl (fun hc => ?_) (fun hc => ?_)
    · have hf := it_p hc hf
      cases hf
      exact k_drop [0] rfl kc11
    · have hf := it_n hc hf
      refine k_iconst (pc := 19) h dX10_findsReached_19 kc_iconst_0 ?_
      refine k_istore_n (pc := 20) h dX10_findsReached_20 rfl (nk hL (by decide)) (lv' := [(0, .ref 0), (1, .int v3), (2, .int (0 : Int32))]) rfl ?_
      obtain ⟨s8, hl, hf⟩ := ob_s hf
      refine k_drop (lv' := [(0, .ref 0), (1, .int v3), (2, .int (0 : Int32))]) [0, 1, 2] rfl ?_
      refine lp_s (P := (fun q : Int32 × sh_S => sh_K G shM 21 [(0, .ref 0), (1, .int v3), (2, .int q.1)] [] q.2)) (Q := (fun q : sh_S => sh_K G shM 64 [(0, .ref 0), (1, .int v3)] [] q)) (s := ((0 : Int32), s4)) ?_ hl ?_
      · clear hf hl
        intro q rr hf kc21
        obtain ⟨v6, s7⟩ := q
        have hf : f_X10_findsReached_L21 v6 s7 = some rr := hf
        unfold f_X10_findsReached_L21 at hf
        refine k_iload_n (pc := 21) h dX10_findsReached_21 rfl 2 rfl ?_
        refine k_aload_n (pc := 22) h dX10_findsReached_22 rfl 0 rfl ?_
        refine k_getI (pc := 23) h fl_RX10_101 rfl rfl dX10_findsReached_23 ?_
        refine k_icmp_ge (pc := 26) (tgt := 64) h dX10_findsReached_26 rfl (fun hc => ?_) (fun hc => ?_)
        · have hf := it_p hc hf
          cases hf
          exact k_drop [0, 1] rfl kc21
        · have hf := it_n hc hf
          refine k_aload_n (pc := 29) h dX10_findsReached_29 rfl 0 rfl ?_
          refine k_dup (pc := 30) h dX10_findsReached_30 rfl ?_
          refine k_getI (pc := 31) h fl_RX10_146 rfl rfl dX10_findsReached_31 ?_
          refine k_aload_n (pc := 34) h dX10_findsReached_34 rfl 0 rfl ?_
          refine k_getI (pc := 35) h fl_RX10_146 rfl rfl dX10_findsReached_35 ?_
          refine k_iload_n (pc := 38) h dX10_findsReached_38 rfl 2 rfl ?_
          obtain ⟨v9, cv9, hf⟩ := ob_s hf
          refine k_callSp (pc := 39) h cs_RX10_89 (c_X10_isIn (s7 0 5) v6 _ v9 cv9) rfl rfl (st1 := [.int v9, .int (s7 0 5), .ref 0]) rfl ⟨rfl, rfl⟩ (rk hR (Nat.le_of_ble_eq_true rfl) (Nat.le_of_ble_eq_true rfl)) (Nat.le_of_ble_eq_true rfl) dX10_findsReached_39 ?_
          obtain ⟨v10, hj, hf⟩ := ob_s hf
          have kj42 : sh_K G shM 54 [(0, .ref 0), (1, .int v3), (2, .int v6)] [.int v10, .int (s7 0 5), .ref 0] s7 := by
            refine k_ior (pc := 54) h dX10_findsReached_54 ?_
            obtain ⟨s12, es12, hf⟩ := lb_s hf
            refine k_put (pc := 55) h fl_RX10_146 fp_X10_5 rfl rfl rfl rfl dX10_findsReached_55 ?_
            refine k_heap es12 ?_
            obtain ⟨v13, ev13, hf⟩ := lb_s hf
            refine k_iinc (pc := 58) h dX10_findsReached_58 2 rfl ((congrArg (_ + ·) kc_iconst_1).trans ev13.symm) (nk hL (by decide)) (lv' := [(0, .ref 0), (1, .int v3), (2, .int v13)]) rfl ?_
            refine k_goto (pc := 61) (tgt := 21) h dX10_findsReached_61 rfl ?_
            cases hf
            exact k_drop [0, 1, 2] rfl kc21
          clear hf
          have hf := hj
          clear hj
          refine k_if_eq (pc := 42) (tgt := 53) h dX10_findsReached_42 rfl (fun hc => ?_) (fun hc => ?_)
          · have hf := it_p hc hf
            refine k_iconst (pc := 53) h dX10_findsReached_53 kc_iconst_0 ?_
            cases hf
            exact k_drop [0, 1, 2] rfl kj42
          · have hf := it_n hc hf
            refine k_aload_n (pc := 45) h dX10_findsReached_45 rfl 0 rfl ?_
            refine k_iload_n (pc := 46) h dX10_findsReached_46 rfl 2 rfl ?_
            obtain ⟨v11, cv11, hf⟩ := ob_s hf
            refine k_callV0 (pc := 47) h cv_RX10_140 (c_X10_nextOf v6 s7 v11 cv11) rfl rfl rfl (st1 := [.int v11, .int (s7 0 5), .ref 0]) rfl ⟨rfl, rfl⟩ (rk hR (Nat.le_of_ble_eq_true rfl) (Nat.le_of_ble_eq_true rfl)) (Nat.le_of_ble_eq_true rfl) dX10_findsReached_47 ?_
            refine k_goto (pc := 50) (tgt := 54) h dX10_findsReached_50 rfl ?_
            cases hf
            exact k_drop [0, 1, 2] rfl kj42
      · obtain ⟨v14, ev14, hf⟩ := lb_s hf
        refine k_iinc (pc := 64) h dX10_findsReached_64 1 rfl ((congrArg (_ + ·) kc_iconst_1).trans ev14.symm) (nk hL (by decide)) (lv' := [(0, .ref 0), (1, .int v14)]) rfl ?_
        refine k_goto (pc := 67) (tgt := 11) h dX10_findsReached_67 rfl ?_
        cases hf
        exact k_drop [0, 1] rfl kc11
  · refine k_aload_n (pc := 70) h dX10_findsReached_70 rfl 0 rfl ?_
    refine k_iconst (pc := 71) h dX10_findsReached_71 kc_iconst_0 ?_
    obtain ⟨s15, es15, hf⟩ := lb_s hf
    refine k_put (pc := 72) h fl_RX10_149 fp_X10_6 rfl rfl rfl rfl dX10_findsReached_72 ?_
    refine k_heap es15 ?_
    refine k_iconst (pc := 75) h dX10_findsReached_75 kc_iconst_0 ?_
    refine k_istore_n (pc := 76) h dX10_findsReached_76 rfl (nk hL (by decide)) (lv' := [(0, .ref 0), (1, .int (0 : Int32))]) rfl ?_
    obtain ⟨s18, hl, hf⟩ := ob_s hf
    refine k_drop (lv' := [(0, .ref 0), (1, .int (0 : Int32))]) [0, 1] rfl ?_
    refine lp_s (P := (fun q : Int32 × sh_S => sh_K G shM 77 [(0, .ref 0), (1, .int q.1)] [] q.2)) (Q := (fun q : sh_S => sh_K G shM 126 [] [] q)) (s := ((0 : Int32), s15)) ?_ hl ?_
    · clear hf hl
      intro q rr hf kc77
      obtain ⟨v16, s17⟩ := q
      have hf : f_X10_findsReached_L77 v16 s17 = some rr := hf
      unfold f_X10_findsReached_L77 at hf
      refine k_iload_n (pc := 77) h dX10_findsReached_77 rfl 1 rfl ?_
      refine k_aload_n (pc := 78) h dX10_findsReached_78 rfl 0 rfl ?_
      refine k_getI (pc := 79) h fl_RX10_101 rfl rfl dX10_findsReached_79 ?_
      refine k_icmp_ge (pc := 82) (tgt := 126) h dX10_findsReached_82 rfl (fun hc => ?_) (fun hc => ?_)
      · have hf := it_p hc hf
        cases hf
        exact k_drop [] rfl kc77
      · have hf := it_n hc hf
        refine k_aload_n (pc := 85) h dX10_findsReached_85 rfl 0 rfl ?_
        refine k_dup (pc := 86) h dX10_findsReached_86 rfl ?_
        refine k_getI (pc := 87) h fl_RX10_149 rfl rfl dX10_findsReached_87 ?_
        refine k_aload_n (pc := 90) h dX10_findsReached_90 rfl 0 rfl ?_
        refine k_iload_n (pc := 91) h dX10_findsReached_91 rfl 1 rfl ?_
        obtain ⟨v19, cv19, hf⟩ := ob_s hf
        refine k_callV0 (pc := 92) h cv_RX10_143 (c_X10_lends v16 s17 v19 cv19) rfl rfl rfl (st1 := [.int v19, .int (s17 0 6), .ref 0]) rfl ⟨rfl, rfl⟩ (rk hR (Nat.le_of_ble_eq_true rfl) (Nat.le_of_ble_eq_true rfl)) (Nat.le_of_ble_eq_true rfl) dX10_findsReached_92 ?_
        obtain ⟨v20, hj, hf⟩ := ob_s hf
        have kj95 : sh_K G shM 116 [(0, .ref 0), (1, .int v16)] [.int v20, .int (s17 0 6), .ref 0] s17 := by
          refine k_ior (pc := 116) h dX10_findsReached_116 ?_
          obtain ⟨s22, es22, hf⟩ := lb_s hf
          refine k_put (pc := 117) h fl_RX10_149 fp_X10_6 rfl rfl rfl rfl dX10_findsReached_117 ?_
          refine k_heap es22 ?_
          obtain ⟨v23, ev23, hf⟩ := lb_s hf
          refine k_iinc (pc := 120) h dX10_findsReached_120 1 rfl ((congrArg (_ + ·) kc_iconst_1).trans ev23.symm) (nk hL (by decide)) (lv' := [(0, .ref 0), (1, .int v23)]) rfl ?_
          refine k_goto (pc := 123) (tgt := 77) h dX10_findsReached_123 rfl ?_
          cases hf
          exact k_drop [0, 1] rfl kc77
        clear hf
        have hf := hj
        clear hj
        refine k_if_eq (pc := 95) (tgt := 115) h dX10_findsReached_95 rfl (fun hc => ?_) (fun hc => ?_)
        · have hf := it_p hc hf
          refine k_iconst (pc := 115) h dX10_findsReached_115 kc_iconst_0 ?_
          cases hf
          exact k_drop [0, 1] rfl kj95
        · have hf := it_n hc hf
          refine k_aload_n (pc := 98) h dX10_findsReached_98 rfl 0 rfl ?_
          refine k_getI (pc := 99) h fl_RX10_146 rfl rfl dX10_findsReached_99 ?_
          refine k_iload_n (pc := 102) h dX10_findsReached_102 rfl 1 rfl ?_
          obtain ⟨v21, cv21, hf⟩ := ob_s hf
          refine k_callSp (pc := 103) h cs_RX10_89 (c_X10_isIn (s17 0 5) v16 _ v21 cv21) rfl rfl (st1 := [.int v21, .int (s17 0 6), .ref 0]) rfl ⟨rfl, rfl⟩ (rk hR (Nat.le_of_ble_eq_true rfl) (Nat.le_of_ble_eq_true rfl)) (Nat.le_of_ble_eq_true rfl) dX10_findsReached_103 ?_
          refine k_if_eq (pc := 106) (tgt := 115) h dX10_findsReached_106 rfl (fun hc => ?_) (fun hc => ?_)
          · have hf := it_p hc hf
            refine k_iconst (pc := 115) h dX10_findsReached_115 kc_iconst_0 ?_
            cases hf
            exact k_drop [0, 1] rfl kj95
          · have hf := it_n hc hf
            refine k_iconst (pc := 109) h dX10_findsReached_109 kc_iconst_1 ?_
            refine k_iload_n (pc := 110) h dX10_findsReached_110 rfl 1 rfl ?_
            refine k_ishl (pc := 111) h dX10_findsReached_111 ?_
            refine k_goto (pc := 112) (tgt := 116) h dX10_findsReached_112 rfl ?_
            cases hf
            exact k_drop [0, 1] rfl kj95
    · cases hf
      exact hret 126 _ dX10_findsReached_126 trivial
end
