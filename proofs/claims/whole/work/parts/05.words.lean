theorem kc_bipush_7 : (Int8.ofInt 7).toInt32 = (7 : Int32) := by decide
theorem kc_bipush_8 : (Int8.ofInt 8).toInt32 = (8 : Int32) := by decide
theorem kc_bipush_9 : (Int8.ofInt 9).toInt32 = (9 : Int32) := by decide
theorem kc_bipush_24 : (Int8.ofInt 24).toInt32 = (24 : Int32) := by decide
theorem kc_iconst_m1 : Int32.ofInt (-1) = (-1 : Int32) := by decide
theorem kc_iconst_0 : Int32.ofInt 0 = (0 : Int32) := by decide
theorem kc_iconst_1 : Int32.ofInt 1 = (1 : Int32) := by decide
theorem kc_iconst_3 : Int32.ofInt 3 = (3 : Int32) := by decide
theorem kc_iconst_5 : Int32.ofInt 5 = (5 : Int32) := by decide
theorem tb_ws {ws : List Cond} (ps : List Nat) (h : ws = ps.filterMap (fun i => lw_tbl[i]?)) (g : ws.all goodWord = true) : ∀ w ∈ ws, w ∈ tb := by
  intro w hw
  have g1 := List.all_eq_true.mp g w hw
  rw [h] at hw
  obtain ⟨i, -, hi⟩ := List.mem_filterMap.mp hw
  exact List.mem_filter.mpr ⟨List.mem_of_getElem? hi, g1⟩
theorem in_X0 : ∀ w ∈ u_ws RX0 TX0 5, w ∈ tb := tb_ws [331, 333, 335, 337, 339] (by decide +kernel) (by decide +kernel)
theorem in_X1 : ∀ w ∈ u_ws RX1 TX1 3, w ∈ tb := tb_ws [311, 313, 315] (by decide +kernel) (by decide +kernel)
theorem in_X2 : ∀ w ∈ u_ws RX2 TX2 9, w ∈ tb := tb_ws [222, 224, 226, 228, 230, 232, 234, 236, 238] (by decide +kernel) (by decide +kernel)
theorem in_X3 : ∀ w ∈ u_ws RX3 TX3 14, w ∈ tb := tb_ws [271, 273, 275, 277, 279, 281, 283, 285, 287, 289, 291, 293, 295, 297] (by decide +kernel) (by decide +kernel)
theorem in_X4 : ∀ w ∈ u_ws RX4 TX4 10, w ∈ tb := tb_ws [164, 166, 168, 170, 172, 174, 176, 178, 180, 182] (by decide +kernel) (by decide +kernel)
theorem in_X5 : ∀ w ∈ u_ws RX5 TX5 8, w ∈ tb := tb_ws [361, 363, 365, 367, 369, 371, 373, 375] (by decide +kernel) (by decide +kernel)
theorem in_X6 : ∀ w ∈ u_ws RX6 TX6 3, w ∈ tb := tb_ws [476, 478, 480] (by decide +kernel) (by decide +kernel)
theorem in_X7 : ∀ w ∈ u_ws RX7 TX7 6, w ∈ tb := tb_ws [392, 394, 396, 398, 400, 402] (by decide +kernel) (by decide +kernel)
theorem in_X8 : ∀ w ∈ u_ws RX8 TX8 16, w ∈ tb := tb_ws [430, 432, 434, 436, 438, 440, 442, 444, 446, 448, 450, 452, 454, 456, 458, 460] (by decide +kernel) (by decide +kernel)
theorem in_X9 : ∀ w ∈ u_ws RX9 TX9 7, w ∈ tb := tb_ws [490, 492, 494, 496, 498, 500, 502] (by decide +kernel) (by decide +kernel)
theorem in_X10 : ∀ w ∈ u_ws RX10 TX10 36, w ∈ tb := tb_ws [998, 1000, 1002, 1004, 1006, 1008, 1010, 1012, 1014, 1016, 1018, 1020, 1022, 1024, 1026, 1028, 1030, 1032, 1034, 1036, 1038, 1040, 1042, 1044, 1046, 1048, 1050, 1052, 1054, 1056, 1058, 1060, 1062, 1064, 1066, 1068] (by decide +kernel) (by decide +kernel)
theorem wd_26 : Cond.selects RX10 yX10_isPoint yX10_isPoint ∈ tb := tb_of 26 (by decide +kernel) rfl
theorem wd_29 : Cond.selects RX10 yX10_nextOf yX10_nextOf ∈ tb := tb_of 29 (by decide +kernel) rfl
theorem wd_30 : Cond.selects RX10 yX10_there yX10_there ∈ tb := tb_of 30 (by decide +kernel) rfl
theorem wd_34 : Cond.selects RX10 yX10_lends yX10_lends ∈ tb := tb_of 34 (by decide +kernel) rfl
theorem wd_88 : Cond.initialized RX9 ∈ tb := tb_of 88 (by decide +kernel) rfl
theorem wd_98 : Cond.initialized RX10 ∈ tb := tb_of 98 (by decide +kernel) rfl
theorem wd_603 : Cond.static yX9_hasBit ∈ tb := tb_of 603 (by decide +kernel) rfl
theorem wd_604 : Cond.code yX9_hasBit cX9_hasBit 2 (some .boolean) ∈ tb := tb_of 604 (by decide +kernel) rfl
theorem wd_1078 : Cond.methodLink RX10 93 yX10_in ∈ tb := tb_of 1078 (by decide +kernel) rfl
theorem wd_1079 : Cond.static yX10_in ∈ tb := tb_of 1079 (by decide +kernel) rfl
theorem wd_1080 : Cond.code yX10_in cX10_in 3 (some .boolean) ∈ tb := tb_of 1080 (by decide +kernel) rfl
theorem wd_1089 : Cond.methodLink RX10 109 yX10_isPoint ∈ tb := tb_of 1089 (by decide +kernel) rfl
theorem wd_1091 : Cond.instanceMethod yX10_isPoint ∈ tb := tb_of 1091 (by decide +kernel) rfl
theorem wd_1092 : Cond.code yX10_isPoint cX10_isPoint 2 (some .boolean) ∈ tb := tb_of 1092 (by decide +kernel) rfl
theorem wd_1125 : Cond.methodLink RX10 140 yX10_nextOf ∈ tb := tb_of 1125 (by decide +kernel) rfl
theorem wd_1127 : Cond.instanceMethod yX10_nextOf ∈ tb := tb_of 1127 (by decide +kernel) rfl
theorem wd_1128 : Cond.code yX10_nextOf cX10_nextOf 4 (some .int) ∈ tb := tb_of 1128 (by decide +kernel) rfl
theorem wd_1129 : Cond.methodLink RX10 137 yX10_there ∈ tb := tb_of 1129 (by decide +kernel) rfl
theorem wd_1131 : Cond.instanceMethod yX10_there ∈ tb := tb_of 1131 (by decide +kernel) rfl
theorem wd_1132 : Cond.code yX10_there cX10_there 2 (some .int) ∈ tb := tb_of 1132 (by decide +kernel) rfl
theorem wd_1149 : Cond.methodLink RX10 89 yX10_isIn ∈ tb := tb_of 1149 (by decide +kernel) rfl
theorem wd_1150 : Cond.static yX10_isIn ∈ tb := tb_of 1150 (by decide +kernel) rfl
theorem wd_1151 : Cond.code yX10_isIn cX10_isIn 2 (some .boolean) ∈ tb := tb_of 1151 (by decide +kernel) rfl
theorem wd_1152 : Cond.methodLink RX10 143 yX10_lends ∈ tb := tb_of 1152 (by decide +kernel) rfl
theorem wd_1154 : Cond.instanceMethod yX10_lends ∈ tb := tb_of 1154 (by decide +kernel) rfl
theorem wd_1155 : Cond.code yX10_lends cX10_lends 2 (some .boolean) ∈ tb := tb_of 1155 (by decide +kernel) rfl
theorem fl_RX10_101 : FL RX10 101 10 0 := ⟨(RX10, TX10, 36), rfl, by decide, in_X10, tb_of 962 (by decide +kernel) rfl⟩
theorem fl_RX10_146 : FL RX10 146 10 5 := ⟨(RX10, TX10, 36), rfl, by decide, in_X10, tb_of 967 (by decide +kernel) rfl⟩
theorem fl_RX10_149 : FL RX10 149 10 6 := ⟨(RX10, TX10, 36), rfl, by decide, in_X10, tb_of 968 (by decide +kernel) rfl⟩
theorem fl_RX10_19 : FL RX10 19 10 4 := ⟨(RX10, TX10, 36), rfl, by decide, in_X10, tb_of 966 (by decide +kernel) rfl⟩
theorem fl_RX10_7 : FL RX10 7 10 1 := ⟨(RX10, TX10, 36), rfl, by decide, in_X10, tb_of 963 (by decide +kernel) rfl⟩
theorem fp_X10_5 : FP 10 5 .int := ⟨(RX10, TX10, 36), tyX10, rfl, tyX10_ok, nmX10, rfl, by decide +kernel⟩
theorem fp_X10_6 : FP 10 6 .int := ⟨(RX10, TX10, 36), tyX10, rfl, tyX10_ok, nmX10, rfl, by decide +kernel⟩
theorem cv_RX10_109 : CV RX10 109 10 yX10_isPoint cX10_isPoint 2 (some .boolean) 1 := ⟨_, rfl, rfl, ⟨by decide, by decide, by decide +kernel⟩, wd_1089, wd_1091, wd_26, wd_98, wd_1092⟩
theorem cv_RX10_137 : CV RX10 137 10 yX10_there cX10_there 2 (some .int) 1 := ⟨_, rfl, rfl, ⟨by decide, by decide, by decide +kernel⟩, wd_1129, wd_1131, wd_30, wd_98, wd_1132⟩
theorem cv_RX10_140 : CV RX10 140 10 yX10_nextOf cX10_nextOf 4 (some .int) 1 := ⟨_, rfl, rfl, ⟨by decide, by decide, by decide +kernel⟩, wd_1125, wd_1127, wd_29, wd_98, wd_1128⟩
theorem cv_RX10_143 : CV RX10 143 10 yX10_lends cX10_lends 2 (some .boolean) 1 := ⟨_, rfl, rfl, ⟨by decide, by decide, by decide +kernel⟩, wd_1152, wd_1154, wd_34, wd_98, wd_1155⟩
theorem cs_RX10_89 : CS RX10 89 yX10_isIn cX10_isIn 2 (some .boolean) 2 := ⟨⟨by decide, by decide, by decide +kernel⟩, wd_1149, wd_1150, wd_98, wd_1151⟩
theorem cs_RX10_93 : CS RX10 93 yX10_in cX10_in 3 (some .boolean) 3 := ⟨⟨by decide, by decide, by decide +kernel⟩, wd_1078, wd_1079, wd_98, wd_1080⟩
theorem cn_RX1_91 : CN RX1 91 yX9_hasBit cX9_hasBit 2 (some .boolean) 2 := ⟨⟨by decide, by decide, by decide +kernel⟩, by decide +kernel, wd_603, wd_88, wd_604⟩
abbrev shNO : List sh_T := []
def shLI : List sh_T := [.inr (.inl (4, [some 1, some 2, some 3, some 4, some 5, some 6, some 7, some 8, some 9, none])), .inl (0, 24), .inl (0, 24), .inl (0, 24), .inl (0, 24), .inl (0, 24), .inl (0, 24), .inl (0, 24), .inl (1, 24), .inl (1, 24)]
def shSH : List sh_T := [.inr (.inl (6, [some 1, none, none])), .inl (0, 60)]
def shCK : List sh_T := [.inr (.inl (4, [some 1, some 2, some 3, some 4, some 5, some 6, some 7, some 8, some 9, none])), .inl (0, 24), .inl (0, 24), .inl (0, 24), .inl (0, 24), .inl (0, 24), .inl (0, 24), .inl (0, 24), .inl (1, 24), .inl (1, 24), .inr (.inl (0, [some 0, none, some 11, some 19, some 29])), .inr (.inl (2, [some 12, some 13, some 14, some 15, some 16, some 17, some 18, none, none])), .inl (0, 24), .inl (0, 24), .inl (0, 24), .inl (0, 24), .inl (0, 24), .inl (0, 24), .inl (0, 8), .inr (.inl (3, [none, none, none, none, some 20, some 21, none, some 22, some 23, some 24, some 25, some 26, some 27, some 28])), .inl (0, 192), .inl (0, 8), .inl (0, 24), .inl (0, 24), .inl (0, 24), .inl (0, 24), .inl (0, 24), .inl (0, 8), .inl (0, 8), .inr (.inl (1, [some 30, none, none])), .inl (0, 96)]
def shX : List sh_T := [.inr (.inl (4, [some 1, some 2, some 3, some 4, some 5, some 6, some 7, some 8, some 9, none])), .inl (0, 24), .inl (0, 24), .inl (0, 24), .inl (0, 24), .inl (0, 24), .inl (0, 24), .inl (0, 24), .inl (1, 24), .inl (1, 24), .inr (.inl (0, [some 0, none, some 11, some 19, some 29])), .inr (.inl (2, [some 12, some 13, some 14, some 15, some 16, some 17, some 18, none, none])), .inl (0, 24), .inl (0, 24), .inl (0, 24), .inl (0, 24), .inl (0, 24), .inl (0, 24), .inl (0, 8), .inr (.inl (3, [none, none, none, none, some 20, some 21, none, some 22, some 23, some 24, some 25, some 26, some 27, some 28])), .inl (0, 192), .inl (0, 8), .inl (0, 24), .inl (0, 24), .inl (0, 24), .inl (0, 24), .inl (0, 24), .inl (0, 8), .inl (0, 8), .inr (.inl (1, [some 30, none, none])), .inl (0, 96), .inr (.inl (0, [some 0, none, some 32, some 40, some 50])), .inr (.inl (2, [some 33, some 34, some 35, some 36, some 37, some 38, some 39, none, none])), .inl (0, 24), .inl (0, 24), .inl (0, 24), .inl (0, 24), .inl (0, 24), .inl (0, 24), .inl (0, 8), .inr (.inl (3, [none, none, none, none, some 41, some 42, none, some 43, some 44, some 45, some 46, some 47, some 48, some 49])), .inl (0, 192), .inl (0, 8), .inl (0, 24), .inl (0, 24), .inl (0, 24), .inl (0, 24), .inl (0, 24), .inl (0, 8), .inl (0, 8), .inr (.inl (1, [some 51, none, none])), .inl (0, 96), .inr (.inl (5, [some 0, some 10, some 31, none, none, none, none, none])), .inr (.inl (7, [some 0, some 10, some 54, none, some 55, none])), .inl (0, 24), .inl (0, 60), .inr (.inl (8, [some 0, some 57, some 58, some 59, some 60, some 61, some 62, none, none, some 63, none, none, none, none, none, none])), .inl (0, 300), .inl (0, 300), .inl (0, 300), .inl (1, 300), .inl (1, 300), .inl (0, 300), .inl (0, 8), .inr (.inl (6, [some 65, none, none])), .inl (0, 60), .inr (.inl (6, [some 67, none, none])), .inl (0, 60), .inr (.inl (6, [some 69, none, none])), .inl (0, 60), .inr (.inl (6, [some 71, none, none])), .inl (0, 60), .inr (.inr [64, 66, 68, 70]), .inr (.inl (9, [some 0, some 10, some 52, some 53, some 56, some 72, none]))]
def shM : List sh_T := [.inr (.inl (10, [none, some 1, some 2, some 3, some 4, none, none, some 5, some 6, some 7, some 8, some 9, none, some 10, some 11, some 12, some 13, none, some 14, none, some 15, some 16, some 17, some 18, some 19, some 20, some 21, none, none, none, some 22, some 23, some 24, some 25, some 26, none])), .inl (0, 24), .inl (0, 24), .inl (0, 24), .inl (0, 24), .inl (0, 8), .inl (0, 8), .inl (0, 192), .inl (0, 24), .inl (0, 24), .inl (0, 1300), .inl (0, 1300), .inl (0, 1300), .inl (0, 24), .inl (0, 60), .inl (0, 301), .inl (0, 301), .inl (0, 301), .inl (0, 301), .inl (0, 301), .inl (0, 301), .inl (0, 8), .inl (1, 4), .inl (0, 4), .inl (0, 4), .inl (0, 240), .inl (0, 60)]
def em_LI : List Nat := [0, 1, 2, 3, 4, 5, 6, 7, 8, 9]
def em_CK : List Nat := [0, 1, 2, 3, 4, 5, 6, 7, 8, 9, 10, 11, 12, 13, 14, 15, 16, 17, 18, 19, 20, 21, 22, 23, 24, 25, 26, 27, 28, 29, 30]
def em_TR : List Nat := [0, 1, 2, 3, 4, 5, 6, 7, 8, 9, 31, 32, 33, 34, 35, 36, 37, 38, 39, 40, 41, 42, 43, 44, 45, 46, 47, 48, 49, 50, 51]
theorem k_sec {G : sh_G} {sh : List sh_T} {pc : Nat} {lv : List (Nat × Value)} {st : List Value} {σ : sh_S} {a : Value} {x y : Int32} (e : y = x) (kk : sh_K G sh pc lv (a :: .int y :: st) σ) : sh_K G sh pc lv (a :: .int x :: st) σ := e ▸ kk
theorem inb_lt {i : Int32} {n : Nat} (h : inb i n) : ix i < n := Nat.not_le.mp fun q => h (Or.inr q)
theorem sh_refs {j : Nat} (h : j < 4) : ([64, 66, 68, 70] : List Nat)[j]? = some (64 + 2 * j) := by
  match j, h with
  | 0, _ => rfl
  | 1, _ => rfl
  | 2, _ => rfl
  | 3, _ => rfl
theorem sh_sheet {j : Nat} (h : j < 4) : shX[64 + 2 * j]? = some (.inr (.inl (6, [some (64 + 2 * j + 1), none, none]))) := by
  match j, h with
  | 0, _ => rfl
  | 1, _ => rfl
  | 2, _ => rfl
  | 3, _ => rfl
theorem sh_items {j : Nat} (h : j < 4) : shX[64 + 2 * j + 1]? = some (.inl (0, 60)) := by
  match j, h with
  | 0, _ => rfl
  | 1, _ => rfl
  | 2, _ => rfl
  | 3, _ => rfl
theorem emb_SH {j : Nat} (h : j < 4) : emb [64 + 2 * j, 64 + 2 * j + 1] shSH shX := by
  match j, h with
  | 0, _ => exact ⟨rfl, rfl⟩
  | 1, _ => exact ⟨rfl, rfl⟩
  | 2, _ => exact ⟨rfl, rfl⟩
  | 3, _ => exact ⟨rfl, rfl⟩
theorem emb_LI_CK : emb em_LI shLI shCK := ⟨rfl, rfl⟩
theorem emb_LI_X : emb em_LI shLI shX := ⟨rfl, rfl⟩
theorem emb_CK_X : emb em_CK shCK shX := ⟨rfl, rfl⟩
theorem emb_TR_X : emb em_TR shCK shX := ⟨rfl, rfl⟩
