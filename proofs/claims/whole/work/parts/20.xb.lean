theorem dX8_make_0 : decode cX8_make 0 = .ok (.aload_n 0, 1) := by decide +kernel
theorem dX8_make_1 : decode cX8_make 1 = .ok (.getfield 31, 3) := by decide +kernel
theorem dX8_make_4 : decode cX8_make 4 = .ok (.sipush 300, 3) := by decide +kernel
theorem dX8_make_7 : decode cX8_make 7 = .ok (.if_icmp .lt 5, 3) := by decide +kernel
theorem dX8_make_10 : decode cX8_make 10 = .ok (.iconst (-1), 1) := by decide +kernel
theorem dX8_make_11 : decode cX8_make 11 = .ok (.ireturn, 1) := by decide +kernel
theorem dX8_make_12 : decode cX8_make 12 = .ok (.aload_n 0, 1) := by decide +kernel
theorem dX8_make_13 : decode cX8_make 13 = .ok (.getfield 31, 3) := by decide +kernel
theorem dX8_make_16 : decode cX8_make 16 = .ok (.istore 4, 2) := by decide +kernel
theorem dX8_make_18 : decode cX8_make 18 = .ok (.aload_n 0, 1) := by decide +kernel
theorem dX8_make_19 : decode cX8_make 19 = .ok (.dup, 1) := by decide +kernel
theorem dX8_make_20 : decode cX8_make 20 = .ok (.getfield 31, 3) := by decide +kernel
theorem dX8_make_23 : decode cX8_make 23 = .ok (.iconst 1, 1) := by decide +kernel
theorem dX8_make_24 : decode cX8_make 24 = .ok (.iadd, 1) := by decide +kernel
theorem dX8_make_25 : decode cX8_make 25 = .ok (.putfield 31, 3) := by decide +kernel
theorem dX8_make_28 : decode cX8_make 28 = .ok (.aload_n 0, 1) := by decide +kernel
theorem dX8_make_29 : decode cX8_make 29 = .ok (.getfield 9, 3) := by decide +kernel
theorem dX8_make_32 : decode cX8_make 32 = .ok (.iload 4, 2) := by decide +kernel
theorem dX8_make_34 : decode cX8_make 34 = .ok (.iload_n 1, 1) := by decide +kernel
theorem dX8_make_35 : decode cX8_make 35 = .ok (.iastore, 1) := by decide +kernel
theorem dX8_make_36 : decode cX8_make 36 = .ok (.aload_n 0, 1) := by decide +kernel
theorem dX8_make_37 : decode cX8_make 37 = .ok (.getfield 15, 3) := by decide +kernel
theorem dX8_make_40 : decode cX8_make 40 = .ok (.iload 4, 2) := by decide +kernel
theorem dX8_make_42 : decode cX8_make 42 = .ok (.iload_n 2, 1) := by decide +kernel
theorem dX8_make_43 : decode cX8_make 43 = .ok (.iastore, 1) := by decide +kernel
theorem dX8_make_44 : decode cX8_make 44 = .ok (.aload_n 0, 1) := by decide +kernel
theorem dX8_make_45 : decode cX8_make 45 = .ok (.getfield 18, 3) := by decide +kernel
theorem dX8_make_48 : decode cX8_make 48 = .ok (.iload 4, 2) := by decide +kernel
theorem dX8_make_50 : decode cX8_make 50 = .ok (.iload_n 3, 1) := by decide +kernel
theorem dX8_make_51 : decode cX8_make 51 = .ok (.iastore, 1) := by decide +kernel
theorem dX8_make_52 : decode cX8_make 52 = .ok (.aload_n 0, 1) := by decide +kernel
theorem dX8_make_53 : decode cX8_make 53 = .ok (.getfield 21, 3) := by decide +kernel
theorem dX8_make_56 : decode cX8_make 56 = .ok (.iload 4, 2) := by decide +kernel
theorem dX8_make_58 : decode cX8_make 58 = .ok (.iconst 0, 1) := by decide +kernel
theorem dX8_make_59 : decode cX8_make 59 = .ok (.bastore, 1) := by decide +kernel
theorem dX8_make_60 : decode cX8_make 60 = .ok (.aload_n 0, 1) := by decide +kernel
theorem dX8_make_61 : decode cX8_make 61 = .ok (.getfield 25, 3) := by decide +kernel
theorem dX8_make_64 : decode cX8_make 64 = .ok (.iload 4, 2) := by decide +kernel
theorem dX8_make_66 : decode cX8_make 66 = .ok (.iconst 0, 1) := by decide +kernel
theorem dX8_make_67 : decode cX8_make 67 = .ok (.bastore, 1) := by decide +kernel
theorem dX8_make_68 : decode cX8_make 68 = .ok (.aload_n 0, 1) := by decide +kernel
theorem dX8_make_69 : decode cX8_make 69 = .ok (.getfield 28, 3) := by decide +kernel
theorem dX8_make_72 : decode cX8_make 72 = .ok (.iload 4, 2) := by decide +kernel
theorem dX8_make_74 : decode cX8_make 74 = .ok (.iconst 0, 1) := by decide +kernel
theorem dX8_make_75 : decode cX8_make 75 = .ok (.iastore, 1) := by decide +kernel
theorem dX8_make_76 : decode cX8_make 76 = .ok (.iload 4, 2) := by decide +kernel
theorem dX8_make_78 : decode cX8_make 78 = .ok (.ireturn, 1) := by decide +kernel
def f_X8_make (p1 : Int32) (p2 : Int32) (p3 : Int32) (s0 : sh_S) : Option (Int32 × sh_S) := (if (s0 56 7) < (300 : Int32) then lb ((s0 56 7)) (fun v1 => lb (ur s0 56 (upd (s0 56) 7 ((s0 56 7) + (1 : Int32)))) (fun s2 => gu (inb v1 300) (lb (ur s2 57 (upd (s2 57) (ix v1) p1)) (fun s4 => gu (inb v1 300) (lb (ur s4 58 (upd (s4 58) (ix v1) p2)) (fun s6 => gu (inb v1 300) (lb (ur s6 59 (upd (s6 59) (ix v1) p3)) (fun s8 => gu (inb v1 300) (lb (ur s8 60 (upd (s8 60) (ix v1) (nz (0 : Int32)))) (fun s10 => gu (inb v1 300) (lb (ur s10 61 (upd (s10 61) (ix v1) (nz (0 : Int32)))) (fun s12 => gu (inb v1 300) (lb (ur s12 62 (upd (s12 62) (ix v1) (0 : Int32))) (fun s14 => some (v1, s14))))))))))))))) else some ((-1 : Int32), s0))
set_option maxRecDepth 100000 in
set_option maxHeartbeats 4000000 in
theorem c_X8_make (p1 : Int32) (p2 : Int32) (p3 : Int32) (s0 : sh_S) (r : Int32) (s9x : sh_S) (hf : f_X8_make p1 p2 p3 s0 = some (r, s9x)) : Ctr yX8_make cX8_make 5 (some .int) ({ frames := 0, cells := 0, slots := 0, locals := 0 } : Room) shX [.ref 56, .int p1, .int p2, .int p3] s0 (some (.int r)) s9x := by
  refine Ctr.mk (ri := .ireturn) (by decide) (Nat.le_of_ble_eq_true rfl) (Rt_i r) ?_
  intro G h hL hR hret
  refine k_drop (lv' := [(0, .ref 56), (1, .int p1), (2, .int p2), (3, .int p3)]) [0, 1, 2, 3] rfl ?_
  unfold f_X8_make at hf
  refine k_aload_n (pc := 0) h dX8_make_0 rfl 0 rfl ?_
  refine k_getI (pc := 1) h fl_RX8_31 rfl rfl dX8_make_1 ?_
  refine k_sipush (pc := 4) h dX8_make_4 kc_sipush_300 ?_
  refine k_icmp_lt (pc := 7) (tgt := 12) h dX8_make_7 rfl (fun hc => ?_) (fun hc => ?_)
  · have hf := it_p hc hf
    refine k_aload_n (pc := 12) h dX8_make_12 rfl 0 rfl ?_
    refine k_getI (pc := 13) h fl_RX8_31 rfl rfl dX8_make_13 ?_
    obtain ⟨v1, ev1, hf⟩ := lb_s hf
    refine k_top ev1 ?_
    refine k_istore (pc := 16) h dX8_make_16 (nk hL (by decide)) (lv' := [(0, .ref 56), (1, .int p1), (2, .int p2), (3, .int p3), (4, .int v1)]) rfl ?_
    refine k_aload_n (pc := 18) h dX8_make_18 rfl 0 rfl ?_
    refine k_dup (pc := 19) h dX8_make_19 rfl ?_
    refine k_getI (pc := 20) h fl_RX8_31 rfl rfl dX8_make_20 ?_
    refine k_iconst (pc := 23) h dX8_make_23 kc_iconst_1 ?_
    refine k_iadd (pc := 24) h dX8_make_24 ?_
    obtain ⟨s2, es2, hf⟩ := lb_s hf
    refine k_put (pc := 25) h fl_RX8_31 fp_X8_7 rfl rfl rfl rfl dX8_make_25 ?_
    refine k_heap es2 ?_
    refine k_aload_n (pc := 28) h dX8_make_28 rfl 0 rfl ?_
    refine k_getR (pc := 29) h fl_RX8_9 rfl rfl dX8_make_29 ?_
    refine k_iload (pc := 32) h dX8_make_32 4 rfl ?_
    refine k_iload_n (pc := 34) h dX8_make_34 rfl 1 rfl ?_
    obtain ⟨g3, hf⟩ := gu_s hf
    obtain ⟨s4, es4, hf⟩ := lb_s hf
    refine k_iast (pc := 35) (n := 300) h rfl g3 dX8_make_35 ?_
    refine k_heap es4 ?_
    refine k_aload_n (pc := 36) h dX8_make_36 rfl 0 rfl ?_
    refine k_getR (pc := 37) h fl_RX8_15 rfl rfl dX8_make_37 ?_
    refine k_iload (pc := 40) h dX8_make_40 4 rfl ?_
    refine k_iload_n (pc := 42) h dX8_make_42 rfl 2 rfl ?_
    obtain ⟨g5, hf⟩ := gu_s hf
    obtain ⟨s6, es6, hf⟩ := lb_s hf
    refine k_iast (pc := 43) (n := 300) h rfl g5 dX8_make_43 ?_
    refine k_heap es6 ?_
    refine k_aload_n (pc := 44) h dX8_make_44 rfl 0 rfl ?_
    refine k_getR (pc := 45) h fl_RX8_18 rfl rfl dX8_make_45 ?_
    refine k_iload (pc := 48) h dX8_make_48 4 rfl ?_
    refine k_iload_n (pc := 50) h dX8_make_50 rfl 3 rfl ?_
    obtain ⟨g7, hf⟩ := gu_s hf
    obtain ⟨s8, es8, hf⟩ := lb_s hf
    refine k_iast (pc := 51) (n := 300) h rfl g7 dX8_make_51 ?_
    refine k_heap es8 ?_
    refine k_aload_n (pc := 52) h dX8_make_52 rfl 0 rfl ?_
    refine k_getR (pc := 53) h fl_RX8_21 rfl rfl dX8_make_53 ?_
    refine k_iload (pc := 56) h dX8_make_56 4 rfl ?_
    refine k_iconst (pc := 58) h dX8_make_58 kc_iconst_0 ?_
    obtain ⟨g9, hf⟩ := gu_s hf
    obtain ⟨s10, es10, hf⟩ := lb_s hf
    refine k_zast (pc := 59) (n := 300) h rfl g9 dX8_make_59 ?_
    refine k_heap es10 ?_
    refine k_aload_n (pc := 60) h dX8_make_60 rfl 0 rfl ?_
    refine k_getR (pc := 61) h fl_RX8_25 rfl rfl dX8_make_61 ?_
    refine k_iload (pc := 64) h dX8_make_64 4 rfl ?_
    refine k_iconst (pc := 66) h dX8_make_66 kc_iconst_0 ?_
    obtain ⟨g11, hf⟩ := gu_s hf
    obtain ⟨s12, es12, hf⟩ := lb_s hf
    refine k_zast (pc := 67) (n := 300) h rfl g11 dX8_make_67 ?_
    refine k_heap es12 ?_
    refine k_aload_n (pc := 68) h dX8_make_68 rfl 0 rfl ?_
    refine k_getR (pc := 69) h fl_RX8_28 rfl rfl dX8_make_69 ?_
    refine k_iload (pc := 72) h dX8_make_72 4 rfl ?_
    refine k_iconst (pc := 74) h dX8_make_74 kc_iconst_0 ?_
    obtain ⟨g13, hf⟩ := gu_s hf
    obtain ⟨s14, es14, hf⟩ := lb_s hf
    refine k_iast (pc := 75) (n := 300) h rfl g13 dX8_make_75 ?_
    refine k_heap es14 ?_
    refine k_iload (pc := 76) h dX8_make_76 4 rfl ?_
    obtain ⟨rfl, rfl⟩ := so2 hf
    exact hret 78 _ dX8_make_78 trivial
  · have hf := it_n hc hf
    refine k_iconst (pc := 10) h dX8_make_10 kc_iconst_m1 ?_
    obtain ⟨rfl, rfl⟩ := so2 hf
    exact hret 11 _ dX8_make_11 trivial
theorem dX8_perform_0 : decode cX8_perform 0 = .ok (.aload_n 0, 1) := by decide +kernel
theorem dX8_perform_1 : decode cX8_perform 1 = .ok (.getfield 60, 3) := by decide +kernel
theorem dX8_perform_4 : decode cX8_perform 4 = .ok (.getfield 101, 3) := by decide +kernel
theorem dX8_perform_7 : decode cX8_perform 7 = .ok (.iload_n 1, 1) := by decide +kernel
theorem dX8_perform_8 : decode cX8_perform 8 = .ok (.iaload, 1) := by decide +kernel
theorem dX8_perform_9 : decode cX8_perform 9 = .ok (.istore_n 2, 1) := by decide +kernel
theorem dX8_perform_10 : decode cX8_perform 10 = .ok (.aload_n 0, 1) := by decide +kernel
theorem dX8_perform_11 : decode cX8_perform 11 = .ok (.getfield 60, 3) := by decide +kernel
theorem dX8_perform_14 : decode cX8_perform 14 = .ok (.getfield 89, 3) := by decide +kernel
theorem dX8_perform_17 : decode cX8_perform 17 = .ok (.iload_n 1, 1) := by decide +kernel
theorem dX8_perform_18 : decode cX8_perform 18 = .ok (.iaload, 1) := by decide +kernel
theorem dX8_perform_19 : decode cX8_perform 19 = .ok (.istore_n 3, 1) := by decide +kernel
theorem dX8_perform_20 : decode cX8_perform 20 = .ok (.aload_n 0, 1) := by decide +kernel
theorem dX8_perform_21 : decode cX8_perform 21 = .ok (.getfield 60, 3) := by decide +kernel
theorem dX8_perform_24 : decode cX8_perform 24 = .ok (.getfield 107, 3) := by decide +kernel
theorem dX8_perform_27 : decode cX8_perform 27 = .ok (.iload_n 1, 1) := by decide +kernel
theorem dX8_perform_28 : decode cX8_perform 28 = .ok (.iaload, 1) := by decide +kernel
theorem dX8_perform_29 : decode cX8_perform 29 = .ok (.istore 4, 2) := by decide +kernel
theorem dX8_perform_31 : decode cX8_perform 31 = .ok (.aload_n 0, 1) := by decide +kernel
theorem dX8_perform_32 : decode cX8_perform 32 = .ok (.getfield 60, 3) := by decide +kernel
theorem dX8_perform_35 : decode cX8_perform 35 = .ok (.getfield 95, 3) := by decide +kernel
theorem dX8_perform_38 : decode cX8_perform 38 = .ok (.iload_n 1, 1) := by decide +kernel
theorem dX8_perform_39 : decode cX8_perform 39 = .ok (.baload, 1) := by decide +kernel
theorem dX8_perform_40 : decode cX8_perform 40 = .ok (.istore 5, 2) := by decide +kernel
theorem dX8_perform_42 : decode cX8_perform 42 = .ok (.aload_n 0, 1) := by decide +kernel
theorem dX8_perform_43 : decode cX8_perform 43 = .ok (.getfield 60, 3) := by decide +kernel
theorem dX8_perform_46 : decode cX8_perform 46 = .ok (.getfield 92, 3) := by decide +kernel
theorem dX8_perform_49 : decode cX8_perform 49 = .ok (.iload_n 1, 1) := by decide +kernel
theorem dX8_perform_50 : decode cX8_perform 50 = .ok (.baload, 1) := by decide +kernel
theorem dX8_perform_51 : decode cX8_perform 51 = .ok (.ifCond .eq 12, 3) := by decide +kernel
theorem dX8_perform_54 : decode cX8_perform 54 = .ok (.aload_n 0, 1) := by decide +kernel
theorem dX8_perform_55 : decode cX8_perform 55 = .ok (.getfield 38, 3) := by decide +kernel
theorem dX8_perform_58 : decode cX8_perform 58 = .ok (.iload_n 3, 1) := by decide +kernel
theorem dX8_perform_59 : decode cX8_perform 59 = .ok (.iaload, 1) := by decide +kernel
theorem dX8_perform_60 : decode cX8_perform 60 = .ok (.goto 4, 3) := by decide +kernel
theorem dX8_perform_63 : decode cX8_perform 63 = .ok (.iconst (-1), 1) := by decide +kernel
theorem dX8_perform_64 : decode cX8_perform 64 = .ok (.istore 6, 2) := by decide +kernel
theorem dX8_perform_66 : decode cX8_perform 66 = .ok (.iload 6, 2) := by decide +kernel
theorem dX8_perform_68 : decode cX8_perform 68 = .ok (.iconst (-1), 1) := by decide +kernel
theorem dX8_perform_69 : decode cX8_perform 69 = .ok (.if_icmp .eq 46, 3) := by decide +kernel
theorem dX8_perform_72 : decode cX8_perform 72 = .ok (.aload_n 0, 1) := by decide +kernel
theorem dX8_perform_73 : decode cX8_perform 73 = .ok (.getfield 9, 3) := by decide +kernel
theorem dX8_perform_76 : decode cX8_perform 76 = .ok (.iload 6, 2) := by decide +kernel
theorem dX8_perform_78 : decode cX8_perform 78 = .ok (.iaload, 1) := by decide +kernel
theorem dX8_perform_79 : decode cX8_perform 79 = .ok (.iconst 5, 1) := by decide +kernel
theorem dX8_perform_80 : decode cX8_perform 80 = .ok (.if_icmp .ne 35, 3) := by decide +kernel
theorem dX8_perform_83 : decode cX8_perform 83 = .ok (.aload_n 0, 1) := by decide +kernel
theorem dX8_perform_84 : decode cX8_perform 84 = .ok (.getfield 25, 3) := by decide +kernel
theorem dX8_perform_87 : decode cX8_perform 87 = .ok (.iload 6, 2) := by decide +kernel
theorem dX8_perform_89 : decode cX8_perform 89 = .ok (.baload, 1) := by decide +kernel
theorem dX8_perform_90 : decode cX8_perform 90 = .ok (.ifCond .ne 25, 3) := by decide +kernel
theorem dX8_perform_93 : decode cX8_perform 93 = .ok (.aload_n 0, 1) := by decide +kernel
theorem dX8_perform_94 : decode cX8_perform 94 = .ok (.aload_n 0, 1) := by decide +kernel
theorem dX8_perform_95 : decode cX8_perform 95 = .ok (.getfield 15, 3) := by decide +kernel
theorem dX8_perform_98 : decode cX8_perform 98 = .ok (.iload 6, 2) := by decide +kernel
theorem dX8_perform_100 : decode cX8_perform 100 = .ok (.iaload, 1) := by decide +kernel
theorem dX8_perform_101 : decode cX8_perform 101 = .ok (.iconst 1, 1) := by decide +kernel
theorem dX8_perform_102 : decode cX8_perform 102 = .ok (.iload 6, 2) := by decide +kernel
theorem dX8_perform_104 : decode cX8_perform 104 = .ok (.invokevirtual 110, 3) := by decide +kernel
theorem dX8_perform_107 : decode cX8_perform 107 = .ok (.aload_n 0, 1) := by decide +kernel
theorem dX8_perform_108 : decode cX8_perform 108 = .ok (.getfield 25, 3) := by decide +kernel
theorem dX8_perform_111 : decode cX8_perform 111 = .ok (.iload 6, 2) := by decide +kernel
theorem dX8_perform_113 : decode cX8_perform 113 = .ok (.iconst 1, 1) := by decide +kernel
theorem dX8_perform_114 : decode cX8_perform 114 = .ok (.bastore, 1) := by decide +kernel
theorem dX8_perform_115 : decode cX8_perform 115 = .ok (.aload_n 0, 1) := by decide +kernel
theorem dX8_perform_116 : decode cX8_perform 116 = .ok (.iload_n 1, 1) := by decide +kernel
theorem dX8_perform_117 : decode cX8_perform 117 = .ok (.iload 6, 2) := by decide +kernel
theorem dX8_perform_119 : decode cX8_perform 119 = .ok (.invokevirtual 114, 3) := by decide +kernel
theorem dX8_perform_122 : decode cX8_perform 122 = .ok (.istore 7, 2) := by decide +kernel
theorem dX8_perform_124 : decode cX8_perform 124 = .ok (.iload_n 2, 1) := by decide +kernel
theorem dX8_perform_125 : decode cX8_perform 125 = .ok (.iconst 1, 1) := by decide +kernel
theorem dX8_perform_126 : decode cX8_perform 126 = .ok (.if_icmp .eq 13, 3) := by decide +kernel
theorem dX8_perform_129 : decode cX8_perform 129 = .ok (.iload_n 2, 1) := by decide +kernel
theorem dX8_perform_130 : decode cX8_perform 130 = .ok (.iconst 3, 1) := by decide +kernel
theorem dX8_perform_131 : decode cX8_perform 131 = .ok (.if_icmp .eq 8, 3) := by decide +kernel
theorem dX8_perform_134 : decode cX8_perform 134 = .ok (.iload_n 2, 1) := by decide +kernel
theorem dX8_perform_135 : decode cX8_perform 135 = .ok (.iconst 5, 1) := by decide +kernel
theorem dX8_perform_136 : decode cX8_perform 136 = .ok (.if_icmp .ne 15, 3) := by decide +kernel
theorem dX8_perform_139 : decode cX8_perform 139 = .ok (.aload_n 0, 1) := by decide +kernel
theorem dX8_perform_140 : decode cX8_perform 140 = .ok (.iload 7, 2) := by decide +kernel
theorem dX8_perform_142 : decode cX8_perform 142 = .ok (.iconst 0, 1) := by decide +kernel
theorem dX8_perform_143 : decode cX8_perform 143 = .ok (.iload 6, 2) := by decide +kernel
theorem dX8_perform_145 : decode cX8_perform 145 = .ok (.invokevirtual 110, 3) := by decide +kernel
theorem dX8_perform_148 : decode cX8_perform 148 = .ok (.goto 40, 3) := by decide +kernel
theorem dX8_perform_151 : decode cX8_perform 151 = .ok (.iload_n 2, 1) := by decide +kernel
theorem dX8_perform_152 : decode cX8_perform 152 = .ok (.iconst 2, 1) := by decide +kernel
theorem dX8_perform_153 : decode cX8_perform 153 = .ok (.if_icmp .eq 8, 3) := by decide +kernel
theorem dX8_perform_156 : decode cX8_perform 156 = .ok (.iload_n 2, 1) := by decide +kernel
theorem dX8_perform_157 : decode cX8_perform 157 = .ok (.iconst 4, 1) := by decide +kernel
theorem dX8_perform_158 : decode cX8_perform 158 = .ok (.if_icmp .ne 15, 3) := by decide +kernel
theorem dX8_perform_161 : decode cX8_perform 161 = .ok (.aload_n 0, 1) := by decide +kernel
theorem dX8_perform_162 : decode cX8_perform 162 = .ok (.iload 7, 2) := by decide +kernel
theorem dX8_perform_164 : decode cX8_perform 164 = .ok (.iconst 1, 1) := by decide +kernel
theorem dX8_perform_165 : decode cX8_perform 165 = .ok (.iload 6, 2) := by decide +kernel
theorem dX8_perform_167 : decode cX8_perform 167 = .ok (.invokevirtual 110, 3) := by decide +kernel
theorem dX8_perform_170 : decode cX8_perform 170 = .ok (.goto 18, 3) := by decide +kernel
theorem dX8_perform_173 : decode cX8_perform 173 = .ok (.iload_n 2, 1) := by decide +kernel
theorem dX8_perform_174 : decode cX8_perform 174 = .ok (.bipush 6, 2) := by decide +kernel
theorem dX8_perform_176 : decode cX8_perform 176 = .ok (.if_icmp .ne 12, 3) := by decide +kernel
theorem dX8_perform_179 : decode cX8_perform 179 = .ok (.aload_n 0, 1) := by decide +kernel
theorem dX8_perform_180 : decode cX8_perform 180 = .ok (.iload_n 3, 1) := by decide +kernel
theorem dX8_perform_181 : decode cX8_perform 181 = .ok (.iconst 3, 1) := by decide +kernel
theorem dX8_perform_182 : decode cX8_perform 182 = .ok (.imul, 1) := by decide +kernel
theorem dX8_perform_183 : decode cX8_perform 183 = .ok (.iconst 1, 1) := by decide +kernel
theorem dX8_perform_184 : decode cX8_perform 184 = .ok (.iconst (-1), 1) := by decide +kernel
theorem dX8_perform_185 : decode cX8_perform 185 = .ok (.invokevirtual 110, 3) := by decide +kernel
theorem dX8_perform_188 : decode cX8_perform 188 = .ok (.iload 5, 2) := by decide +kernel
theorem dX8_perform_190 : decode cX8_perform 190 = .ok (.ifCond .ne 9, 3) := by decide +kernel
theorem dX8_perform_193 : decode cX8_perform 193 = .ok (.iload_n 2, 1) := by decide +kernel
theorem dX8_perform_194 : decode cX8_perform 194 = .ok (.bipush 6, 2) := by decide +kernel
theorem dX8_perform_196 : decode cX8_perform 196 = .ok (.if_icmp .ne 13, 3) := by decide +kernel
theorem dX8_perform_199 : decode cX8_perform 199 = .ok (.aload_n 0, 1) := by decide +kernel
theorem dX8_perform_200 : decode cX8_perform 200 = .ok (.iload 4, 2) := by decide +kernel
theorem dX8_perform_202 : decode cX8_perform 202 = .ok (.iconst 3, 1) := by decide +kernel
theorem dX8_perform_203 : decode cX8_perform 203 = .ok (.imul, 1) := by decide +kernel
theorem dX8_perform_204 : decode cX8_perform 204 = .ok (.iconst 1, 1) := by decide +kernel
theorem dX8_perform_205 : decode cX8_perform 205 = .ok (.iconst (-1), 1) := by decide +kernel
theorem dX8_perform_206 : decode cX8_perform 206 = .ok (.invokevirtual 110, 3) := by decide +kernel
theorem dX8_perform_209 : decode cX8_perform 209 = .ok (.iload 5, 2) := by decide +kernel
theorem dX8_perform_211 : decode cX8_perform 211 = .ok (.ifCond .eq 22, 3) := by decide +kernel
theorem dX8_perform_214 : decode cX8_perform 214 = .ok (.aload_n 0, 1) := by decide +kernel
theorem dX8_perform_215 : decode cX8_perform 215 = .ok (.getfield 38, 3) := by decide +kernel
theorem dX8_perform_218 : decode cX8_perform 218 = .ok (.iload 4, 2) := by decide +kernel
theorem dX8_perform_220 : decode cX8_perform 220 = .ok (.aload_n 0, 1) := by decide +kernel
theorem dX8_perform_221 : decode cX8_perform 221 = .ok (.iload_n 2, 1) := by decide +kernel
theorem dX8_perform_222 : decode cX8_perform 222 = .ok (.iload 7, 2) := by decide +kernel
theorem dX8_perform_224 : decode cX8_perform 224 = .ok (.iload 6, 2) := by decide +kernel
theorem dX8_perform_226 : decode cX8_perform 226 = .ok (.invokevirtual 118, 3) := by decide +kernel
theorem dX8_perform_229 : decode cX8_perform 229 = .ok (.iastore, 1) := by decide +kernel
theorem dX8_perform_230 : decode cX8_perform 230 = .ok (.goto 56, 3) := by decide +kernel
theorem dX8_perform_233 : decode cX8_perform 233 = .ok (.iload_n 2, 1) := by decide +kernel
theorem dX8_perform_234 : decode cX8_perform 234 = .ok (.iconst 2, 1) := by decide +kernel
theorem dX8_perform_235 : decode cX8_perform 235 = .ok (.if_icmp .ne 19, 3) := by decide +kernel
theorem dX8_perform_238 : decode cX8_perform 238 = .ok (.iload 6, 2) := by decide +kernel
theorem dX8_perform_240 : decode cX8_perform 240 = .ok (.iconst (-1), 1) := by decide +kernel
theorem dX8_perform_241 : decode cX8_perform 241 = .ok (.if_icmp .ne 13, 3) := by decide +kernel
theorem dX8_perform_244 : decode cX8_perform 244 = .ok (.aload_n 0, 1) := by decide +kernel
theorem dX8_perform_245 : decode cX8_perform 245 = .ok (.getfield 38, 3) := by decide +kernel
theorem dX8_perform_248 : decode cX8_perform 248 = .ok (.iload_n 3, 1) := by decide +kernel
theorem dX8_perform_249 : decode cX8_perform 249 = .ok (.iconst (-1), 1) := by decide +kernel
theorem dX8_perform_250 : decode cX8_perform 250 = .ok (.iastore, 1) := by decide +kernel
theorem dX8_perform_251 : decode cX8_perform 251 = .ok (.goto 35, 3) := by decide +kernel
theorem dX8_perform_254 : decode cX8_perform 254 = .ok (.iload_n 2, 1) := by decide +kernel
theorem dX8_perform_255 : decode cX8_perform 255 = .ok (.bipush 6, 2) := by decide +kernel
theorem dX8_perform_257 : decode cX8_perform 257 = .ok (.if_icmp .ne 29, 3) := by decide +kernel
theorem dX8_perform_260 : decode cX8_perform 260 = .ok (.iload_n 3, 1) := by decide +kernel
theorem dX8_perform_261 : decode cX8_perform 261 = .ok (.iload 4, 2) := by decide +kernel
theorem dX8_perform_263 : decode cX8_perform 263 = .ok (.if_icmp .eq 23, 3) := by decide +kernel
theorem dX8_perform_266 : decode cX8_perform 266 = .ok (.aload_n 0, 1) := by decide +kernel
theorem dX8_perform_267 : decode cX8_perform 267 = .ok (.getfield 38, 3) := by decide +kernel
theorem dX8_perform_270 : decode cX8_perform 270 = .ok (.iload 4, 2) := by decide +kernel
theorem dX8_perform_272 : decode cX8_perform 272 = .ok (.aload_n 0, 1) := by decide +kernel
theorem dX8_perform_273 : decode cX8_perform 273 = .ok (.getfield 38, 3) := by decide +kernel
theorem dX8_perform_276 : decode cX8_perform 276 = .ok (.iload_n 3, 1) := by decide +kernel
theorem dX8_perform_277 : decode cX8_perform 277 = .ok (.iaload, 1) := by decide +kernel
theorem dX8_perform_278 : decode cX8_perform 278 = .ok (.iastore, 1) := by decide +kernel
theorem dX8_perform_279 : decode cX8_perform 279 = .ok (.aload_n 0, 1) := by decide +kernel
theorem dX8_perform_280 : decode cX8_perform 280 = .ok (.getfield 38, 3) := by decide +kernel
theorem dX8_perform_283 : decode cX8_perform 283 = .ok (.iload_n 3, 1) := by decide +kernel
theorem dX8_perform_284 : decode cX8_perform 284 = .ok (.iconst (-1), 1) := by decide +kernel
theorem dX8_perform_285 : decode cX8_perform 285 = .ok (.iastore, 1) := by decide +kernel
theorem dX8_perform_286 : decode cX8_perform 286 = .ok (.return_, 1) := by decide +kernel
def f_X8_perform_B254_1 (v2 : Int32) (v4 : Int32) (v6 : Int32) (s31 : sh_S) : Option (sh_S) := (if v2 = (6 : Int32) then (if v4 = v6 then some s31 else gu (inb v4 8) (gu (inb v6 8) (lb (ur s31 63 (upd (s31 63) (ix v6) (s31 63 (ix v4)))) (fun s34 => gu (inb v4 8) (lb (ur s34 63 (upd (s34 63) (ix v4) (-1 : Int32))) (fun s36 => some s36)))))) else some s31)
def f_X8_perform (p1 : Int32) (s0 : sh_S) : Option (sh_S) := gu (inb p1 24) (lb ((s0 5 (ix p1))) (fun v2 => gu (inb p1 24) (lb ((s0 6 (ix p1))) (fun v4 => gu (inb p1 24) (lb ((s0 2 (ix p1))) (fun v6 => gu (inb p1 24) (lb ((s0 8 (ix p1))) (fun v8 => gu (inb p1 24) (ob (if (s0 9 (ix p1)) = 0 then some (-1 : Int32) else gu (inb v4 8) (some (s0 63 (ix v4)))) (fun v10 => ob (if v10 = (-1 : Int32) then some s0 else gu (inb v10 300) ((if (s0 57 (ix v10)) = (5 : Int32) then gu (inb v10 300) ((if (s0 61 (ix v10)) = 0 then gu (inb v10 300) (ob (f_X8_touch (s0 58 (ix v10)) (1 : Int32) v10 s0) (fun s16 => gu (inb v10 300) (lb (ur s16 61 (upd (s16 61) (ix v10) (nz (1 : Int32)))) (fun s18 => some s18)))) else some s0)) else some s0))) (fun s12 => ob (f_X8_spotOf p1 v10 s12) (fun v19 => ob (if v2 = (1 : Int32) then ob (f_X8_touch v19 (0 : Int32) v10 s12) (fun s21 => some s21) else (if v2 = (3 : Int32) then ob (f_X8_touch v19 (0 : Int32) v10 s12) (fun s22 => some s22) else (if v2 = (5 : Int32) then ob (f_X8_touch v19 (0 : Int32) v10 s12) (fun s26 => some s26) else (if v2 = (2 : Int32) then ob (f_X8_touch v19 (1 : Int32) v10 s12) (fun s23 => some s23) else (if v2 = (4 : Int32) then ob (f_X8_touch v19 (1 : Int32) v10 s12) (fun s25 => some s25) else (if v2 = (6 : Int32) then ob (f_X8_touch (v4 * (3 : Int32)) (1 : Int32) (-1 : Int32) s12) (fun s24 => some s24) else some s12)))))) (fun s20 => ob (if v8 = 0 then (if v2 = (6 : Int32) then ob (f_X8_touch (v6 * (3 : Int32)) (1 : Int32) (-1 : Int32) s20) (fun s29 => some s29) else some s20) else ob (f_X8_touch (v6 * (3 : Int32)) (1 : Int32) (-1 : Int32) s20) (fun s28 => some s28)) (fun s27 => ob (if v8 = 0 then (if v2 = (2 : Int32) then (if v10 = (-1 : Int32) then gu (inb v4 8) (lb (ur s27 63 (upd (s27 63) (ix v4) (-1 : Int32))) (fun s38 => some s38)) else f_X8_perform_B254_1 v2 v4 v6 s27) else f_X8_perform_B254_1 v2 v4 v6 s27) else ob2 (f_X8_make v2 v19 v10 s27) (fun v39 s40 => gu (inb v6 8) (lb (ur s40 63 (upd (s40 63) (ix v6) v39)) (fun s42 => some s42)))) (fun s30 => some s30)))))))))))))))
set_option maxRecDepth 100000 in
set_option maxHeartbeats 4000000 in
theorem c_X8_perform (p1 : Int32) (s0 : sh_S) (s9x : sh_S) (hf : f_X8_perform p1 s0 = some s9x) : Ctr yX8_perform cX8_perform 8 none ({ frames := 2, cells := 0, slots := 0, locals := 47 } : Room) shX [.ref 56, .int p1] s0 none s9x := by
  refine Ctr.mk (ri := .return_) (by decide) (Nat.le_of_ble_eq_true rfl) (Rt_v) ?_
  intro G h hL hR hret
  refine k_drop (lv' := [(0, .ref 56), (1, .int p1)]) [0, 1] rfl ?_
  unfold f_X8_perform at hf
  refine k_aload_n (pc := 0) h dX8_perform_0 rfl 0 rfl ?_
  refine k_getR (pc := 1) h fl_RX8_60 rfl rfl dX8_perform_1 ?_
  refine k_getR (pc := 4) h fl_RX8_101 rfl rfl dX8_perform_4 ?_
  refine k_iload_n (pc := 7) h dX8_perform_7 rfl 1 rfl ?_
  obtain ⟨g1, hf⟩ := gu_s hf
  refine k_iald (pc := 8) (n := 24) h rfl g1 dX8_perform_8 ?_
  obtain ⟨v2, ev2, hf⟩ := lb_s hf
  refine k_top ev2 ?_
  refine k_istore_n (pc := 9) h dX8_perform_9 rfl (nk hL (by decide)) (lv' := [(0, .ref 56), (1, .int p1), (2, .int v2)]) rfl ?_
  refine k_aload_n (pc := 10) h dX8_perform_10 rfl 0 rfl ?_
  refine k_getR (pc := 11) h fl_RX8_60 rfl rfl dX8_perform_11 ?_
  refine k_getR (pc := 14) h fl_RX8_89 rfl rfl dX8_perform_14 ?_
  refine k_iload_n (pc := 17) h dX8_perform_17 rfl 1 rfl ?_
  obtain ⟨g3, hf⟩ := gu_s hf
  refine k_iald (pc := 18) (n := 24) h rfl g3 dX8_perform_18 ?_
  obtain ⟨v4, ev4, hf⟩ := lb_s hf
  refine k_top ev4 ?_
  refine k_istore_n (pc := 19) h dX8_perform_19 rfl (nk hL (by decide)) (lv' := [(0, .ref 56), (1, .int p1), (2, .int v2), (3, .int v4)]) rfl ?_
  refine k_aload_n (pc := 20) h dX8_perform_20 rfl 0 rfl ?_
  refine k_getR (pc := 21) h fl_RX8_60 rfl rfl dX8_perform_21 ?_
  refine k_getR (pc := 24) h fl_RX8_107 rfl rfl dX8_perform_24 ?_
  refine k_iload_n (pc := 27) h dX8_perform_27 rfl 1 rfl ?_
  obtain ⟨g5, hf⟩ := gu_s hf
  refine k_iald (pc := 28) (n := 24) h rfl g5 dX8_perform_28 ?_
  obtain ⟨v6, ev6, hf⟩ := lb_s hf
  refine k_top ev6 ?_
  refine k_istore (pc := 29) h dX8_perform_29 (nk hL (by decide)) (lv' := [(0, .ref 56), (1, .int p1), (2, .int v2), (3, .int v4), (4, .int v6)]) rfl ?_
  refine k_aload_n (pc := 31) h dX8_perform_31 rfl 0 rfl ?_
  refine k_getR (pc := 32) h fl_RX8_60 rfl rfl dX8_perform_32 ?_
  refine k_getR (pc := 35) h fl_RX8_95 rfl rfl dX8_perform_35 ?_
  refine k_iload_n (pc := 38) h dX8_perform_38 rfl 1 rfl ?_
  obtain ⟨g7, hf⟩ := gu_s hf
  refine k_zald (pc := 39) (n := 24) h rfl g7 dX8_perform_39 ?_
  obtain ⟨v8, ev8, hf⟩ := lb_s hf
  refine k_top ev8 ?_
  refine k_istore (pc := 40) h dX8_perform_40 (nk hL (by decide)) (lv' := [(0, .ref 56), (1, .int p1), (2, .int v2), (3, .int v4), (4, .int v6), (5, .int v8)]) rfl ?_
  refine k_aload_n (pc := 42) h dX8_perform_42 rfl 0 rfl ?_
  refine k_getR (pc := 43) h fl_RX8_60 rfl rfl dX8_perform_43 ?_
  refine k_getR (pc := 46) h fl_RX8_92 rfl rfl dX8_perform_46 ?_
  refine k_iload_n (pc := 49) h dX8_perform_49 rfl 1 rfl ?_
  obtain ⟨g9, hf⟩ := gu_s hf
  refine k_zald (pc := 50) (n := 24) h rfl g9 dX8_perform_50 ?_
  obtain ⟨v10, hj, hf⟩ := ob_s hf
  have kj51 : sh_K G shX 64 [(0, .ref 56), (1, .int p1), (2, .int v2), (3, .int v4), (4, .int v6), (5, .int v8)] [.int v10] s0 := by
    refine k_istore (pc := 64) h dX8_perform_64 (nk hL (by decide)) (lv' := [(0, .ref 56), (1, .int p1), (2, .int v2), (3, .int v4), (4, .int v6), (5, .int v8), (6, .int v10)]) rfl ?_
    refine k_iload (pc := 66) h dX8_perform_66 6 rfl ?_
    refine k_iconst (pc := 68) h dX8_perform_68 kc_iconst_m1 ?_
    obtain ⟨s12, hj, hf⟩ := ob_s hf
    have kj69 : sh_K G shX 115 [(0, .ref 56), (1, .int p1), (2, .int v2), (3, .int v4), (4, .int v6), (5, .int v8), (6, .int v10)] [] s12 := by
      refine k_aload_n (pc := 115) h dX8_perform_115 rfl 0 rfl ?_
      refine k_iload_n (pc := 116) h dX8_perform_116 rfl 1 rfl ?_
      refine k_iload (pc := 117) h dX8_perform_117 6 rfl ?_
      obtain ⟨v19, cv19, hf⟩ := ob_s hf
      refine k_callV0 (pc := 119) h cv_RX8_114 (c_X8_spotOf p1 v10 s12 v19 cv19) rfl rfl rfl (st1 := [.int v19]) rfl ⟨rfl, rfl⟩ (rk hR (Nat.le_of_ble_eq_true rfl) (Nat.le_of_ble_eq_true rfl)) (Nat.le_of_ble_eq_true rfl) dX8_perform_119 ?_
      refine k_istore (pc := 122) h dX8_perform_122 (nk hL (by decide)) (lv' := [(0, .ref 56), (1, .int p1), (2, .int v2), (3, .int v4), (4, .int v6), (5, .int v8), (6, .int v10), (7, .int v19)]) rfl ?_
      refine k_iload_n (pc := 124) h dX8_perform_124 rfl 2 rfl ?_
      refine k_iconst (pc := 125) h dX8_perform_125 kc_iconst_1 ?_
      obtain ⟨s20, hj, hf⟩ := ob_s hf
      have kj126 : sh_K G shX 188 [(0, .ref 56), (2, .int v2), (3, .int v4), (4, .int v6), (5, .int v8), (6, .int v10), (7, .int v19)] [] s20 := by
        refine k_iload (pc := 188) h dX8_perform_188 4 rfl ?_
        obtain ⟨s27, hj, hf⟩ := ob_s hf
        have kj190 : sh_K G shX 209 [(0, .ref 56), (2, .int v2), (3, .int v4), (4, .int v6), (5, .int v8), (6, .int v10), (7, .int v19)] [] s27 := by
          refine k_iload (pc := 209) h dX8_perform_209 4 rfl ?_
          obtain ⟨s30, hj, hf⟩ := ob_s hf
          have kj211 : sh_K G shX 286 [] [] s30 := by
            obtain rfl := so1 hf
            exact hret 286 _ dX8_perform_286 trivial
          clear hf
          have hf := hj
          clear hj
          refine k_if_eq (pc := 211) (tgt := 233) h dX8_perform_211 rfl (fun hc => ?_) (fun hc => ?_)
          · have hf := it_p hc hf
            refine k_iload_n (pc := 233) h dX8_perform_233 rfl 1 rfl ?_
            refine k_iconst (pc := 234) h dX8_perform_234 kc_iconst_2 ?_
            have kb254_1 : ∀ (s31 : sh_S), f_X8_perform_B254_1 v2 v4 v6 s31 = some s30 → sh_K G shX 254 [(0, .ref 56), (2, .int v2), (3, .int v4), (4, .int v6)] [] s31 := by
              clear hf
              intro s31 hf
              unfold f_X8_perform_B254_1 at hf
              refine k_iload_n (pc := 254) h dX8_perform_254 rfl 1 rfl ?_
              refine k_bipush (pc := 255) h dX8_perform_255 kc_bipush_6 ?_
              refine k_icmp_ne (pc := 257) (tgt := 286) h dX8_perform_257 rfl (fun hc => ?_) (fun hc => ?_)
              · have hf := it_n hc hf
                obtain rfl := so1 hf
                exact k_drop [] rfl kj211
              · have hf := it_p hc hf
                refine k_iload_n (pc := 260) h dX8_perform_260 rfl 2 rfl ?_
                refine k_iload (pc := 261) h dX8_perform_261 3 rfl ?_
                refine k_icmp_eq (pc := 263) (tgt := 286) h dX8_perform_263 rfl (fun hc => ?_) (fun hc => ?_)
                · have hf := it_p hc hf
                  obtain rfl := so1 hf
                  exact k_drop [] rfl kj211
                · have hf := it_n hc hf
                  refine k_aload_n (pc := 266) h dX8_perform_266 rfl 0 rfl ?_
                  refine k_getR (pc := 267) h fl_RX8_38 rfl rfl dX8_perform_267 ?_
                  refine k_iload (pc := 270) h dX8_perform_270 3 rfl ?_
                  refine k_aload_n (pc := 272) h dX8_perform_272 rfl 0 rfl ?_
                  refine k_getR (pc := 273) h fl_RX8_38 rfl rfl dX8_perform_273 ?_
                  refine k_iload_n (pc := 276) h dX8_perform_276 rfl 2 rfl ?_
                  obtain ⟨g32, hf⟩ := gu_s hf
                  refine k_iald (pc := 277) (n := 8) h rfl g32 dX8_perform_277 ?_
                  obtain ⟨g33, hf⟩ := gu_s hf
                  obtain ⟨s34, es34, hf⟩ := lb_s hf
                  refine k_iast (pc := 278) (n := 8) h rfl g33 dX8_perform_278 ?_
                  refine k_heap es34 ?_
                  refine k_aload_n (pc := 279) h dX8_perform_279 rfl 0 rfl ?_
                  refine k_getR (pc := 280) h fl_RX8_38 rfl rfl dX8_perform_280 ?_
                  refine k_iload_n (pc := 283) h dX8_perform_283 rfl 2 rfl ?_
                  refine k_iconst (pc := 284) h dX8_perform_284 kc_iconst_m1 ?_
                  obtain ⟨g35, hf⟩ := gu_s hf
                  obtain ⟨s36, es36, hf⟩ := lb_s hf
                  refine k_iast (pc := 285) (n := 8) h rfl g35 dX8_perform_285 ?_
                  refine k_heap es36 ?_
                  obtain rfl := so1 hf
                  exact k_drop [] rfl kj211
            refine k_icmp_ne (pc := 235) (tgt := 254) h dX8_perform_235 rfl (fun hc => ?_) (fun hc => ?_)
            · have hf := it_n hc hf
              exact k_drop [0, 1, 2, 3] rfl (kb254_1 s27 hf)
            · have hf := it_p hc hf
              refine k_iload (pc := 238) h dX8_perform_238 5 rfl ?_
              refine k_iconst (pc := 240) h dX8_perform_240 kc_iconst_m1 ?_
              refine k_icmp_ne (pc := 241) (tgt := 254) h dX8_perform_241 rfl (fun hc => ?_) (fun hc => ?_)
              · have hf := it_n hc hf
                exact k_drop [0, 1, 2, 3] rfl (kb254_1 s27 hf)
              · have hf := it_p hc hf
                refine k_aload_n (pc := 244) h dX8_perform_244 rfl 0 rfl ?_
                refine k_getR (pc := 245) h fl_RX8_38 rfl rfl dX8_perform_245 ?_
                refine k_iload_n (pc := 248) h dX8_perform_248 rfl 2 rfl ?_
                refine k_iconst (pc := 249) h dX8_perform_249 kc_iconst_m1 ?_
                obtain ⟨g37, hf⟩ := gu_s hf
                obtain ⟨s38, es38, hf⟩ := lb_s hf
                refine k_iast (pc := 250) (n := 8) h rfl g37 dX8_perform_250 ?_
                refine k_heap es38 ?_
                refine k_goto (pc := 251) (tgt := 286) h dX8_perform_251 rfl ?_
                obtain rfl := so1 hf
                exact k_drop [] rfl kj211
          · have hf := it_n hc hf
            refine k_aload_n (pc := 214) h dX8_perform_214 rfl 0 rfl ?_
            refine k_getR (pc := 215) h fl_RX8_38 rfl rfl dX8_perform_215 ?_
            refine k_iload (pc := 218) h dX8_perform_218 3 rfl ?_
            refine k_aload_n (pc := 220) h dX8_perform_220 rfl 0 rfl ?_
            refine k_iload_n (pc := 221) h dX8_perform_221 rfl 1 rfl ?_
            refine k_iload (pc := 222) h dX8_perform_222 6 rfl ?_
            refine k_iload (pc := 224) h dX8_perform_224 5 rfl ?_
            obtain ⟨v39, s40, cv39, hf⟩ := ob2_s hf
            refine k_callV0 (pc := 226) h cv_RX8_118 (c_X8_make v2 v19 v10 s27 v39 s40 cv39) rfl rfl rfl (st1 := [.int v39, .int v6, .ref 63]) rfl ⟨rfl, rfl⟩ (rk hR (Nat.le_of_ble_eq_true rfl) (Nat.le_of_ble_eq_true rfl)) (Nat.le_of_ble_eq_true rfl) dX8_perform_226 ?_
            obtain ⟨g41, hf⟩ := gu_s hf
            obtain ⟨s42, es42, hf⟩ := lb_s hf
            refine k_iast (pc := 229) (n := 8) h rfl g41 dX8_perform_229 ?_
            refine k_heap es42 ?_
            refine k_goto (pc := 230) (tgt := 286) h dX8_perform_230 rfl ?_
            obtain rfl := so1 hf
            exact k_drop [] rfl kj211
        clear hf
        have hf := hj
        clear hj
        refine k_if_ne (pc := 190) (tgt := 199) h dX8_perform_190 rfl (fun hc => ?_) (fun hc => ?_)
        · have hf := it_n hc hf
          refine k_aload_n (pc := 199) h dX8_perform_199 rfl 0 rfl ?_
          refine k_iload (pc := 200) h dX8_perform_200 3 rfl ?_
          refine k_iconst (pc := 202) h dX8_perform_202 kc_iconst_3 ?_
          refine k_imul (pc := 203) h dX8_perform_203 ?_
          refine k_iconst (pc := 204) h dX8_perform_204 kc_iconst_1 ?_
          refine k_iconst (pc := 205) h dX8_perform_205 kc_iconst_m1 ?_
          obtain ⟨s28, cs28, hf⟩ := ob_s hf
          refine k_callV0 (pc := 206) h cv_RX8_110 (c_X8_touch (v6 * (3 : Int32)) (1 : Int32) (-1 : Int32) s20 s28 cs28) rfl rfl rfl (st1 := []) rfl ⟨rfl, rfl⟩ (rk hR (Nat.le_of_ble_eq_true rfl) (Nat.le_of_ble_eq_true rfl)) (Nat.le_of_ble_eq_true rfl) dX8_perform_206 ?_
          obtain rfl := so1 hf
          exact k_drop [0, 1, 2, 3, 4, 5, 6] rfl kj190
        · have hf := it_p hc hf
          refine k_iload_n (pc := 193) h dX8_perform_193 rfl 1 rfl ?_
          refine k_bipush (pc := 194) h dX8_perform_194 kc_bipush_6 ?_
          refine k_icmp_ne (pc := 196) (tgt := 209) h dX8_perform_196 rfl (fun hc => ?_) (fun hc => ?_)
          · have hf := it_n hc hf
            obtain rfl := so1 hf
            exact k_drop [0, 1, 2, 3, 4, 5, 6] rfl kj190
          · have hf := it_p hc hf
            refine k_aload_n (pc := 199) h dX8_perform_199 rfl 0 rfl ?_
            refine k_iload (pc := 200) h dX8_perform_200 3 rfl ?_
            refine k_iconst (pc := 202) h dX8_perform_202 kc_iconst_3 ?_
            refine k_imul (pc := 203) h dX8_perform_203 ?_
            refine k_iconst (pc := 204) h dX8_perform_204 kc_iconst_1 ?_
            refine k_iconst (pc := 205) h dX8_perform_205 kc_iconst_m1 ?_
            obtain ⟨s29, cs29, hf⟩ := ob_s hf
            refine k_callV0 (pc := 206) h cv_RX8_110 (c_X8_touch (v6 * (3 : Int32)) (1 : Int32) (-1 : Int32) s20 s29 cs29) rfl rfl rfl (st1 := []) rfl ⟨rfl, rfl⟩ (rk hR (Nat.le_of_ble_eq_true rfl) (Nat.le_of_ble_eq_true rfl)) (Nat.le_of_ble_eq_true rfl) dX8_perform_206 ?_
            obtain rfl := so1 hf
            exact k_drop [0, 1, 2, 3, 4, 5, 6] rfl kj190
      clear hf
      have hf := hj
      clear hj
      refine k_icmp_eq (pc := 126) (tgt := 139) h dX8_perform_126 rfl (fun hc => ?_) (fun hc => ?_)
      · have hf := it_p hc hf
        refine k_aload_n (pc := 139) h dX8_perform_139 rfl 0 rfl ?_
        refine k_iload (pc := 140) h dX8_perform_140 7 rfl ?_
        refine k_iconst (pc := 142) h dX8_perform_142 kc_iconst_0 ?_
        refine k_iload (pc := 143) h dX8_perform_143 6 rfl ?_
        obtain ⟨s21, cs21, hf⟩ := ob_s hf
        refine k_callV0 (pc := 145) h cv_RX8_110 (c_X8_touch v19 (0 : Int32) v10 s12 s21 cs21) rfl rfl rfl (st1 := []) rfl ⟨rfl, rfl⟩ (rk hR (Nat.le_of_ble_eq_true rfl) (Nat.le_of_ble_eq_true rfl)) (Nat.le_of_ble_eq_true rfl) dX8_perform_145 ?_
        refine k_goto (pc := 148) (tgt := 188) h dX8_perform_148 rfl ?_
        obtain rfl := so1 hf
        exact k_drop [0, 2, 3, 4, 5, 6, 7] rfl kj126
      · have hf := it_n hc hf
        refine k_iload_n (pc := 129) h dX8_perform_129 rfl 2 rfl ?_
        refine k_iconst (pc := 130) h dX8_perform_130 kc_iconst_3 ?_
        refine k_icmp_eq (pc := 131) (tgt := 139) h dX8_perform_131 rfl (fun hc => ?_) (fun hc => ?_)
        · have hf := it_p hc hf
          refine k_aload_n (pc := 139) h dX8_perform_139 rfl 0 rfl ?_
          refine k_iload (pc := 140) h dX8_perform_140 7 rfl ?_
          refine k_iconst (pc := 142) h dX8_perform_142 kc_iconst_0 ?_
          refine k_iload (pc := 143) h dX8_perform_143 6 rfl ?_
          obtain ⟨s22, cs22, hf⟩ := ob_s hf
          refine k_callV0 (pc := 145) h cv_RX8_110 (c_X8_touch v19 (0 : Int32) v10 s12 s22 cs22) rfl rfl rfl (st1 := []) rfl ⟨rfl, rfl⟩ (rk hR (Nat.le_of_ble_eq_true rfl) (Nat.le_of_ble_eq_true rfl)) (Nat.le_of_ble_eq_true rfl) dX8_perform_145 ?_
          refine k_goto (pc := 148) (tgt := 188) h dX8_perform_148 rfl ?_
          obtain rfl := so1 hf
          exact k_drop [0, 2, 3, 4, 5, 6, 7] rfl kj126
        · have hf := it_n hc hf
          refine k_iload_n (pc := 134) h dX8_perform_134 rfl 2 rfl ?_
          refine k_iconst (pc := 135) h dX8_perform_135 kc_iconst_5 ?_
          refine k_icmp_ne (pc := 136) (tgt := 151) h dX8_perform_136 rfl (fun hc => ?_) (fun hc => ?_)
          · have hf := it_n hc hf
            refine k_iload_n (pc := 151) h dX8_perform_151 rfl 2 rfl ?_
            refine k_iconst (pc := 152) h dX8_perform_152 kc_iconst_2 ?_
            refine k_icmp_eq (pc := 153) (tgt := 161) h dX8_perform_153 rfl (fun hc => ?_) (fun hc => ?_)
            · have hf := it_p hc hf
              refine k_aload_n (pc := 161) h dX8_perform_161 rfl 0 rfl ?_
              refine k_iload (pc := 162) h dX8_perform_162 7 rfl ?_
              refine k_iconst (pc := 164) h dX8_perform_164 kc_iconst_1 ?_
              refine k_iload (pc := 165) h dX8_perform_165 6 rfl ?_
              obtain ⟨s23, cs23, hf⟩ := ob_s hf
              refine k_callV0 (pc := 167) h cv_RX8_110 (c_X8_touch v19 (1 : Int32) v10 s12 s23 cs23) rfl rfl rfl (st1 := []) rfl ⟨rfl, rfl⟩ (rk hR (Nat.le_of_ble_eq_true rfl) (Nat.le_of_ble_eq_true rfl)) (Nat.le_of_ble_eq_true rfl) dX8_perform_167 ?_
              refine k_goto (pc := 170) (tgt := 188) h dX8_perform_170 rfl ?_
              obtain rfl := so1 hf
              exact k_drop [0, 2, 3, 4, 5, 6, 7] rfl kj126
            · have hf := it_n hc hf
              refine k_iload_n (pc := 156) h dX8_perform_156 rfl 2 rfl ?_
              refine k_iconst (pc := 157) h dX8_perform_157 kc_iconst_4 ?_
              refine k_icmp_ne (pc := 158) (tgt := 173) h dX8_perform_158 rfl (fun hc => ?_) (fun hc => ?_)
              · have hf := it_n hc hf
                refine k_iload_n (pc := 173) h dX8_perform_173 rfl 2 rfl ?_
                refine k_bipush (pc := 174) h dX8_perform_174 kc_bipush_6 ?_
                refine k_icmp_ne (pc := 176) (tgt := 188) h dX8_perform_176 rfl (fun hc => ?_) (fun hc => ?_)
                · have hf := it_n hc hf
                  obtain rfl := so1 hf
                  exact k_drop [0, 2, 3, 4, 5, 6, 7] rfl kj126
                · have hf := it_p hc hf
                  refine k_aload_n (pc := 179) h dX8_perform_179 rfl 0 rfl ?_
                  refine k_iload_n (pc := 180) h dX8_perform_180 rfl 3 rfl ?_
                  refine k_iconst (pc := 181) h dX8_perform_181 kc_iconst_3 ?_
                  refine k_imul (pc := 182) h dX8_perform_182 ?_
                  refine k_iconst (pc := 183) h dX8_perform_183 kc_iconst_1 ?_
                  refine k_iconst (pc := 184) h dX8_perform_184 kc_iconst_m1 ?_
                  obtain ⟨s24, cs24, hf⟩ := ob_s hf
                  refine k_callV0 (pc := 185) h cv_RX8_110 (c_X8_touch (v4 * (3 : Int32)) (1 : Int32) (-1 : Int32) s12 s24 cs24) rfl rfl rfl (st1 := []) rfl ⟨rfl, rfl⟩ (rk hR (Nat.le_of_ble_eq_true rfl) (Nat.le_of_ble_eq_true rfl)) (Nat.le_of_ble_eq_true rfl) dX8_perform_185 ?_
                  obtain rfl := so1 hf
                  exact k_drop [0, 2, 3, 4, 5, 6, 7] rfl kj126
              · have hf := it_p hc hf
                refine k_aload_n (pc := 161) h dX8_perform_161 rfl 0 rfl ?_
                refine k_iload (pc := 162) h dX8_perform_162 7 rfl ?_
                refine k_iconst (pc := 164) h dX8_perform_164 kc_iconst_1 ?_
                refine k_iload (pc := 165) h dX8_perform_165 6 rfl ?_
                obtain ⟨s25, cs25, hf⟩ := ob_s hf
                refine k_callV0 (pc := 167) h cv_RX8_110 (c_X8_touch v19 (1 : Int32) v10 s12 s25 cs25) rfl rfl rfl (st1 := []) rfl ⟨rfl, rfl⟩ (rk hR (Nat.le_of_ble_eq_true rfl) (Nat.le_of_ble_eq_true rfl)) (Nat.le_of_ble_eq_true rfl) dX8_perform_167 ?_
                refine k_goto (pc := 170) (tgt := 188) h dX8_perform_170 rfl ?_
                obtain rfl := so1 hf
                exact k_drop [0, 2, 3, 4, 5, 6, 7] rfl kj126
          · have hf := it_p hc hf
            refine k_aload_n (pc := 139) h dX8_perform_139 rfl 0 rfl ?_
            refine k_iload (pc := 140) h dX8_perform_140 7 rfl ?_
            refine k_iconst (pc := 142) h dX8_perform_142 kc_iconst_0 ?_
            refine k_iload (pc := 143) h dX8_perform_143 6 rfl ?_
            obtain ⟨s26, cs26, hf⟩ := ob_s hf
            refine k_callV0 (pc := 145) h cv_RX8_110 (c_X8_touch v19 (0 : Int32) v10 s12 s26 cs26) rfl rfl rfl (st1 := []) rfl ⟨rfl, rfl⟩ (rk hR (Nat.le_of_ble_eq_true rfl) (Nat.le_of_ble_eq_true rfl)) (Nat.le_of_ble_eq_true rfl) dX8_perform_145 ?_
            refine k_goto (pc := 148) (tgt := 188) h dX8_perform_148 rfl ?_
            obtain rfl := so1 hf
            exact k_drop [0, 2, 3, 4, 5, 6, 7] rfl kj126
    clear hf
    have hf := hj
    clear hj
    refine k_icmp_eq (pc := 69) (tgt := 115) h dX8_perform_69 rfl (fun hc => ?_) (fun hc => ?_)
    · have hf := it_p hc hf
      obtain rfl := so1 hf
      exact k_drop [0, 1, 2, 3, 4, 5, 6] rfl kj69
    · have hf := it_n hc hf
      refine k_aload_n (pc := 72) h dX8_perform_72 rfl 0 rfl ?_
      refine k_getR (pc := 73) h fl_RX8_9 rfl rfl dX8_perform_73 ?_
      refine k_iload (pc := 76) h dX8_perform_76 6 rfl ?_
      obtain ⟨g13, hf⟩ := gu_s hf
      refine k_iald (pc := 78) (n := 300) h rfl g13 dX8_perform_78 ?_
      refine k_iconst (pc := 79) h dX8_perform_79 kc_iconst_5 ?_
      refine k_icmp_ne (pc := 80) (tgt := 115) h dX8_perform_80 rfl (fun hc => ?_) (fun hc => ?_)
      · have hf := it_n hc hf
        obtain rfl := so1 hf
        exact k_drop [0, 1, 2, 3, 4, 5, 6] rfl kj69
      · have hf := it_p hc hf
        refine k_aload_n (pc := 83) h dX8_perform_83 rfl 0 rfl ?_
        refine k_getR (pc := 84) h fl_RX8_25 rfl rfl dX8_perform_84 ?_
        refine k_iload (pc := 87) h dX8_perform_87 6 rfl ?_
        obtain ⟨g14, hf⟩ := gu_s hf
        refine k_zald (pc := 89) (n := 300) h rfl g14 dX8_perform_89 ?_
        refine k_if_ne (pc := 90) (tgt := 115) h dX8_perform_90 rfl (fun hc => ?_) (fun hc => ?_)
        · have hf := it_n hc hf
          obtain rfl := so1 hf
          exact k_drop [0, 1, 2, 3, 4, 5, 6] rfl kj69
        · have hf := it_p hc hf
          refine k_aload_n (pc := 93) h dX8_perform_93 rfl 0 rfl ?_
          refine k_aload_n (pc := 94) h dX8_perform_94 rfl 0 rfl ?_
          refine k_getR (pc := 95) h fl_RX8_15 rfl rfl dX8_perform_95 ?_
          refine k_iload (pc := 98) h dX8_perform_98 6 rfl ?_
          obtain ⟨g15, hf⟩ := gu_s hf
          refine k_iald (pc := 100) (n := 300) h rfl g15 dX8_perform_100 ?_
          refine k_iconst (pc := 101) h dX8_perform_101 kc_iconst_1 ?_
          refine k_iload (pc := 102) h dX8_perform_102 6 rfl ?_
          obtain ⟨s16, cs16, hf⟩ := ob_s hf
          refine k_callV0 (pc := 104) h cv_RX8_110 (c_X8_touch (s0 58 (ix v10)) (1 : Int32) v10 s0 s16 cs16) rfl rfl rfl (st1 := []) rfl ⟨rfl, rfl⟩ (rk hR (Nat.le_of_ble_eq_true rfl) (Nat.le_of_ble_eq_true rfl)) (Nat.le_of_ble_eq_true rfl) dX8_perform_104 ?_
          refine k_aload_n (pc := 107) h dX8_perform_107 rfl 0 rfl ?_
          refine k_getR (pc := 108) h fl_RX8_25 rfl rfl dX8_perform_108 ?_
          refine k_iload (pc := 111) h dX8_perform_111 6 rfl ?_
          refine k_iconst (pc := 113) h dX8_perform_113 kc_iconst_1 ?_
          obtain ⟨g17, hf⟩ := gu_s hf
          obtain ⟨s18, es18, hf⟩ := lb_s hf
          refine k_zast (pc := 114) (n := 300) h rfl g17 dX8_perform_114 ?_
          refine k_heap es18 ?_
          obtain rfl := so1 hf
          exact k_drop [0, 1, 2, 3, 4, 5, 6] rfl kj69
  clear hf
  have hf := hj
  clear hj
  refine k_if_eq (pc := 51) (tgt := 63) h dX8_perform_51 rfl (fun hc => ?_) (fun hc => ?_)
  · have hf := it_p hc hf
    refine k_iconst (pc := 63) h dX8_perform_63 kc_iconst_m1 ?_
    obtain rfl := so1 hf
    exact k_drop [0, 1, 2, 3, 4, 5] rfl kj51
  · have hf := it_n hc hf
    refine k_aload_n (pc := 54) h dX8_perform_54 rfl 0 rfl ?_
    refine k_getR (pc := 55) h fl_RX8_38 rfl rfl dX8_perform_55 ?_
    refine k_iload_n (pc := 58) h dX8_perform_58 rfl 3 rfl ?_
    obtain ⟨g11, hf⟩ := gu_s hf
    refine k_iald (pc := 59) (n := 8) h rfl g11 dX8_perform_59 ?_
    refine k_goto (pc := 60) (tgt := 64) h dX8_perform_60 rfl ?_
    obtain rfl := so1 hf
    exact k_drop [0, 1, 2, 3, 4, 5] rfl kj51
theorem dX8_following_0 : decode cX8_following 0 = .ok (.aload_n 0, 1) := by decide +kernel
theorem dX8_following_1 : decode cX8_following 1 = .ok (.getfield 60, 3) := by decide +kernel
theorem dX8_following_4 : decode cX8_following 4 = .ok (.getfield 81, 3) := by decide +kernel
theorem dX8_following_7 : decode cX8_following 7 = .ok (.iload_n 1, 1) := by decide +kernel
theorem dX8_following_8 : decode cX8_following 8 = .ok (.iaload, 1) := by decide +kernel
theorem dX8_following_9 : decode cX8_following 9 = .ok (.tableswitch 59 7 9 #[27, 47, 57], 27) := by decide +kernel
theorem dX8_following_36 : decode cX8_following 36 = .ok (.iload_n 2, 1) := by decide +kernel
theorem dX8_following_37 : decode cX8_following 37 = .ok (.ifCond .eq 15, 3) := by decide +kernel
theorem dX8_following_40 : decode cX8_following 40 = .ok (.aload_n 0, 1) := by decide +kernel
theorem dX8_following_41 : decode cX8_following 41 = .ok (.getfield 60, 3) := by decide +kernel
theorem dX8_following_44 : decode cX8_following 44 = .ok (.getfield 86, 3) := by decide +kernel
theorem dX8_following_47 : decode cX8_following 47 = .ok (.iload_n 1, 1) := by decide +kernel
theorem dX8_following_48 : decode cX8_following 48 = .ok (.iaload, 1) := by decide +kernel
theorem dX8_following_49 : decode cX8_following 49 = .ok (.goto 6, 3) := by decide +kernel
theorem dX8_following_52 : decode cX8_following 52 = .ok (.iload_n 1, 1) := by decide +kernel
theorem dX8_following_53 : decode cX8_following 53 = .ok (.iconst 1, 1) := by decide +kernel
theorem dX8_following_54 : decode cX8_following 54 = .ok (.iadd, 1) := by decide +kernel
theorem dX8_following_55 : decode cX8_following 55 = .ok (.ireturn, 1) := by decide +kernel
theorem dX8_following_56 : decode cX8_following 56 = .ok (.aload_n 0, 1) := by decide +kernel
theorem dX8_following_57 : decode cX8_following 57 = .ok (.getfield 60, 3) := by decide +kernel
theorem dX8_following_60 : decode cX8_following 60 = .ok (.getfield 86, 3) := by decide +kernel
theorem dX8_following_63 : decode cX8_following 63 = .ok (.iload_n 1, 1) := by decide +kernel
theorem dX8_following_64 : decode cX8_following 64 = .ok (.iaload, 1) := by decide +kernel
theorem dX8_following_65 : decode cX8_following 65 = .ok (.ireturn, 1) := by decide +kernel
theorem dX8_following_66 : decode cX8_following 66 = .ok (.iconst (-1), 1) := by decide +kernel
theorem dX8_following_67 : decode cX8_following 67 = .ok (.ireturn, 1) := by decide +kernel
theorem dX8_following_68 : decode cX8_following 68 = .ok (.iload_n 1, 1) := by decide +kernel
theorem dX8_following_69 : decode cX8_following 69 = .ok (.iconst 1, 1) := by decide +kernel
theorem dX8_following_70 : decode cX8_following 70 = .ok (.iadd, 1) := by decide +kernel
theorem dX8_following_71 : decode cX8_following 71 = .ok (.ireturn, 1) := by decide +kernel
def f_X8_following (p1 : Int32) (p2 : Int32) (s0 : sh_S) : Option (Int32) := gu (inb p1 24) ((lb ((s0 1 (ix p1))) (fun v2 => if v2 = (7 : Int32) then ob (if p2 = 0 then some (p1 + (1 : Int32)) else gu (inb p1 24) (some (s0 4 (ix p1)))) (fun v3 => some v3) else if v2 = (8 : Int32) then gu (inb p1 24) (some (s0 4 (ix p1))) else if v2 = (9 : Int32) then some (-1 : Int32) else some (p1 + (1 : Int32)))))
set_option maxRecDepth 100000 in
set_option maxHeartbeats 4000000 in
theorem c_X8_following (p1 : Int32) (p2 : Int32) (s0 : sh_S) (r : Int32) (hf : f_X8_following p1 p2 s0 = some r) : Ctr yX8_following cX8_following 3 (some .int) ({ frames := 0, cells := 0, slots := 0, locals := 0 } : Room) shX [.ref 56, .int p1, .int p2] s0 (some (.int r)) s0 := by
  refine Ctr.mk (ri := .ireturn) (by decide) (Nat.le_of_ble_eq_true rfl) (Rt_i r) ?_
  intro G h hL hR hret
  refine k_drop (lv' := [(0, .ref 56), (1, .int p1), (2, .int p2)]) [0, 1, 2] rfl ?_
  unfold f_X8_following at hf
  refine k_aload_n (pc := 0) h dX8_following_0 rfl 0 rfl ?_
  refine k_getR (pc := 1) h fl_RX8_60 rfl rfl dX8_following_1 ?_
  refine k_getR (pc := 4) h fl_RX8_81 rfl rfl dX8_following_4 ?_
  refine k_iload_n (pc := 7) h dX8_following_7 rfl 1 rfl ?_
  obtain ⟨g1, hf⟩ := gu_s hf
  refine k_iald (pc := 8) (n := 24) h rfl g1 dX8_following_8 ?_
  obtain ⟨v2, ev2, hf⟩ := lb_s hf
  refine k_top ev2 ?_
  by_cases hc7 : v2 = (7 : Int32)
  · have hf := it_p hc7 hf
    refine k_tabIn (pc := 9) (tgt := 36) h dX8_following_9 (by rw [hc7]; decide) (by rw [hc7]; decide) (by rw [hc7]; rfl) rfl ?_
    refine k_iload_n (pc := 36) h dX8_following_36 rfl 2 rfl ?_
    obtain ⟨v3, hj, hf⟩ := ob_s hf
    have kj37 : sh_K G shX 55 [] [.int v3] s0 := by
      obtain rfl := so1 hf
      exact hret 55 _ dX8_following_55 trivial
    clear hf
    have hf := hj
    clear hj
    refine k_if_eq (pc := 37) (tgt := 52) h dX8_following_37 rfl (fun hc => ?_) (fun hc => ?_)
    · have hf := it_p hc hf
      refine k_iload_n (pc := 52) h dX8_following_52 rfl 1 rfl ?_
      refine k_iconst (pc := 53) h dX8_following_53 kc_iconst_1 ?_
      refine k_iadd (pc := 54) h dX8_following_54 ?_
      obtain rfl := so1 hf
      exact k_drop [] rfl kj37
    · have hf := it_n hc hf
      refine k_aload_n (pc := 40) h dX8_following_40 rfl 0 rfl ?_
      refine k_getR (pc := 41) h fl_RX8_60 rfl rfl dX8_following_41 ?_
      refine k_getR (pc := 44) h fl_RX8_86 rfl rfl dX8_following_44 ?_
      refine k_iload_n (pc := 47) h dX8_following_47 rfl 1 rfl ?_
      obtain ⟨g4, hf⟩ := gu_s hf
      refine k_iald (pc := 48) (n := 24) h rfl g4 dX8_following_48 ?_
      refine k_goto (pc := 49) (tgt := 55) h dX8_following_49 rfl ?_
      obtain rfl := so1 hf
      exact k_drop [] rfl kj37
  have hf := it_n hc7 hf
  by_cases hc8 : v2 = (8 : Int32)
  · have hf := it_p hc8 hf
    refine k_tabIn (pc := 9) (tgt := 56) h dX8_following_9 (by rw [hc8]; decide) (by rw [hc8]; decide) (by rw [hc8]; rfl) rfl ?_
    refine k_aload_n (pc := 56) h dX8_following_56 rfl 0 rfl ?_
    refine k_getR (pc := 57) h fl_RX8_60 rfl rfl dX8_following_57 ?_
    refine k_getR (pc := 60) h fl_RX8_86 rfl rfl dX8_following_60 ?_
    refine k_iload_n (pc := 63) h dX8_following_63 rfl 1 rfl ?_
    obtain ⟨g5, hf⟩ := gu_s hf
    refine k_iald (pc := 64) (n := 24) h rfl g5 dX8_following_64 ?_
    obtain rfl := so1 hf
    exact hret 65 _ dX8_following_65 trivial
  have hf := it_n hc8 hf
  by_cases hc9 : v2 = (9 : Int32)
  · have hf := it_p hc9 hf
    refine k_tabIn (pc := 9) (tgt := 66) h dX8_following_9 (by rw [hc9]; decide) (by rw [hc9]; decide) (by rw [hc9]; rfl) rfl ?_
    refine k_iconst (pc := 66) h dX8_following_66 kc_iconst_m1 ?_
    obtain rfl := so1 hf
    exact hret 67 _ dX8_following_67 trivial
  have hf := it_n hc9 hf
  refine k_tabOut (pc := 9) (tgt := 68) h dX8_following_9 (by have z7 := lv_neT hc7 (a := 7) rfl; have z8 := lv_neT hc8 (a := 8) rfl; have z9 := lv_neT hc9 (a := 9) rfl; omega) rfl ?_
  refine k_iload_n (pc := 68) h dX8_following_68 rfl 1 rfl ?_
  refine k_iconst (pc := 69) h dX8_following_69 kc_iconst_1 ?_
  refine k_iadd (pc := 70) h dX8_following_70 ?_
  obtain rfl := so1 hf
  exact hret 71 _ dX8_following_71 trivial
theorem dX8_go_0 : decode cX8_go 0 = .ok (.aload_n 0, 1) := by decide +kernel
theorem dX8_go_1 : decode cX8_go 1 = .ok (.getfield 41, 3) := by decide +kernel
theorem dX8_go_4 : decode cX8_go 4 = .ok (.ifCond .eq 20, 3) := by decide +kernel
theorem dX8_go_7 : decode cX8_go 7 = .ok (.aload_n 0, 1) := by decide +kernel
theorem dX8_go_8 : decode cX8_go 8 = .ok (.getfield 45, 3) := by decide +kernel
theorem dX8_go_11 : decode cX8_go 11 = .ok (.iload_n 1, 1) := by decide +kernel
theorem dX8_go_12 : decode cX8_go 12 = .ok (.if_icmp .ne 12, 3) := by decide +kernel
theorem dX8_go_15 : decode cX8_go 15 = .ok (.aload_n 0, 1) := by decide +kernel
theorem dX8_go_16 : decode cX8_go 16 = .ok (.getfield 48, 3) := by decide +kernel
theorem dX8_go_19 : decode cX8_go 19 = .ok (.iload_n 2, 1) := by decide +kernel
theorem dX8_go_20 : decode cX8_go 20 = .ok (.if_icmp .ne 4, 3) := by decide +kernel
theorem dX8_go_23 : decode cX8_go 23 = .ok (.return_, 1) := by decide +kernel
theorem dX8_go_24 : decode cX8_go 24 = .ok (.aload_n 0, 1) := by decide +kernel
theorem dX8_go_25 : decode cX8_go 25 = .ok (.iconst 1, 1) := by decide +kernel
theorem dX8_go_26 : decode cX8_go 26 = .ok (.putfield 41, 3) := by decide +kernel
theorem dX8_go_29 : decode cX8_go 29 = .ok (.aload_n 0, 1) := by decide +kernel
theorem dX8_go_30 : decode cX8_go 30 = .ok (.iload_n 1, 1) := by decide +kernel
theorem dX8_go_31 : decode cX8_go 31 = .ok (.putfield 45, 3) := by decide +kernel
theorem dX8_go_34 : decode cX8_go 34 = .ok (.aload_n 0, 1) := by decide +kernel
theorem dX8_go_35 : decode cX8_go 35 = .ok (.iload_n 2, 1) := by decide +kernel
theorem dX8_go_36 : decode cX8_go 36 = .ok (.putfield 48, 3) := by decide +kernel
theorem dX8_go_39 : decode cX8_go 39 = .ok (.aload_n 0, 1) := by decide +kernel
theorem dX8_go_40 : decode cX8_go 40 = .ok (.invokevirtual 64, 3) := by decide +kernel
theorem dX8_go_43 : decode cX8_go 43 = .ok (.iconst 0, 1) := by decide +kernel
theorem dX8_go_44 : decode cX8_go 44 = .ok (.istore_n 3, 1) := by decide +kernel
theorem dX8_go_45 : decode cX8_go 45 = .ok (.iconst 0, 1) := by decide +kernel
theorem dX8_go_46 : decode cX8_go 46 = .ok (.istore 4, 2) := by decide +kernel
theorem dX8_go_48 : decode cX8_go 48 = .ok (.aload_n 0, 1) := by decide +kernel
theorem dX8_go_49 : decode cX8_go 49 = .ok (.getfield 57, 3) := by decide +kernel
theorem dX8_go_52 : decode cX8_go 52 = .ok (.iload_n 2, 1) := by decide +kernel
theorem dX8_go_53 : decode cX8_go 53 = .ok (.if_icmp .ge 117, 3) := by decide +kernel
theorem dX8_go_56 : decode cX8_go 56 = .ok (.aload_n 0, 1) := by decide +kernel
theorem dX8_go_57 : decode cX8_go 57 = .ok (.getfield 60, 3) := by decide +kernel
theorem dX8_go_60 : decode cX8_go 60 = .ok (.iload_n 3, 1) := by decide +kernel
theorem dX8_go_61 : decode cX8_go 61 = .ok (.invokevirtual 67, 3) := by decide +kernel
theorem dX8_go_64 : decode cX8_go 64 = .ok (.ifCond .eq 106, 3) := by decide +kernel
theorem dX8_go_67 : decode cX8_go 67 = .ok (.aload_n 0, 1) := by decide +kernel
theorem dX8_go_68 : decode cX8_go 68 = .ok (.getfield 54, 3) := by decide +kernel
theorem dX8_go_71 : decode cX8_go 71 = .ok (.iconst (-1), 1) := by decide +kernel
theorem dX8_go_72 : decode cX8_go 72 = .ok (.if_icmp .ne 98, 3) := by decide +kernel
theorem dX8_go_75 : decode cX8_go 75 = .ok (.aload_n 0, 1) := by decide +kernel
theorem dX8_go_76 : decode cX8_go 76 = .ok (.dup, 1) := by decide +kernel
theorem dX8_go_77 : decode cX8_go 77 = .ok (.getfield 57, 3) := by decide +kernel
theorem dX8_go_80 : decode cX8_go 80 = .ok (.iconst 1, 1) := by decide +kernel
theorem dX8_go_81 : decode cX8_go 81 = .ok (.iadd, 1) := by decide +kernel
theorem dX8_go_82 : decode cX8_go 82 = .ok (.putfield 57, 3) := by decide +kernel
theorem dX8_go_85 : decode cX8_go 85 = .ok (.aload_n 0, 1) := by decide +kernel
theorem dX8_go_86 : decode cX8_go 86 = .ok (.aload_n 0, 1) := by decide +kernel
theorem dX8_go_87 : decode cX8_go 87 = .ok (.iload_n 3, 1) := by decide +kernel
theorem dX8_go_88 : decode cX8_go 88 = .ok (.invokevirtual 73, 3) := by decide +kernel
theorem dX8_go_91 : decode cX8_go 91 = .ok (.putfield 54, 3) := by decide +kernel
theorem dX8_go_94 : decode cX8_go 94 = .ok (.aload_n 0, 1) := by decide +kernel
theorem dX8_go_95 : decode cX8_go 95 = .ok (.getfield 54, 3) := by decide +kernel
theorem dX8_go_98 : decode cX8_go 98 = .ok (.iconst (-1), 1) := by decide +kernel
theorem dX8_go_99 : decode cX8_go 99 = .ok (.if_icmp .eq 11, 3) := by decide +kernel
theorem dX8_go_102 : decode cX8_go 102 = .ok (.aload_n 0, 1) := by decide +kernel
theorem dX8_go_103 : decode cX8_go 103 = .ok (.iload_n 3, 1) := by decide +kernel
theorem dX8_go_104 : decode cX8_go 104 = .ok (.putfield 51, 3) := by decide +kernel
theorem dX8_go_107 : decode cX8_go 107 = .ok (.goto (-59), 3) := by decide +kernel
theorem dX8_go_110 : decode cX8_go 110 = .ok (.aload_n 0, 1) := by decide +kernel
theorem dX8_go_111 : decode cX8_go 111 = .ok (.iload_n 3, 1) := by decide +kernel
theorem dX8_go_112 : decode cX8_go 112 = .ok (.invokevirtual 77, 3) := by decide +kernel
theorem dX8_go_115 : decode cX8_go 115 = .ok (.iload_n 1, 1) := by decide +kernel
theorem dX8_go_116 : decode cX8_go 116 = .ok (.iload 4, 2) := by decide +kernel
theorem dX8_go_118 : decode cX8_go 118 = .ok (.bipush 31, 2) := by decide +kernel
theorem dX8_go_120 : decode cX8_go 120 = .ok (.irem, 1) := by decide +kernel
theorem dX8_go_121 : decode cX8_go 121 = .ok (.ishr, 1) := by decide +kernel
theorem dX8_go_122 : decode cX8_go 122 = .ok (.iconst 1, 1) := by decide +kernel
theorem dX8_go_123 : decode cX8_go 123 = .ok (.iand, 1) := by decide +kernel
theorem dX8_go_124 : decode cX8_go 124 = .ok (.iconst 1, 1) := by decide +kernel
theorem dX8_go_125 : decode cX8_go 125 = .ok (.if_icmp .ne 7, 3) := by decide +kernel
theorem dX8_go_128 : decode cX8_go 128 = .ok (.iconst 1, 1) := by decide +kernel
theorem dX8_go_129 : decode cX8_go 129 = .ok (.goto 4, 3) := by decide +kernel
theorem dX8_go_132 : decode cX8_go 132 = .ok (.iconst 0, 1) := by decide +kernel
theorem dX8_go_133 : decode cX8_go 133 = .ok (.istore 5, 2) := by decide +kernel
theorem dX8_go_135 : decode cX8_go 135 = .ok (.iload 4, 2) := by decide +kernel
theorem dX8_go_137 : decode cX8_go 137 = .ok (.aload_n 0, 1) := by decide +kernel
theorem dX8_go_138 : decode cX8_go 138 = .ok (.getfield 60, 3) := by decide +kernel
theorem dX8_go_141 : decode cX8_go 141 = .ok (.getfield 81, 3) := by decide +kernel
theorem dX8_go_144 : decode cX8_go 144 = .ok (.iload_n 3, 1) := by decide +kernel
theorem dX8_go_145 : decode cX8_go 145 = .ok (.iaload, 1) := by decide +kernel
theorem dX8_go_146 : decode cX8_go 146 = .ok (.bipush 7, 2) := by decide +kernel
theorem dX8_go_148 : decode cX8_go 148 = .ok (.if_icmp .ne 7, 3) := by decide +kernel
theorem dX8_go_151 : decode cX8_go 151 = .ok (.iconst 1, 1) := by decide +kernel
theorem dX8_go_152 : decode cX8_go 152 = .ok (.goto 4, 3) := by decide +kernel
theorem dX8_go_155 : decode cX8_go 155 = .ok (.iconst 0, 1) := by decide +kernel
theorem dX8_go_156 : decode cX8_go 156 = .ok (.iadd, 1) := by decide +kernel
theorem dX8_go_157 : decode cX8_go 157 = .ok (.istore 4, 2) := by decide +kernel
theorem dX8_go_159 : decode cX8_go 159 = .ok (.aload_n 0, 1) := by decide +kernel
theorem dX8_go_160 : decode cX8_go 160 = .ok (.iload_n 3, 1) := by decide +kernel
theorem dX8_go_161 : decode cX8_go 161 = .ok (.iload 5, 2) := by decide +kernel
theorem dX8_go_163 : decode cX8_go 163 = .ok (.invokevirtual 82, 3) := by decide +kernel
theorem dX8_go_166 : decode cX8_go 166 = .ok (.istore_n 3, 1) := by decide +kernel
theorem dX8_go_167 : decode cX8_go 167 = .ok (.goto (-119), 3) := by decide +kernel
theorem dX8_go_170 : decode cX8_go 170 = .ok (.return_, 1) := by decide +kernel
def f_X8_go_L48 (p1 : Int32) (p2 : Int32) (v5 : Int32) (v6 : Int32) (s7 : sh_S) : Option ((Int32 × Int32 × sh_S) ⊕ (sh_S)) := (if p2 ≤ (s7 56 15) then some (.inr s7) else ob (f_X4_has v5 (rs em_LI s7)) (fun v9 => (if v9 = 0 then some (.inr s7) else (if (s7 56 14) = (-1 : Int32) then lb (ur s7 56 (upd (s7 56) 15 ((s7 56 15) + (1 : Int32)))) (fun s10 => ob (f_X8_fault v5 s10) (fun v11 => lb (ur s10 56 (upd (s10 56) 14 v11)) (fun s12 => (if (s12 56 14) = (-1 : Int32) then ob (f_X8_perform v5 s12) (fun s13 => ob (if ((p1 >>> ((v6 - v6 / (31 : Int32) * (31 : Int32)) &&& 31)) &&& (1 : Int32)) = (1 : Int32) then some (1 : Int32) else some (0 : Int32)) (fun v14 => gu (inb v5 24) (ob (if (s13 1 (ix v5)) = (7 : Int32) then some (1 : Int32) else some (0 : Int32)) (fun v16 => lb ((v6 + v16)) (fun v17 => ob (f_X8_following v5 v14 s13) (fun v18 => some (.inl (v18, v17, s13)))))))) else lb (ur s12 56 (upd (s12 56) 13 v5)) (fun s19 => some (.inl (v5, v6, s19))))))) else some (.inr s7)))))
def f_X8_go_B24_1 (p1 : Int32) (p2 : Int32) (s0 : sh_S) : Option (sh_S) := lb (ur s0 56 (upd (s0 56) 10 (1 : Int32))) (fun s1 => lb (ur s1 56 (upd (s1 56) 11 p1)) (fun s2 => lb (ur s2 56 (upd (s2 56) 12 p2)) (fun s3 => ob (f_X8_begin  s3) (fun s4 => ob (lp (fun q => f_X8_go_L48 p1 p2 q.1 q.2.1 q.2.2) FU ((0 : Int32), (0 : Int32), s4)) (fun s8 => some s8)))))
def f_X8_go (p1 : Int32) (p2 : Int32) (s0 : sh_S) : Option (sh_S) := (if (s0 56 10) = 0 then f_X8_go_B24_1 p1 p2 s0 else (if (s0 56 11) = p1 then (if (s0 56 12) = p2 then some s0 else f_X8_go_B24_1 p1 p2 s0) else f_X8_go_B24_1 p1 p2 s0))
set_option maxRecDepth 100000 in
set_option maxHeartbeats 4000000 in
theorem c_X8_go (p1 : Int32) (p2 : Int32) (s0 : sh_S) (s9x : sh_S) (hf : f_X8_go p1 p2 s0 = some s9x) : Ctr yX8_go cX8_go 6 none ({ frames := 3, cells := 0, slots := 0, locals := 74 } : Room) shX [.ref 56, .int p1, .int p2] s0 none s9x := by
  refine Ctr.mk (ri := .return_) (by decide) (Nat.le_of_ble_eq_true rfl) (Rt_v) ?_
  intro G h hL hR hret
  refine k_drop (lv' := [(0, .ref 56), (1, .int p1), (2, .int p2)]) [0, 1, 2] rfl ?_
  unfold f_X8_go at hf
  refine k_aload_n (pc := 0) h dX8_go_0 rfl 0 rfl ?_
  refine k_getI (pc := 1) h fl_RX8_41 rfl rfl dX8_go_1 ?_
  have kb24_1 : f_X8_go_B24_1 p1 p2 s0 = some s9x → sh_K G shX 24 [(0, .ref 56), (1, .int p1), (2, .int p2)] [] s0 := by
    clear hf
    intro  hf
    unfold f_X8_go_B24_1 at hf
    refine k_aload_n (pc := 24) h dX8_go_24 rfl 0 rfl ?_
    refine k_iconst (pc := 25) h dX8_go_25 kc_iconst_1 ?_
    obtain ⟨s1, es1, hf⟩ := lb_s hf
    refine k_put (pc := 26) h fl_RX8_41 fp_X8_10 rfl rfl rfl rfl dX8_go_26 ?_
    refine k_heap es1 ?_
    refine k_aload_n (pc := 29) h dX8_go_29 rfl 0 rfl ?_
    refine k_iload_n (pc := 30) h dX8_go_30 rfl 1 rfl ?_
    obtain ⟨s2, es2, hf⟩ := lb_s hf
    refine k_put (pc := 31) h fl_RX8_45 fp_X8_11 rfl rfl rfl rfl dX8_go_31 ?_
    refine k_heap es2 ?_
    refine k_aload_n (pc := 34) h dX8_go_34 rfl 0 rfl ?_
    refine k_iload_n (pc := 35) h dX8_go_35 rfl 2 rfl ?_
    obtain ⟨s3, es3, hf⟩ := lb_s hf
    refine k_put (pc := 36) h fl_RX8_48 fp_X8_12 rfl rfl rfl rfl dX8_go_36 ?_
    refine k_heap es3 ?_
    refine k_aload_n (pc := 39) h dX8_go_39 rfl 0 rfl ?_
    obtain ⟨s4, cs4, hf⟩ := ob_s hf
    refine k_callV0 (pc := 40) h cv_RX8_64 (c_X8_begin  s3 s4 cs4) rfl rfl rfl (st1 := []) rfl ⟨rfl, rfl⟩ (rk hR (Nat.le_of_ble_eq_true rfl) (Nat.le_of_ble_eq_true rfl)) (Nat.le_of_ble_eq_true rfl) dX8_go_40 ?_
    refine k_iconst (pc := 43) h dX8_go_43 kc_iconst_0 ?_
    refine k_istore_n (pc := 44) h dX8_go_44 rfl (nk hL (by decide)) (lv' := [(0, .ref 56), (1, .int p1), (2, .int p2), (3, .int (0 : Int32))]) rfl ?_
    refine k_iconst (pc := 45) h dX8_go_45 kc_iconst_0 ?_
    refine k_istore (pc := 46) h dX8_go_46 (nk hL (by decide)) (lv' := [(0, .ref 56), (1, .int p1), (2, .int p2), (3, .int (0 : Int32)), (4, .int (0 : Int32))]) rfl ?_
    obtain ⟨s8, hl, hf⟩ := ob_s hf
    refine k_drop (lv' := [(0, .ref 56), (1, .int p1), (2, .int p2), (3, .int (0 : Int32)), (4, .int (0 : Int32))]) [0, 1, 2, 3, 4] rfl ?_
    refine lp_s (P := (fun q : Int32 × Int32 × sh_S => sh_K G shX 48 [(0, .ref 56), (1, .int p1), (2, .int p2), (3, .int q.1), (4, .int q.2.1)] [] q.2.2)) (Q := (fun q : sh_S => sh_K G shX 170 [] [] q)) (s := ((0 : Int32), (0 : Int32), s4)) ?_ hl ?_
    · clear hf hl
      intro q rr hf kc48
      obtain ⟨v5, v6, s7⟩ := q
      have hf : f_X8_go_L48 p1 p2 v5 v6 s7 = some rr := hf
      unfold f_X8_go_L48 at hf
      refine k_aload_n (pc := 48) h dX8_go_48 rfl 0 rfl ?_
      refine k_getI (pc := 49) h fl_RX8_57 rfl rfl dX8_go_49 ?_
      refine k_iload_n (pc := 52) h dX8_go_52 rfl 2 rfl ?_
      refine k_icmp_ge (pc := 53) (tgt := 170) h dX8_go_53 rfl (fun hc => ?_) (fun hc => ?_)
      · have hf := it_p hc hf
        obtain rfl := so1 hf
        exact k_drop [] rfl kc48
      · have hf := it_n hc hf
        refine k_aload_n (pc := 56) h dX8_go_56 rfl 0 rfl ?_
        refine k_getR (pc := 57) h fl_RX8_60 rfl rfl dX8_go_57 ?_
        refine k_iload_n (pc := 60) h dX8_go_60 rfl 3 rfl ?_
        obtain ⟨v9, cv9, hf⟩ := ob_s hf
        refine k_callVe (pc := 61) (em := em_LI) h cv_RX8_67 (c_X4_has v5 (rs em_LI s7) v9 cv9) emb_LI_X rfl rfl rfl (st1 := [.int v9]) rfl ⟨rfl, rfl⟩ (rk hR (Nat.le_of_ble_eq_true rfl) (Nat.le_of_ble_eq_true rfl)) (Nat.le_of_ble_eq_true rfl) dX8_go_61 (mg_rs em_LI s7) ?_
        refine k_if_eq (pc := 64) (tgt := 170) h dX8_go_64 rfl (fun hc => ?_) (fun hc => ?_)
        · have hf := it_p hc hf
          obtain rfl := so1 hf
          exact k_drop [] rfl kc48
        · have hf := it_n hc hf
          refine k_aload_n (pc := 67) h dX8_go_67 rfl 0 rfl ?_
          refine k_getI (pc := 68) h fl_RX8_54 rfl rfl dX8_go_68 ?_
          refine k_iconst (pc := 71) h dX8_go_71 kc_iconst_m1 ?_
          refine k_icmp_ne (pc := 72) (tgt := 170) h dX8_go_72 rfl (fun hc => ?_) (fun hc => ?_)
          · have hf := it_n hc hf
            obtain rfl := so1 hf
            exact k_drop [] rfl kc48
          · have hf := it_p hc hf
            refine k_aload_n (pc := 75) h dX8_go_75 rfl 0 rfl ?_
            refine k_dup (pc := 76) h dX8_go_76 rfl ?_
            refine k_getI (pc := 77) h fl_RX8_57 rfl rfl dX8_go_77 ?_
            refine k_iconst (pc := 80) h dX8_go_80 kc_iconst_1 ?_
            refine k_iadd (pc := 81) h dX8_go_81 ?_
            obtain ⟨s10, es10, hf⟩ := lb_s hf
            refine k_put (pc := 82) h fl_RX8_57 fp_X8_15 rfl rfl rfl rfl dX8_go_82 ?_
            refine k_heap es10 ?_
            refine k_aload_n (pc := 85) h dX8_go_85 rfl 0 rfl ?_
            refine k_aload_n (pc := 86) h dX8_go_86 rfl 0 rfl ?_
            refine k_iload_n (pc := 87) h dX8_go_87 rfl 3 rfl ?_
            obtain ⟨v11, cv11, hf⟩ := ob_s hf
            refine k_callV0 (pc := 88) h cv_RX8_73 (c_X8_fault v5 s10 v11 cv11) rfl rfl rfl (st1 := [.int v11, .ref 56]) rfl ⟨rfl, rfl⟩ (rk hR (Nat.le_of_ble_eq_true rfl) (Nat.le_of_ble_eq_true rfl)) (Nat.le_of_ble_eq_true rfl) dX8_go_88 ?_
            obtain ⟨s12, es12, hf⟩ := lb_s hf
            refine k_put (pc := 91) h fl_RX8_54 fp_X8_14 rfl rfl rfl rfl dX8_go_91 ?_
            refine k_heap es12 ?_
            refine k_aload_n (pc := 94) h dX8_go_94 rfl 0 rfl ?_
            refine k_getI (pc := 95) h fl_RX8_54 rfl rfl dX8_go_95 ?_
            refine k_iconst (pc := 98) h dX8_go_98 kc_iconst_m1 ?_
            refine k_icmp_eq (pc := 99) (tgt := 110) h dX8_go_99 rfl (fun hc => ?_) (fun hc => ?_)
            · have hf := it_p hc hf
              refine k_aload_n (pc := 110) h dX8_go_110 rfl 0 rfl ?_
              refine k_iload_n (pc := 111) h dX8_go_111 rfl 3 rfl ?_
              obtain ⟨s13, cs13, hf⟩ := ob_s hf
              refine k_callV0 (pc := 112) h cv_RX8_77 (c_X8_perform v5 s12 s13 cs13) rfl rfl rfl (st1 := []) rfl ⟨rfl, rfl⟩ (rk hR (Nat.le_of_ble_eq_true rfl) (Nat.le_of_ble_eq_true rfl)) (Nat.le_of_ble_eq_true rfl) dX8_go_112 ?_
              refine k_iload_n (pc := 115) h dX8_go_115 rfl 1 rfl ?_
              refine k_iload (pc := 116) h dX8_go_116 4 rfl ?_
              refine k_bipush (pc := 118) h dX8_go_118 kc_bipush_31 ?_
              refine k_irem (pc := 120) h dX8_go_120 (by decide) ?_
              refine k_ishr (pc := 121) h dX8_go_121 ?_
              refine k_iconst (pc := 122) h dX8_go_122 kc_iconst_1 ?_
              refine k_iand (pc := 123) h dX8_go_123 ?_
              refine k_iconst (pc := 124) h dX8_go_124 kc_iconst_1 ?_
              obtain ⟨v14, hj, hf⟩ := ob_s hf
              have kj125 : sh_K G shX 133 [(0, .ref 56), (1, .int p1), (2, .int p2), (3, .int v5), (4, .int v6)] [.int v14] s13 := by
                refine k_istore (pc := 133) h dX8_go_133 (nk hL (by decide)) (lv' := [(0, .ref 56), (1, .int p1), (2, .int p2), (3, .int v5), (4, .int v6), (5, .int v14)]) rfl ?_
                refine k_iload (pc := 135) h dX8_go_135 4 rfl ?_
                refine k_aload_n (pc := 137) h dX8_go_137 rfl 0 rfl ?_
                refine k_getR (pc := 138) h fl_RX8_60 rfl rfl dX8_go_138 ?_
                refine k_getR (pc := 141) h fl_RX8_81 rfl rfl dX8_go_141 ?_
                refine k_iload_n (pc := 144) h dX8_go_144 rfl 3 rfl ?_
                obtain ⟨g15, hf⟩ := gu_s hf
                refine k_iald (pc := 145) (n := 24) h rfl g15 dX8_go_145 ?_
                refine k_bipush (pc := 146) h dX8_go_146 kc_bipush_7 ?_
                obtain ⟨v16, hj, hf⟩ := ob_s hf
                have kj148 : sh_K G shX 156 [(0, .ref 56), (1, .int p1), (2, .int p2), (3, .int v5), (5, .int v14)] [.int v16, .int v6] s13 := by
                  refine k_iadd (pc := 156) h dX8_go_156 ?_
                  obtain ⟨v17, ev17, hf⟩ := lb_s hf
                  refine k_top ev17 ?_
                  refine k_istore (pc := 157) h dX8_go_157 (nk hL (by decide)) (lv' := [(0, .ref 56), (1, .int p1), (2, .int p2), (3, .int v5), (4, .int v17), (5, .int v14)]) rfl ?_
                  refine k_aload_n (pc := 159) h dX8_go_159 rfl 0 rfl ?_
                  refine k_iload_n (pc := 160) h dX8_go_160 rfl 3 rfl ?_
                  refine k_iload (pc := 161) h dX8_go_161 5 rfl ?_
                  obtain ⟨v18, cv18, hf⟩ := ob_s hf
                  refine k_callV0 (pc := 163) h cv_RX8_82 (c_X8_following v5 v14 s13 v18 cv18) rfl rfl rfl (st1 := [.int v18]) rfl ⟨rfl, rfl⟩ (rk hR (Nat.le_of_ble_eq_true rfl) (Nat.le_of_ble_eq_true rfl)) (Nat.le_of_ble_eq_true rfl) dX8_go_163 ?_
                  refine k_istore_n (pc := 166) h dX8_go_166 rfl (nk hL (by decide)) (lv' := [(0, .ref 56), (1, .int p1), (2, .int p2), (3, .int v18), (4, .int v17), (5, .int v14)]) rfl ?_
                  refine k_goto (pc := 167) (tgt := 48) h dX8_go_167 rfl ?_
                  obtain rfl := so1 hf
                  exact k_drop [0, 1, 2, 3, 4] rfl kc48
                clear hf
                have hf := hj
                clear hj
                refine k_icmp_ne (pc := 148) (tgt := 155) h dX8_go_148 rfl (fun hc => ?_) (fun hc => ?_)
                · have hf := it_n hc hf
                  refine k_iconst (pc := 155) h dX8_go_155 kc_iconst_0 ?_
                  obtain rfl := so1 hf
                  exact k_drop [0, 1, 2, 3, 5] rfl kj148
                · have hf := it_p hc hf
                  refine k_iconst (pc := 151) h dX8_go_151 kc_iconst_1 ?_
                  refine k_goto (pc := 152) (tgt := 156) h dX8_go_152 rfl ?_
                  obtain rfl := so1 hf
                  exact k_drop [0, 1, 2, 3, 5] rfl kj148
              clear hf
              have hf := hj
              clear hj
              refine k_icmp_ne (pc := 125) (tgt := 132) h dX8_go_125 rfl (fun hc => ?_) (fun hc => ?_)
              · have hf := it_n hc hf
                refine k_iconst (pc := 132) h dX8_go_132 kc_iconst_0 ?_
                obtain rfl := so1 hf
                exact k_drop [0, 1, 2, 3, 4] rfl kj125
              · have hf := it_p hc hf
                refine k_iconst (pc := 128) h dX8_go_128 kc_iconst_1 ?_
                refine k_goto (pc := 129) (tgt := 133) h dX8_go_129 rfl ?_
                obtain rfl := so1 hf
                exact k_drop [0, 1, 2, 3, 4] rfl kj125
            · have hf := it_n hc hf
              refine k_aload_n (pc := 102) h dX8_go_102 rfl 0 rfl ?_
              refine k_iload_n (pc := 103) h dX8_go_103 rfl 3 rfl ?_
              obtain ⟨s19, es19, hf⟩ := lb_s hf
              refine k_put (pc := 104) h fl_RX8_51 fp_X8_13 rfl rfl rfl rfl dX8_go_104 ?_
              refine k_heap es19 ?_
              refine k_goto (pc := 107) (tgt := 48) h dX8_go_107 rfl ?_
              obtain rfl := so1 hf
              exact k_drop [0, 1, 2, 3, 4] rfl kc48
    · obtain rfl := so1 hf
      exact hret 170 _ dX8_go_170 trivial
  refine k_if_eq (pc := 4) (tgt := 24) h dX8_go_4 rfl (fun hc => ?_) (fun hc => ?_)
  · have hf := it_p hc hf
    exact k_drop [0, 1, 2] rfl (kb24_1  hf)
  · have hf := it_n hc hf
    refine k_aload_n (pc := 7) h dX8_go_7 rfl 0 rfl ?_
    refine k_getI (pc := 8) h fl_RX8_45 rfl rfl dX8_go_8 ?_
    refine k_iload_n (pc := 11) h dX8_go_11 rfl 1 rfl ?_
    refine k_icmp_ne (pc := 12) (tgt := 24) h dX8_go_12 rfl (fun hc => ?_) (fun hc => ?_)
    · have hf := it_n hc hf
      exact k_drop [0, 1, 2] rfl (kb24_1  hf)
    · have hf := it_p hc hf
      refine k_aload_n (pc := 15) h dX8_go_15 rfl 0 rfl ?_
      refine k_getI (pc := 16) h fl_RX8_48 rfl rfl dX8_go_16 ?_
      refine k_iload_n (pc := 19) h dX8_go_19 rfl 2 rfl ?_
      refine k_icmp_ne (pc := 20) (tgt := 24) h dX8_go_20 rfl (fun hc => ?_) (fun hc => ?_)
      · have hf := it_n hc hf
        exact k_drop [0, 1, 2] rfl (kb24_1  hf)
      · have hf := it_p hc hf
        obtain rfl := so1 hf
        exact hret 23 _ dX8_go_23 trivial
theorem dX9_forget_0 : decode cX9_forget 0 = .ok (.aload_n 0, 1) := by decide +kernel
theorem dX9_forget_1 : decode cX9_forget 1 = .ok (.getfield 21, 3) := by decide +kernel
theorem dX9_forget_4 : decode cX9_forget 4 = .ok (.invokevirtual 116, 3) := by decide +kernel
theorem dX9_forget_7 : decode cX9_forget 7 = .ok (.aload_n 0, 1) := by decide +kernel
theorem dX9_forget_8 : decode cX9_forget 8 = .ok (.getfield 30, 3) := by decide +kernel
theorem dX9_forget_11 : decode cX9_forget 11 = .ok (.invokevirtual 117, 3) := by decide +kernel
theorem dX9_forget_14 : decode cX9_forget 14 = .ok (.aload_n 0, 1) := by decide +kernel
theorem dX9_forget_15 : decode cX9_forget 15 = .ok (.getfield 37, 3) := by decide +kernel
theorem dX9_forget_18 : decode cX9_forget 18 = .ok (.invokevirtual 118, 3) := by decide +kernel
theorem dX9_forget_21 : decode cX9_forget 21 = .ok (.aload_n 0, 1) := by decide +kernel
theorem dX9_forget_22 : decode cX9_forget 22 = .ok (.getfield 44, 3) := by decide +kernel
theorem dX9_forget_25 : decode cX9_forget 25 = .ok (.invokevirtual 119, 3) := by decide +kernel
theorem dX9_forget_28 : decode cX9_forget 28 = .ok (.return_, 1) := by decide +kernel
def f_X9_forget  (s0 : sh_S) : Option (sh_S) := ob (f_X0_forget  (rs em_CK s0)) (fun s1 => lb (mg em_CK 0 s0 s1) (fun s2 => ob (f_X5_forget  s2) (fun s3 => ob (f_X7_forget  s3) (fun s4 => ob (f_X8_forget  s4) (fun s5 => some s5)))))
set_option maxRecDepth 100000 in
set_option maxHeartbeats 4000000 in
theorem c_X9_forget  (s0 : sh_S) (s9x : sh_S) (hf : f_X9_forget  s0 = some s9x) : Ctr yX9_forget cX9_forget 1 none ({ frames := 1, cells := 0, slots := 0, locals := 20 } : Room) shX [.ref 73] s0 none s9x := by
  refine Ctr.mk (ri := .return_) (by decide) (Nat.le_of_ble_eq_true rfl) (Rt_v) ?_
  intro G h hL hR hret
  refine k_drop (lv' := [(0, .ref 73)]) [0] rfl ?_
  unfold f_X9_forget at hf
  refine k_aload_n (pc := 0) h dX9_forget_0 rfl 0 rfl ?_
  refine k_getR (pc := 1) h fl_RX9_21 rfl rfl dX9_forget_1 ?_
  obtain ⟨s1, cs1, hf⟩ := ob_s hf
  obtain ⟨s2, es2, hf⟩ := lb_s hf
  refine k_callVe (pc := 4) (em := em_CK) h cv_RX9_116 (c_X0_forget  (rs em_CK s0) s1 cs1) emb_CK_X rfl rfl rfl (st1 := []) rfl ⟨rfl, rfl⟩ (rk hR (Nat.le_of_ble_eq_true rfl) (Nat.le_of_ble_eq_true rfl)) (Nat.le_of_ble_eq_true rfl) dX9_forget_4 es2 ?_
  refine k_aload_n (pc := 7) h dX9_forget_7 rfl 0 rfl ?_
  refine k_getR (pc := 8) h fl_RX9_30 rfl rfl dX9_forget_8 ?_
  obtain ⟨s3, cs3, hf⟩ := ob_s hf
  refine k_callV0 (pc := 11) h cv_RX9_117 (c_X5_forget  s2 s3 cs3) rfl rfl rfl (st1 := []) rfl ⟨rfl, rfl⟩ (rk hR (Nat.le_of_ble_eq_true rfl) (Nat.le_of_ble_eq_true rfl)) (Nat.le_of_ble_eq_true rfl) dX9_forget_11 ?_
  refine k_aload_n (pc := 14) h dX9_forget_14 rfl 0 rfl ?_
  refine k_getR (pc := 15) h fl_RX9_37 rfl rfl dX9_forget_15 ?_
  obtain ⟨s4, cs4, hf⟩ := ob_s hf
  refine k_callV0 (pc := 18) h cv_RX9_118 (c_X7_forget  s3 s4 cs4) rfl rfl rfl (st1 := []) rfl ⟨rfl, rfl⟩ (rk hR (Nat.le_of_ble_eq_true rfl) (Nat.le_of_ble_eq_true rfl)) (Nat.le_of_ble_eq_true rfl) dX9_forget_18 ?_
  refine k_aload_n (pc := 21) h dX9_forget_21 rfl 0 rfl ?_
  refine k_getR (pc := 22) h fl_RX9_44 rfl rfl dX9_forget_22 ?_
  obtain ⟨s5, cs5, hf⟩ := ob_s hf
  refine k_callV0 (pc := 25) h cv_RX9_119 (c_X8_forget  s4 s5 cs5) rfl rfl rfl (st1 := []) rfl ⟨rfl, rfl⟩ (rk hR (Nat.le_of_ble_eq_true rfl) (Nat.le_of_ble_eq_true rfl)) (Nat.le_of_ble_eq_true rfl) dX9_forget_25 ?_
  obtain rfl := so1 hf
  exact hret 28 _ dX9_forget_28 trivial
theorem dX9_append_0 : decode cX9_append 0 = .ok (.aload_n 0, 1) := by decide +kernel
theorem dX9_append_1 : decode cX9_append 1 = .ok (.getfield 12, 3) := by decide +kernel
theorem dX9_append_4 : decode cX9_append 4 = .ok (.aload_n 0, 1) := by decide +kernel
theorem dX9_append_5 : decode cX9_append 5 = .ok (.getfield 12, 3) := by decide +kernel
theorem dX9_append_8 : decode cX9_append 8 = .ok (.getfield 63, 3) := by decide +kernel
theorem dX9_append_11 : decode cX9_append 11 = .ok (.iload_n 1, 1) := by decide +kernel
theorem dX9_append_12 : decode cX9_append 12 = .ok (.iload_n 2, 1) := by decide +kernel
theorem dX9_append_13 : decode cX9_append 13 = .ok (.iload_n 3, 1) := by decide +kernel
theorem dX9_append_14 : decode cX9_append 14 = .ok (.iload 4, 2) := by decide +kernel
theorem dX9_append_16 : decode cX9_append 16 = .ok (.invokevirtual 74, 3) := by decide +kernel
theorem dX9_append_19 : decode cX9_append 19 = .ok (.aload_n 0, 1) := by decide +kernel
theorem dX9_append_20 : decode cX9_append 20 = .ok (.getfield 12, 3) := by decide +kernel
theorem dX9_append_23 : decode cX9_append 23 = .ok (.dup, 1) := by decide +kernel
theorem dX9_append_24 : decode cX9_append 24 = .ok (.getfield 63, 3) := by decide +kernel
theorem dX9_append_27 : decode cX9_append 27 = .ok (.iconst 1, 1) := by decide +kernel
theorem dX9_append_28 : decode cX9_append 28 = .ok (.iadd, 1) := by decide +kernel
theorem dX9_append_29 : decode cX9_append 29 = .ok (.putfield 63, 3) := by decide +kernel
theorem dX9_append_32 : decode cX9_append 32 = .ok (.aload_n 0, 1) := by decide +kernel
theorem dX9_append_33 : decode cX9_append 33 = .ok (.invokevirtual 78, 3) := by decide +kernel
theorem dX9_append_36 : decode cX9_append 36 = .ok (.return_, 1) := by decide +kernel
def f_X9_append (p1 : Int32) (p2 : Int32) (p3 : Int32) (p4 : Int32) (s0 : sh_S) : Option (sh_S) := ob (f_X4_fill (s0 0 9) p1 p2 p3 p4 (rs em_LI s0)) (fun s1 => lb (mg em_LI 0 s0 s1) (fun s2 => lb (ur s2 0 (upd (s2 0) 9 ((s2 0 9) + (1 : Int32)))) (fun s3 => ob (f_X9_forget  s3) (fun s4 => some s4))))
set_option maxRecDepth 100000 in
set_option maxHeartbeats 4000000 in
theorem c_X9_append (p1 : Int32) (p2 : Int32) (p3 : Int32) (p4 : Int32) (s0 : sh_S) (s9x : sh_S) (hf : f_X9_append p1 p2 p3 p4 s0 = some s9x) : Ctr yX9_append cX9_append 5 none ({ frames := 2, cells := 0, slots := 0, locals := 48 } : Room) shX [.ref 73, .int p1, .int p2, .int p3, .int p4] s0 none s9x := by
  refine Ctr.mk (ri := .return_) (by decide) (Nat.le_of_ble_eq_true rfl) (Rt_v) ?_
  intro G h hL hR hret
  refine k_drop (lv' := [(0, .ref 73), (1, .int p1), (2, .int p2), (3, .int p3), (4, .int p4)]) [0, 1, 2, 3, 4] rfl ?_
  unfold f_X9_append at hf
  refine k_aload_n (pc := 0) h dX9_append_0 rfl 0 rfl ?_
  refine k_getR (pc := 1) h fl_RX9_12 rfl rfl dX9_append_1 ?_
  refine k_aload_n (pc := 4) h dX9_append_4 rfl 0 rfl ?_
  refine k_getR (pc := 5) h fl_RX9_12 rfl rfl dX9_append_5 ?_
  refine k_getI (pc := 8) h fl_RX9_63 rfl rfl dX9_append_8 ?_
  refine k_iload_n (pc := 11) h dX9_append_11 rfl 1 rfl ?_
  refine k_iload_n (pc := 12) h dX9_append_12 rfl 2 rfl ?_
  refine k_iload_n (pc := 13) h dX9_append_13 rfl 3 rfl ?_
  refine k_iload (pc := 14) h dX9_append_14 4 rfl ?_
  obtain ⟨s1, cs1, hf⟩ := ob_s hf
  obtain ⟨s2, es2, hf⟩ := lb_s hf
  refine k_callVe (pc := 16) (em := em_LI) h cv_RX9_74 (c_X4_fill (s0 0 9) p1 p2 p3 p4 (rs em_LI s0) s1 cs1) emb_LI_X rfl rfl rfl (st1 := []) rfl ⟨rfl, rfl⟩ (rk hR (Nat.le_of_ble_eq_true rfl) (Nat.le_of_ble_eq_true rfl)) (Nat.le_of_ble_eq_true rfl) dX9_append_16 es2 ?_
  refine k_aload_n (pc := 19) h dX9_append_19 rfl 0 rfl ?_
  refine k_getR (pc := 20) h fl_RX9_12 rfl rfl dX9_append_20 ?_
  refine k_dup (pc := 23) h dX9_append_23 rfl ?_
  refine k_getI (pc := 24) h fl_RX9_63 rfl rfl dX9_append_24 ?_
  refine k_iconst (pc := 27) h dX9_append_27 kc_iconst_1 ?_
  refine k_iadd (pc := 28) h dX9_append_28 ?_
  obtain ⟨s3, es3, hf⟩ := lb_s hf
  refine k_put (pc := 29) h fl_RX9_63 fp_X4_9 rfl rfl rfl rfl dX9_append_29 ?_
  refine k_heap es3 ?_
  refine k_aload_n (pc := 32) h dX9_append_32 rfl 0 rfl ?_
  obtain ⟨s4, cs4, hf⟩ := ob_s hf
  refine k_callV0 (pc := 33) h cv_RX9_78 (c_X9_forget  s3 s4 cs4) rfl rfl rfl (st1 := []) rfl ⟨rfl, rfl⟩ (rk hR (Nat.le_of_ble_eq_true rfl) (Nat.le_of_ble_eq_true rfl)) (Nat.le_of_ble_eq_true rfl) dX9_append_33 ?_
  obtain rfl := so1 hf
  exact hret 36 _ dX9_append_36 trivial
theorem dX9_add_0 : decode cX9_add 0 = .ok (.iload_n 1, 1) := by decide +kernel
theorem dX9_add_1 : decode cX9_add 1 = .ok (.iload_n 2, 1) := by decide +kernel
theorem dX9_add_2 : decode cX9_add 2 = .ok (.iload_n 3, 1) := by decide +kernel
theorem dX9_add_3 : decode cX9_add 3 = .ok (.iload 4, 2) := by decide +kernel
theorem dX9_add_5 : decode cX9_add 5 = .ok (.invokestatic 59, 3) := by decide +kernel
theorem dX9_add_8 : decode cX9_add 8 = .ok (.ifCond .ne 6, 3) := by decide +kernel
theorem dX9_add_11 : decode cX9_add 11 = .ok (.bipush (-2), 2) := by decide +kernel
theorem dX9_add_13 : decode cX9_add 13 = .ok (.ireturn, 1) := by decide +kernel
theorem dX9_add_14 : decode cX9_add 14 = .ok (.aload_n 0, 1) := by decide +kernel
theorem dX9_add_15 : decode cX9_add 15 = .ok (.getfield 12, 3) := by decide +kernel
theorem dX9_add_18 : decode cX9_add 18 = .ok (.getfield 63, 3) := by decide +kernel
theorem dX9_add_21 : decode cX9_add 21 = .ok (.bipush 24, 2) := by decide +kernel
theorem dX9_add_23 : decode cX9_add 23 = .ok (.if_icmp .lt 6, 3) := by decide +kernel
theorem dX9_add_26 : decode cX9_add 26 = .ok (.bipush (-4), 2) := by decide +kernel
theorem dX9_add_28 : decode cX9_add 28 = .ok (.ireturn, 1) := by decide +kernel
theorem dX9_add_29 : decode cX9_add 29 = .ok (.aload_n 0, 1) := by decide +kernel
theorem dX9_add_30 : decode cX9_add 30 = .ok (.iload_n 1, 1) := by decide +kernel
theorem dX9_add_31 : decode cX9_add 31 = .ok (.iload_n 2, 1) := by decide +kernel
theorem dX9_add_32 : decode cX9_add 32 = .ok (.iload_n 3, 1) := by decide +kernel
theorem dX9_add_33 : decode cX9_add 33 = .ok (.iload 4, 2) := by decide +kernel
theorem dX9_add_35 : decode cX9_add 35 = .ok (.invokevirtual 66, 3) := by decide +kernel
theorem dX9_add_38 : decode cX9_add 38 = .ok (.aload_n 0, 1) := by decide +kernel
theorem dX9_add_39 : decode cX9_add 39 = .ok (.getfield 12, 3) := by decide +kernel
theorem dX9_add_42 : decode cX9_add 42 = .ok (.getfield 63, 3) := by decide +kernel
theorem dX9_add_45 : decode cX9_add 45 = .ok (.ireturn, 1) := by decide +kernel
def f_X9_add (p1 : Int32) (p2 : Int32) (p3 : Int32) (p4 : Int32) (s0 : sh_S) : Option (Int32 × sh_S) := ob (f_X9_mayBe p1 p2 p3 p4) (fun v1 => (if v1 = 0 then some ((-2 : Int32), s0) else (if (s0 0 9) < (24 : Int32) then ob (f_X9_append p1 p2 p3 p4 s0) (fun s2 => some ((s2 0 9), s2)) else some ((-4 : Int32), s0))))
set_option maxRecDepth 100000 in
set_option maxHeartbeats 4000000 in
theorem c_X9_add (p1 : Int32) (p2 : Int32) (p3 : Int32) (p4 : Int32) (s0 : sh_S) (r : Int32) (s9x : sh_S) (hf : f_X9_add p1 p2 p3 p4 s0 = some (r, s9x)) : Ctr yX9_add cX9_add 5 (some .int) ({ frames := 3, cells := 0, slots := 0, locals := 72 } : Room) shX [.ref 73, .int p1, .int p2, .int p3, .int p4] s0 (some (.int r)) s9x := by
  refine Ctr.mk (ri := .ireturn) (by decide) (Nat.le_of_ble_eq_true rfl) (Rt_i r) ?_
  intro G h hL hR hret
  refine k_drop (lv' := [(0, .ref 73), (1, .int p1), (2, .int p2), (3, .int p3), (4, .int p4)]) [0, 1, 2, 3, 4] rfl ?_
  unfold f_X9_add at hf
  refine k_iload_n (pc := 0) h dX9_add_0 rfl 1 rfl ?_
  refine k_iload_n (pc := 1) h dX9_add_1 rfl 2 rfl ?_
  refine k_iload_n (pc := 2) h dX9_add_2 rfl 3 rfl ?_
  refine k_iload (pc := 3) h dX9_add_3 4 rfl ?_
  obtain ⟨v1, cv1, hf⟩ := ob_s hf
  refine k_callSp (pc := 5) h cs_RX9_59 (c_X9_mayBe p1 p2 p3 p4 _ v1 cv1) rfl rfl (st1 := [.int v1]) rfl ⟨rfl, rfl⟩ (rk hR (Nat.le_of_ble_eq_true rfl) (Nat.le_of_ble_eq_true rfl)) (Nat.le_of_ble_eq_true rfl) dX9_add_5 ?_
  refine k_if_ne (pc := 8) (tgt := 14) h dX9_add_8 rfl (fun hc => ?_) (fun hc => ?_)
  · have hf := it_n hc hf
    refine k_aload_n (pc := 14) h dX9_add_14 rfl 0 rfl ?_
    refine k_getR (pc := 15) h fl_RX9_12 rfl rfl dX9_add_15 ?_
    refine k_getI (pc := 18) h fl_RX9_63 rfl rfl dX9_add_18 ?_
    refine k_bipush (pc := 21) h dX9_add_21 kc_bipush_24 ?_
    refine k_icmp_lt (pc := 23) (tgt := 29) h dX9_add_23 rfl (fun hc => ?_) (fun hc => ?_)
    · have hf := it_p hc hf
      refine k_aload_n (pc := 29) h dX9_add_29 rfl 0 rfl ?_
      refine k_iload_n (pc := 30) h dX9_add_30 rfl 1 rfl ?_
      refine k_iload_n (pc := 31) h dX9_add_31 rfl 2 rfl ?_
      refine k_iload_n (pc := 32) h dX9_add_32 rfl 3 rfl ?_
      refine k_iload (pc := 33) h dX9_add_33 4 rfl ?_
      obtain ⟨s2, cs2, hf⟩ := ob_s hf
      refine k_callV0 (pc := 35) h cv_RX9_66 (c_X9_append p1 p2 p3 p4 s0 s2 cs2) rfl rfl rfl (st1 := []) rfl ⟨rfl, rfl⟩ (rk hR (Nat.le_of_ble_eq_true rfl) (Nat.le_of_ble_eq_true rfl)) (Nat.le_of_ble_eq_true rfl) dX9_add_35 ?_
      refine k_aload_n (pc := 38) h dX9_add_38 rfl 0 rfl ?_
      refine k_getR (pc := 39) h fl_RX9_12 rfl rfl dX9_add_39 ?_
      refine k_getI (pc := 42) h fl_RX9_63 rfl rfl dX9_add_42 ?_
      obtain ⟨rfl, rfl⟩ := so2 hf
      exact hret 45 _ dX9_add_45 trivial
    · have hf := it_n hc hf
      refine k_bipush (pc := 26) h dX9_add_26 kc_bipush_m4 ?_
      obtain ⟨rfl, rfl⟩ := so2 hf
      exact hret 28 _ dX9_add_28 trivial
  · have hf := it_p hc hf
    refine k_bipush (pc := 11) h dX9_add_11 kc_bipush_m2 ?_
    obtain ⟨rfl, rfl⟩ := so2 hf
    exact hret 13 _ dX9_add_13 trivial
theorem dX9_alter_0 : decode cX9_alter 0 = .ok (.aload_n 0, 1) := by decide +kernel
theorem dX9_alter_1 : decode cX9_alter 1 = .ok (.getfield 12, 3) := by decide +kernel
theorem dX9_alter_4 : decode cX9_alter 4 = .ok (.iload_n 1, 1) := by decide +kernel
theorem dX9_alter_5 : decode cX9_alter 5 = .ok (.invokevirtual 70, 3) := by decide +kernel
theorem dX9_alter_8 : decode cX9_alter 8 = .ok (.ifCond .eq 15, 3) := by decide +kernel
theorem dX9_alter_11 : decode cX9_alter 11 = .ok (.iload_n 2, 1) := by decide +kernel
theorem dX9_alter_12 : decode cX9_alter 12 = .ok (.iload_n 3, 1) := by decide +kernel
theorem dX9_alter_13 : decode cX9_alter 13 = .ok (.iload 4, 2) := by decide +kernel
theorem dX9_alter_15 : decode cX9_alter 15 = .ok (.iload 5, 2) := by decide +kernel
theorem dX9_alter_17 : decode cX9_alter 17 = .ok (.invokestatic 59, 3) := by decide +kernel
theorem dX9_alter_20 : decode cX9_alter 20 = .ok (.ifCond .ne 6, 3) := by decide +kernel
theorem dX9_alter_23 : decode cX9_alter 23 = .ok (.bipush (-2), 2) := by decide +kernel
theorem dX9_alter_25 : decode cX9_alter 25 = .ok (.ireturn, 1) := by decide +kernel
theorem dX9_alter_26 : decode cX9_alter 26 = .ok (.aload_n 0, 1) := by decide +kernel
theorem dX9_alter_27 : decode cX9_alter 27 = .ok (.getfield 12, 3) := by decide +kernel
theorem dX9_alter_30 : decode cX9_alter 30 = .ok (.iload_n 1, 1) := by decide +kernel
theorem dX9_alter_31 : decode cX9_alter 31 = .ok (.iload_n 2, 1) := by decide +kernel
theorem dX9_alter_32 : decode cX9_alter 32 = .ok (.iload_n 3, 1) := by decide +kernel
theorem dX9_alter_33 : decode cX9_alter 33 = .ok (.iload 4, 2) := by decide +kernel
theorem dX9_alter_35 : decode cX9_alter 35 = .ok (.iload 5, 2) := by decide +kernel
theorem dX9_alter_37 : decode cX9_alter 37 = .ok (.invokevirtual 74, 3) := by decide +kernel
theorem dX9_alter_40 : decode cX9_alter 40 = .ok (.aload_n 0, 1) := by decide +kernel
theorem dX9_alter_41 : decode cX9_alter 41 = .ok (.invokevirtual 78, 3) := by decide +kernel
theorem dX9_alter_44 : decode cX9_alter 44 = .ok (.iconst 1, 1) := by decide +kernel
theorem dX9_alter_45 : decode cX9_alter 45 = .ok (.ireturn, 1) := by decide +kernel
def f_X9_alter (p1 : Int32) (p2 : Int32) (p3 : Int32) (p4 : Int32) (p5 : Int32) (s0 : sh_S) : Option (Int32 × sh_S) := ob (f_X4_has p1 (rs em_LI s0)) (fun v1 => (if v1 = 0 then some ((-2 : Int32), s0) else ob (f_X9_mayBe p2 p3 p4 p5) (fun v2 => (if v2 = 0 then some ((-2 : Int32), s0) else ob (f_X4_fill p1 p2 p3 p4 p5 (rs em_LI s0)) (fun s3 => lb (mg em_LI 0 s0 s3) (fun s4 => ob (f_X9_forget  s4) (fun s5 => some ((1 : Int32), s5))))))))
set_option maxRecDepth 100000 in
set_option maxHeartbeats 4000000 in
theorem c_X9_alter (p1 : Int32) (p2 : Int32) (p3 : Int32) (p4 : Int32) (p5 : Int32) (s0 : sh_S) (r : Int32) (s9x : sh_S) (hf : f_X9_alter p1 p2 p3 p4 p5 s0 = some (r, s9x)) : Ctr yX9_alter cX9_alter 6 (some .int) ({ frames := 3, cells := 0, slots := 0, locals := 65 } : Room) shX [.ref 73, .int p1, .int p2, .int p3, .int p4, .int p5] s0 (some (.int r)) s9x := by
  refine Ctr.mk (ri := .ireturn) (by decide) (Nat.le_of_ble_eq_true rfl) (Rt_i r) ?_
  intro G h hL hR hret
  refine k_drop (lv' := [(0, .ref 73), (1, .int p1), (2, .int p2), (3, .int p3), (4, .int p4), (5, .int p5)]) [0, 1, 2, 3, 4, 5] rfl ?_
  unfold f_X9_alter at hf
  refine k_aload_n (pc := 0) h dX9_alter_0 rfl 0 rfl ?_
  refine k_getR (pc := 1) h fl_RX9_12 rfl rfl dX9_alter_1 ?_
  refine k_iload_n (pc := 4) h dX9_alter_4 rfl 1 rfl ?_
  obtain ⟨v1, cv1, hf⟩ := ob_s hf
  refine k_callVe (pc := 5) (em := em_LI) h cv_RX9_70 (c_X4_has p1 (rs em_LI s0) v1 cv1) emb_LI_X rfl rfl rfl (st1 := [.int v1]) rfl ⟨rfl, rfl⟩ (rk hR (Nat.le_of_ble_eq_true rfl) (Nat.le_of_ble_eq_true rfl)) (Nat.le_of_ble_eq_true rfl) dX9_alter_5 (mg_rs em_LI s0) ?_
  refine k_if_eq (pc := 8) (tgt := 23) h dX9_alter_8 rfl (fun hc => ?_) (fun hc => ?_)
  · have hf := it_p hc hf
    refine k_bipush (pc := 23) h dX9_alter_23 kc_bipush_m2 ?_
    obtain ⟨rfl, rfl⟩ := so2 hf
    exact hret 25 _ dX9_alter_25 trivial
  · have hf := it_n hc hf
    refine k_iload_n (pc := 11) h dX9_alter_11 rfl 2 rfl ?_
    refine k_iload_n (pc := 12) h dX9_alter_12 rfl 3 rfl ?_
    refine k_iload (pc := 13) h dX9_alter_13 4 rfl ?_
    refine k_iload (pc := 15) h dX9_alter_15 5 rfl ?_
    obtain ⟨v2, cv2, hf⟩ := ob_s hf
    refine k_callSp (pc := 17) h cs_RX9_59 (c_X9_mayBe p2 p3 p4 p5 _ v2 cv2) rfl rfl (st1 := [.int v2]) rfl ⟨rfl, rfl⟩ (rk hR (Nat.le_of_ble_eq_true rfl) (Nat.le_of_ble_eq_true rfl)) (Nat.le_of_ble_eq_true rfl) dX9_alter_17 ?_
    refine k_if_ne (pc := 20) (tgt := 26) h dX9_alter_20 rfl (fun hc => ?_) (fun hc => ?_)
    · have hf := it_n hc hf
      refine k_aload_n (pc := 26) h dX9_alter_26 rfl 0 rfl ?_
      refine k_getR (pc := 27) h fl_RX9_12 rfl rfl dX9_alter_27 ?_
      refine k_iload_n (pc := 30) h dX9_alter_30 rfl 1 rfl ?_
      refine k_iload_n (pc := 31) h dX9_alter_31 rfl 2 rfl ?_
      refine k_iload_n (pc := 32) h dX9_alter_32 rfl 3 rfl ?_
      refine k_iload (pc := 33) h dX9_alter_33 4 rfl ?_
      refine k_iload (pc := 35) h dX9_alter_35 5 rfl ?_
      obtain ⟨s3, cs3, hf⟩ := ob_s hf
      obtain ⟨s4, es4, hf⟩ := lb_s hf
      refine k_callVe (pc := 37) (em := em_LI) h cv_RX9_74 (c_X4_fill p1 p2 p3 p4 p5 (rs em_LI s0) s3 cs3) emb_LI_X rfl rfl rfl (st1 := []) rfl ⟨rfl, rfl⟩ (rk hR (Nat.le_of_ble_eq_true rfl) (Nat.le_of_ble_eq_true rfl)) (Nat.le_of_ble_eq_true rfl) dX9_alter_37 es4 ?_
      refine k_aload_n (pc := 40) h dX9_alter_40 rfl 0 rfl ?_
      obtain ⟨s5, cs5, hf⟩ := ob_s hf
      refine k_callV0 (pc := 41) h cv_RX9_78 (c_X9_forget  s4 s5 cs5) rfl rfl rfl (st1 := []) rfl ⟨rfl, rfl⟩ (rk hR (Nat.le_of_ble_eq_true rfl) (Nat.le_of_ble_eq_true rfl)) (Nat.le_of_ble_eq_true rfl) dX9_alter_41 ?_
      refine k_iconst (pc := 44) h dX9_alter_44 kc_iconst_1 ?_
      obtain ⟨rfl, rfl⟩ := so2 hf
      exact hret 45 _ dX9_alter_45 trivial
    · have hf := it_p hc hf
      refine k_bipush (pc := 23) h dX9_alter_23 kc_bipush_m2 ?_
      obtain ⟨rfl, rfl⟩ := so2 hf
      exact hret 25 _ dX9_alter_25 trivial
theorem dX9_back_0 : decode cX9_back 0 = .ok (.aload_n 0, 1) := by decide +kernel
theorem dX9_back_1 : decode cX9_back 1 = .ok (.getfield 12, 3) := by decide +kernel
theorem dX9_back_4 : decode cX9_back 4 = .ok (.getfield 63, 3) := by decide +kernel
theorem dX9_back_7 : decode cX9_back 7 = .ok (.ifCond .ne 6, 3) := by decide +kernel
theorem dX9_back_10 : decode cX9_back 10 = .ok (.bipush (-3), 2) := by decide +kernel
theorem dX9_back_12 : decode cX9_back 12 = .ok (.ireturn, 1) := by decide +kernel
theorem dX9_back_13 : decode cX9_back 13 = .ok (.aload_n 0, 1) := by decide +kernel
theorem dX9_back_14 : decode cX9_back 14 = .ok (.getfield 12, 3) := by decide +kernel
theorem dX9_back_17 : decode cX9_back 17 = .ok (.dup, 1) := by decide +kernel
theorem dX9_back_18 : decode cX9_back 18 = .ok (.getfield 63, 3) := by decide +kernel
theorem dX9_back_21 : decode cX9_back 21 = .ok (.iconst 1, 1) := by decide +kernel
theorem dX9_back_22 : decode cX9_back 22 = .ok (.isub, 1) := by decide +kernel
theorem dX9_back_23 : decode cX9_back 23 = .ok (.putfield 63, 3) := by decide +kernel
theorem dX9_back_26 : decode cX9_back 26 = .ok (.aload_n 0, 1) := by decide +kernel
theorem dX9_back_27 : decode cX9_back 27 = .ok (.invokevirtual 78, 3) := by decide +kernel
theorem dX9_back_30 : decode cX9_back 30 = .ok (.aload_n 0, 1) := by decide +kernel
theorem dX9_back_31 : decode cX9_back 31 = .ok (.getfield 12, 3) := by decide +kernel
theorem dX9_back_34 : decode cX9_back 34 = .ok (.getfield 63, 3) := by decide +kernel
theorem dX9_back_37 : decode cX9_back 37 = .ok (.ireturn, 1) := by decide +kernel
def f_X9_back  (s0 : sh_S) : Option (Int32 × sh_S) := (if (s0 0 9) = 0 then some ((-3 : Int32), s0) else lb (ur s0 0 (upd (s0 0) 9 ((s0 0 9) - (1 : Int32)))) (fun s1 => ob (f_X9_forget  s1) (fun s2 => some ((s2 0 9), s2))))
set_option maxRecDepth 100000 in
set_option maxHeartbeats 4000000 in
theorem c_X9_back  (s0 : sh_S) (r : Int32) (s9x : sh_S) (hf : f_X9_back  s0 = some (r, s9x)) : Ctr yX9_back cX9_back 1 (some .int) ({ frames := 2, cells := 0, slots := 0, locals := 40 } : Room) shX [.ref 73] s0 (some (.int r)) s9x := by
  refine Ctr.mk (ri := .ireturn) (by decide) (Nat.le_of_ble_eq_true rfl) (Rt_i r) ?_
  intro G h hL hR hret
  refine k_drop (lv' := [(0, .ref 73)]) [0] rfl ?_
  unfold f_X9_back at hf
  refine k_aload_n (pc := 0) h dX9_back_0 rfl 0 rfl ?_
  refine k_getR (pc := 1) h fl_RX9_12 rfl rfl dX9_back_1 ?_
  refine k_getI (pc := 4) h fl_RX9_63 rfl rfl dX9_back_4 ?_
  refine k_if_ne (pc := 7) (tgt := 13) h dX9_back_7 rfl (fun hc => ?_) (fun hc => ?_)
  · have hf := it_n hc hf
    refine k_aload_n (pc := 13) h dX9_back_13 rfl 0 rfl ?_
    refine k_getR (pc := 14) h fl_RX9_12 rfl rfl dX9_back_14 ?_
    refine k_dup (pc := 17) h dX9_back_17 rfl ?_
    refine k_getI (pc := 18) h fl_RX9_63 rfl rfl dX9_back_18 ?_
    refine k_iconst (pc := 21) h dX9_back_21 kc_iconst_1 ?_
    refine k_isub (pc := 22) h dX9_back_22 ?_
    obtain ⟨s1, es1, hf⟩ := lb_s hf
    refine k_put (pc := 23) h fl_RX9_63 fp_X4_9 rfl rfl rfl rfl dX9_back_23 ?_
    refine k_heap es1 ?_
    refine k_aload_n (pc := 26) h dX9_back_26 rfl 0 rfl ?_
    obtain ⟨s2, cs2, hf⟩ := ob_s hf
    refine k_callV0 (pc := 27) h cv_RX9_78 (c_X9_forget  s1 s2 cs2) rfl rfl rfl (st1 := []) rfl ⟨rfl, rfl⟩ (rk hR (Nat.le_of_ble_eq_true rfl) (Nat.le_of_ble_eq_true rfl)) (Nat.le_of_ble_eq_true rfl) dX9_back_27 ?_
    refine k_aload_n (pc := 30) h dX9_back_30 rfl 0 rfl ?_
    refine k_getR (pc := 31) h fl_RX9_12 rfl rfl dX9_back_31 ?_
    refine k_getI (pc := 34) h fl_RX9_63 rfl rfl dX9_back_34 ?_
    obtain ⟨rfl, rfl⟩ := so2 hf
    exact hret 37 _ dX9_back_37 trivial
  · have hf := it_p hc hf
    refine k_bipush (pc := 10) h dX9_back_10 kc_bipush_m3 ?_
    obtain ⟨rfl, rfl⟩ := so2 hf
    exact hret 12 _ dX9_back_12 trivial
theorem dX9_clear_0 : decode cX9_clear 0 = .ok (.aload_n 0, 1) := by decide +kernel
theorem dX9_clear_1 : decode cX9_clear 1 = .ok (.getfield 12, 3) := by decide +kernel
theorem dX9_clear_4 : decode cX9_clear 4 = .ok (.getfield 63, 3) := by decide +kernel
theorem dX9_clear_7 : decode cX9_clear 7 = .ok (.istore_n 1, 1) := by decide +kernel
theorem dX9_clear_8 : decode cX9_clear 8 = .ok (.aload_n 0, 1) := by decide +kernel
theorem dX9_clear_9 : decode cX9_clear 9 = .ok (.getfield 12, 3) := by decide +kernel
theorem dX9_clear_12 : decode cX9_clear 12 = .ok (.iconst 0, 1) := by decide +kernel
theorem dX9_clear_13 : decode cX9_clear 13 = .ok (.putfield 63, 3) := by decide +kernel
theorem dX9_clear_16 : decode cX9_clear 16 = .ok (.aload_n 0, 1) := by decide +kernel
theorem dX9_clear_17 : decode cX9_clear 17 = .ok (.invokevirtual 78, 3) := by decide +kernel
theorem dX9_clear_20 : decode cX9_clear 20 = .ok (.iload_n 1, 1) := by decide +kernel
theorem dX9_clear_21 : decode cX9_clear 21 = .ok (.ireturn, 1) := by decide +kernel
def f_X9_clear  (s0 : sh_S) : Option (Int32 × sh_S) := lb ((s0 0 9)) (fun v1 => lb (ur s0 0 (upd (s0 0) 9 (0 : Int32))) (fun s2 => ob (f_X9_forget  s2) (fun s3 => some (v1, s3))))
set_option maxRecDepth 100000 in
set_option maxHeartbeats 4000000 in
theorem c_X9_clear  (s0 : sh_S) (r : Int32) (s9x : sh_S) (hf : f_X9_clear  s0 = some (r, s9x)) : Ctr yX9_clear cX9_clear 2 (some .int) ({ frames := 2, cells := 0, slots := 0, locals := 40 } : Room) shX [.ref 73] s0 (some (.int r)) s9x := by
  refine Ctr.mk (ri := .ireturn) (by decide) (Nat.le_of_ble_eq_true rfl) (Rt_i r) ?_
  intro G h hL hR hret
  refine k_drop (lv' := [(0, .ref 73)]) [0] rfl ?_
  unfold f_X9_clear at hf
  refine k_aload_n (pc := 0) h dX9_clear_0 rfl 0 rfl ?_
  refine k_getR (pc := 1) h fl_RX9_12 rfl rfl dX9_clear_1 ?_
  refine k_getI (pc := 4) h fl_RX9_63 rfl rfl dX9_clear_4 ?_
  obtain ⟨v1, ev1, hf⟩ := lb_s hf
  refine k_top ev1 ?_
  refine k_istore_n (pc := 7) h dX9_clear_7 rfl (nk hL (by decide)) (lv' := [(0, .ref 73), (1, .int v1)]) rfl ?_
  refine k_aload_n (pc := 8) h dX9_clear_8 rfl 0 rfl ?_
  refine k_getR (pc := 9) h fl_RX9_12 rfl rfl dX9_clear_9 ?_
  refine k_iconst (pc := 12) h dX9_clear_12 kc_iconst_0 ?_
  obtain ⟨s2, es2, hf⟩ := lb_s hf
  refine k_put (pc := 13) h fl_RX9_63 fp_X4_9 rfl rfl rfl rfl dX9_clear_13 ?_
  refine k_heap es2 ?_
  refine k_aload_n (pc := 16) h dX9_clear_16 rfl 0 rfl ?_
  obtain ⟨s3, cs3, hf⟩ := ob_s hf
  refine k_callV0 (pc := 17) h cv_RX9_78 (c_X9_forget  s2 s3 cs3) rfl rfl rfl (st1 := []) rfl ⟨rfl, rfl⟩ (rk hR (Nat.le_of_ble_eq_true rfl) (Nat.le_of_ble_eq_true rfl)) (Nat.le_of_ble_eq_true rfl) dX9_clear_17 ?_
  refine k_iload_n (pc := 20) h dX9_clear_20 rfl 1 rfl ?_
  obtain ⟨rfl, rfl⟩ := so2 hf
  exact hret 21 _ dX9_clear_21 trivial
theorem dX9_code_0 : decode cX9_code 0 = .ok (.aload_n 0, 1) := by decide +kernel
theorem dX9_code_1 : decode cX9_code 1 = .ok (.getfield 12, 3) := by decide +kernel
theorem dX9_code_4 : decode cX9_code 4 = .ok (.iload_n 1, 1) := by decide +kernel
theorem dX9_code_5 : decode cX9_code 5 = .ok (.invokevirtual 70, 3) := by decide +kernel
theorem dX9_code_8 : decode cX9_code 8 = .ok (.ifCond .ne 6, 3) := by decide +kernel
theorem dX9_code_11 : decode cX9_code 11 = .ok (.bipush (-2), 2) := by decide +kernel
theorem dX9_code_13 : decode cX9_code 13 = .ok (.ireturn, 1) := by decide +kernel
theorem dX9_code_14 : decode cX9_code 14 = .ok (.iload_n 2, 1) := by decide +kernel
theorem dX9_code_15 : decode cX9_code 15 = .ok (.tableswitch 69 0 3 #[29, 39, 49, 59], 29) := by decide +kernel
theorem dX9_code_44 : decode cX9_code 44 = .ok (.aload_n 0, 1) := by decide +kernel
theorem dX9_code_45 : decode cX9_code 45 = .ok (.getfield 12, 3) := by decide +kernel
theorem dX9_code_48 : decode cX9_code 48 = .ok (.getfield 81, 3) := by decide +kernel
theorem dX9_code_51 : decode cX9_code 51 = .ok (.iload_n 1, 1) := by decide +kernel
theorem dX9_code_52 : decode cX9_code 52 = .ok (.iaload, 1) := by decide +kernel
theorem dX9_code_53 : decode cX9_code 53 = .ok (.ireturn, 1) := by decide +kernel
theorem dX9_code_54 : decode cX9_code 54 = .ok (.aload_n 0, 1) := by decide +kernel
theorem dX9_code_55 : decode cX9_code 55 = .ok (.getfield 12, 3) := by decide +kernel
theorem dX9_code_58 : decode cX9_code 58 = .ok (.getfield 85, 3) := by decide +kernel
theorem dX9_code_61 : decode cX9_code 61 = .ok (.iload_n 1, 1) := by decide +kernel
theorem dX9_code_62 : decode cX9_code 62 = .ok (.iaload, 1) := by decide +kernel
theorem dX9_code_63 : decode cX9_code 63 = .ok (.ireturn, 1) := by decide +kernel
theorem dX9_code_64 : decode cX9_code 64 = .ok (.aload_n 0, 1) := by decide +kernel
theorem dX9_code_65 : decode cX9_code 65 = .ok (.getfield 12, 3) := by decide +kernel
theorem dX9_code_68 : decode cX9_code 68 = .ok (.getfield 88, 3) := by decide +kernel
theorem dX9_code_71 : decode cX9_code 71 = .ok (.iload_n 1, 1) := by decide +kernel
theorem dX9_code_72 : decode cX9_code 72 = .ok (.iaload, 1) := by decide +kernel
theorem dX9_code_73 : decode cX9_code 73 = .ok (.ireturn, 1) := by decide +kernel
theorem dX9_code_74 : decode cX9_code 74 = .ok (.aload_n 0, 1) := by decide +kernel
theorem dX9_code_75 : decode cX9_code 75 = .ok (.getfield 12, 3) := by decide +kernel
theorem dX9_code_78 : decode cX9_code 78 = .ok (.getfield 91, 3) := by decide +kernel
theorem dX9_code_81 : decode cX9_code 81 = .ok (.iload_n 1, 1) := by decide +kernel
theorem dX9_code_82 : decode cX9_code 82 = .ok (.iaload, 1) := by decide +kernel
theorem dX9_code_83 : decode cX9_code 83 = .ok (.ireturn, 1) := by decide +kernel
theorem dX9_code_84 : decode cX9_code 84 = .ok (.bipush (-2), 2) := by decide +kernel
theorem dX9_code_86 : decode cX9_code 86 = .ok (.ireturn, 1) := by decide +kernel
def f_X9_code (p1 : Int32) (p2 : Int32) (s0 : sh_S) : Option (Int32) := ob (f_X4_has p1 (rs em_LI s0)) (fun v1 => (if v1 = 0 then some (-2 : Int32) else (if p2 = (0 : Int32) then gu (inb p1 24) (some (s0 1 (ix p1))) else if p2 = (1 : Int32) then gu (inb p1 24) (some (s0 2 (ix p1))) else if p2 = (2 : Int32) then gu (inb p1 24) (some (s0 3 (ix p1))) else if p2 = (3 : Int32) then gu (inb p1 24) (some (s0 4 (ix p1))) else some (-2 : Int32))))
set_option maxRecDepth 100000 in
set_option maxHeartbeats 4000000 in
theorem c_X9_code (p1 : Int32) (p2 : Int32) (s0 : sh_S) (r : Int32) (hf : f_X9_code p1 p2 s0 = some r) : Ctr yX9_code cX9_code 3 (some .int) ({ frames := 1, cells := 0, slots := 0, locals := 21 } : Room) shX [.ref 73, .int p1, .int p2] s0 (some (.int r)) s0 := by
  refine Ctr.mk (ri := .ireturn) (by decide) (Nat.le_of_ble_eq_true rfl) (Rt_i r) ?_
  intro G h hL hR hret
  refine k_drop (lv' := [(0, .ref 73), (1, .int p1), (2, .int p2)]) [0, 1, 2] rfl ?_
  unfold f_X9_code at hf
  refine k_aload_n (pc := 0) h dX9_code_0 rfl 0 rfl ?_
  refine k_getR (pc := 1) h fl_RX9_12 rfl rfl dX9_code_1 ?_
  refine k_iload_n (pc := 4) h dX9_code_4 rfl 1 rfl ?_
  obtain ⟨v1, cv1, hf⟩ := ob_s hf
  refine k_callVe (pc := 5) (em := em_LI) h cv_RX9_70 (c_X4_has p1 (rs em_LI s0) v1 cv1) emb_LI_X rfl rfl rfl (st1 := [.int v1]) rfl ⟨rfl, rfl⟩ (rk hR (Nat.le_of_ble_eq_true rfl) (Nat.le_of_ble_eq_true rfl)) (Nat.le_of_ble_eq_true rfl) dX9_code_5 (mg_rs em_LI s0) ?_
  refine k_if_ne (pc := 8) (tgt := 14) h dX9_code_8 rfl (fun hc => ?_) (fun hc => ?_)
  · have hf := it_n hc hf
    refine k_iload_n (pc := 14) h dX9_code_14 rfl 2 rfl ?_
    by_cases hc0 : p2 = (0 : Int32)
    · have hf := it_p hc0 hf
      refine k_tabIn (pc := 15) (tgt := 44) h dX9_code_15 (by rw [hc0]; decide) (by rw [hc0]; decide) (by rw [hc0]; rfl) rfl ?_
      refine k_aload_n (pc := 44) h dX9_code_44 rfl 0 rfl ?_
      refine k_getR (pc := 45) h fl_RX9_12 rfl rfl dX9_code_45 ?_
      refine k_getR (pc := 48) h fl_RX9_81 rfl rfl dX9_code_48 ?_
      refine k_iload_n (pc := 51) h dX9_code_51 rfl 1 rfl ?_
      obtain ⟨g2, hf⟩ := gu_s hf
      refine k_iald (pc := 52) (n := 24) h rfl g2 dX9_code_52 ?_
      obtain rfl := so1 hf
      exact hret 53 _ dX9_code_53 trivial
    have hf := it_n hc0 hf
    by_cases hc1 : p2 = (1 : Int32)
    · have hf := it_p hc1 hf
      refine k_tabIn (pc := 15) (tgt := 54) h dX9_code_15 (by rw [hc1]; decide) (by rw [hc1]; decide) (by rw [hc1]; rfl) rfl ?_
      refine k_aload_n (pc := 54) h dX9_code_54 rfl 0 rfl ?_
      refine k_getR (pc := 55) h fl_RX9_12 rfl rfl dX9_code_55 ?_
      refine k_getR (pc := 58) h fl_RX9_85 rfl rfl dX9_code_58 ?_
      refine k_iload_n (pc := 61) h dX9_code_61 rfl 1 rfl ?_
      obtain ⟨g3, hf⟩ := gu_s hf
      refine k_iald (pc := 62) (n := 24) h rfl g3 dX9_code_62 ?_
      obtain rfl := so1 hf
      exact hret 63 _ dX9_code_63 trivial
    have hf := it_n hc1 hf
    by_cases hc2 : p2 = (2 : Int32)
    · have hf := it_p hc2 hf
      refine k_tabIn (pc := 15) (tgt := 64) h dX9_code_15 (by rw [hc2]; decide) (by rw [hc2]; decide) (by rw [hc2]; rfl) rfl ?_
      refine k_aload_n (pc := 64) h dX9_code_64 rfl 0 rfl ?_
      refine k_getR (pc := 65) h fl_RX9_12 rfl rfl dX9_code_65 ?_
      refine k_getR (pc := 68) h fl_RX9_88 rfl rfl dX9_code_68 ?_
      refine k_iload_n (pc := 71) h dX9_code_71 rfl 1 rfl ?_
      obtain ⟨g4, hf⟩ := gu_s hf
      refine k_iald (pc := 72) (n := 24) h rfl g4 dX9_code_72 ?_
      obtain rfl := so1 hf
      exact hret 73 _ dX9_code_73 trivial
    have hf := it_n hc2 hf
    by_cases hc3 : p2 = (3 : Int32)
    · have hf := it_p hc3 hf
      refine k_tabIn (pc := 15) (tgt := 74) h dX9_code_15 (by rw [hc3]; decide) (by rw [hc3]; decide) (by rw [hc3]; rfl) rfl ?_
      refine k_aload_n (pc := 74) h dX9_code_74 rfl 0 rfl ?_
      refine k_getR (pc := 75) h fl_RX9_12 rfl rfl dX9_code_75 ?_
      refine k_getR (pc := 78) h fl_RX9_91 rfl rfl dX9_code_78 ?_
      refine k_iload_n (pc := 81) h dX9_code_81 rfl 1 rfl ?_
      obtain ⟨g5, hf⟩ := gu_s hf
      refine k_iald (pc := 82) (n := 24) h rfl g5 dX9_code_82 ?_
      obtain rfl := so1 hf
      exact hret 83 _ dX9_code_83 trivial
    have hf := it_n hc3 hf
    refine k_tabOut (pc := 15) (tgt := 84) h dX9_code_15 (by have z0 := lv_neT hc0 (a := 0) rfl; have z1 := lv_neT hc1 (a := 1) rfl; have z2 := lv_neT hc2 (a := 2) rfl; have z3 := lv_neT hc3 (a := 3) rfl; omega) rfl ?_
    refine k_bipush (pc := 84) h dX9_code_84 kc_bipush_m2 ?_
    obtain rfl := so1 hf
    exact hret 86 _ dX9_code_86 trivial
  · have hf := it_p hc hf
    refine k_bipush (pc := 11) h dX9_code_11 kc_bipush_m2 ?_
    obtain rfl := so1 hf
    exact hret 13 _ dX9_code_13 trivial
theorem dX9_finding_0 : decode cX9_finding 0 = .ok (.aload_n 0, 1) := by decide +kernel
theorem dX9_finding_1 : decode cX9_finding 1 = .ok (.iload_n 1, 1) := by decide +kernel
theorem dX9_finding_2 : decode cX9_finding 2 = .ok (.putfield 54, 3) := by decide +kernel
theorem dX9_finding_5 : decode cX9_finding 5 = .ok (.bipush (-10), 2) := by decide +kernel
theorem dX9_finding_7 : decode cX9_finding 7 = .ok (.iload_n 1, 1) := by decide +kernel
theorem dX9_finding_8 : decode cX9_finding 8 = .ok (.isub, 1) := by decide +kernel
theorem dX9_finding_9 : decode cX9_finding 9 = .ok (.ireturn, 1) := by decide +kernel
def f_X9_finding (p1 : Int32) (s0 : sh_S) : Option (Int32 × sh_S) := lb (ur s0 73 (upd (s0 73) 6 p1)) (fun s1 => some (((-10 : Int32) - p1), s1))
set_option maxRecDepth 100000 in
set_option maxHeartbeats 4000000 in
theorem c_X9_finding (p1 : Int32) (s0 : sh_S) (r : Int32) (s9x : sh_S) (hf : f_X9_finding p1 s0 = some (r, s9x)) : Ctr yX9_finding cX9_finding 2 (some .int) ({ frames := 0, cells := 0, slots := 0, locals := 0 } : Room) shX [.ref 73, .int p1] s0 (some (.int r)) s9x := by
  refine Ctr.mk (ri := .ireturn) (by decide) (Nat.le_of_ble_eq_true rfl) (Rt_i r) ?_
  intro G h hL hR hret
  refine k_drop (lv' := [(0, .ref 73), (1, .int p1)]) [0, 1] rfl ?_
  unfold f_X9_finding at hf
  refine k_aload_n (pc := 0) h dX9_finding_0 rfl 0 rfl ?_
  refine k_iload_n (pc := 1) h dX9_finding_1 rfl 1 rfl ?_
  obtain ⟨s1, es1, hf⟩ := lb_s hf
  refine k_put (pc := 2) h fl_RX9_54 fp_X9_6 rfl rfl rfl rfl dX9_finding_2 ?_
  refine k_heap es1 ?_
  refine k_bipush (pc := 5) h dX9_finding_5 kc_bipush_m10 ?_
  refine k_iload_n (pc := 7) h dX9_finding_7 rfl 1 rfl ?_
  refine k_isub (pc := 8) h dX9_finding_8 ?_
  obtain ⟨rfl, rfl⟩ := so2 hf
  exact hret 9 _ dX9_finding_9 trivial
theorem dX9_read_0 : decode cX9_read 0 = .ok (.iload_n 1, 1) := by decide +kernel
theorem dX9_read_1 : decode cX9_read 1 = .ok (.invokestatic 94, 3) := by decide +kernel
theorem dX9_read_4 : decode cX9_read 4 = .ok (.ifCond .ne 6, 3) := by decide +kernel
theorem dX9_read_7 : decode cX9_read 7 = .ok (.bipush (-2), 2) := by decide +kernel
theorem dX9_read_9 : decode cX9_read 9 = .ok (.ireturn, 1) := by decide +kernel
theorem dX9_read_10 : decode cX9_read 10 = .ok (.aload_n 0, 1) := by decide +kernel
theorem dX9_read_11 : decode cX9_read 11 = .ok (.getfield 50, 3) := by decide +kernel
theorem dX9_read_14 : decode cX9_read 14 = .ok (.iload_n 1, 1) := by decide +kernel
theorem dX9_read_15 : decode cX9_read 15 = .ok (.aaload, 1) := by decide +kernel
theorem dX9_read_16 : decode cX9_read 16 = .ok (.astore_n 2, 1) := by decide +kernel
theorem dX9_read_17 : decode cX9_read 17 = .ok (.aload_n 2, 1) := by decide +kernel
theorem dX9_read_18 : decode cX9_read 18 = .ok (.invokevirtual 97, 3) := by decide +kernel
theorem dX9_read_21 : decode cX9_read 21 = .ok (.ifCond .eq 9, 3) := by decide +kernel
theorem dX9_read_24 : decode cX9_read 24 = .ok (.aload_n 0, 1) := by decide +kernel
theorem dX9_read_25 : decode cX9_read 25 = .ok (.iconst 1, 1) := by decide +kernel
theorem dX9_read_26 : decode cX9_read 26 = .ok (.invokevirtual 101, 3) := by decide +kernel
theorem dX9_read_29 : decode cX9_read 29 = .ok (.ireturn, 1) := by decide +kernel
theorem dX9_read_30 : decode cX9_read 30 = .ok (.iconst 0, 1) := by decide +kernel
theorem dX9_read_31 : decode cX9_read 31 = .ok (.istore_n 3, 1) := by decide +kernel
theorem dX9_read_32 : decode cX9_read 32 = .ok (.iconst 0, 1) := by decide +kernel
theorem dX9_read_33 : decode cX9_read 33 = .ok (.istore 4, 2) := by decide +kernel
theorem dX9_read_35 : decode cX9_read 35 = .ok (.iload 4, 2) := by decide +kernel
theorem dX9_read_37 : decode cX9_read 37 = .ok (.iconst 4, 1) := by decide +kernel
theorem dX9_read_38 : decode cX9_read 38 = .ok (.iadd, 1) := by decide +kernel
theorem dX9_read_39 : decode cX9_read 39 = .ok (.aload_n 2, 1) := by decide +kernel
theorem dX9_read_40 : decode cX9_read 40 = .ok (.getfield 105, 3) := by decide +kernel
theorem dX9_read_43 : decode cX9_read 43 = .ok (.if_icmp .gt 95, 3) := by decide +kernel
theorem dX9_read_46 : decode cX9_read 46 = .ok (.aload_n 0, 1) := by decide +kernel
theorem dX9_read_47 : decode cX9_read 47 = .ok (.getfield 12, 3) := by decide +kernel
theorem dX9_read_50 : decode cX9_read 50 = .ok (.getfield 63, 3) := by decide +kernel
theorem dX9_read_53 : decode cX9_read 53 = .ok (.bipush 24, 2) := by decide +kernel
theorem dX9_read_55 : decode cX9_read 55 = .ok (.if_icmp .ge 83, 3) := by decide +kernel
theorem dX9_read_58 : decode cX9_read 58 = .ok (.aload_n 2, 1) := by decide +kernel
theorem dX9_read_59 : decode cX9_read 59 = .ok (.getfield 106, 3) := by decide +kernel
theorem dX9_read_62 : decode cX9_read 62 = .ok (.astore 5, 2) := by decide +kernel
theorem dX9_read_64 : decode cX9_read 64 = .ok (.aload 5, 2) := by decide +kernel
theorem dX9_read_66 : decode cX9_read 66 = .ok (.iload 4, 2) := by decide +kernel
theorem dX9_read_68 : decode cX9_read 68 = .ok (.iaload, 1) := by decide +kernel
theorem dX9_read_69 : decode cX9_read 69 = .ok (.aload 5, 2) := by decide +kernel
theorem dX9_read_71 : decode cX9_read 71 = .ok (.iload 4, 2) := by decide +kernel
theorem dX9_read_73 : decode cX9_read 73 = .ok (.iconst 1, 1) := by decide +kernel
theorem dX9_read_74 : decode cX9_read 74 = .ok (.iadd, 1) := by decide +kernel
theorem dX9_read_75 : decode cX9_read 75 = .ok (.iaload, 1) := by decide +kernel
theorem dX9_read_76 : decode cX9_read 76 = .ok (.aload 5, 2) := by decide +kernel
theorem dX9_read_78 : decode cX9_read 78 = .ok (.iload 4, 2) := by decide +kernel
theorem dX9_read_80 : decode cX9_read 80 = .ok (.iconst 2, 1) := by decide +kernel
theorem dX9_read_81 : decode cX9_read 81 = .ok (.iadd, 1) := by decide +kernel
theorem dX9_read_82 : decode cX9_read 82 = .ok (.iaload, 1) := by decide +kernel
theorem dX9_read_83 : decode cX9_read 83 = .ok (.aload 5, 2) := by decide +kernel
theorem dX9_read_85 : decode cX9_read 85 = .ok (.iload 4, 2) := by decide +kernel
theorem dX9_read_87 : decode cX9_read 87 = .ok (.iconst 3, 1) := by decide +kernel
theorem dX9_read_88 : decode cX9_read 88 = .ok (.iadd, 1) := by decide +kernel
theorem dX9_read_89 : decode cX9_read 89 = .ok (.iaload, 1) := by decide +kernel
theorem dX9_read_90 : decode cX9_read 90 = .ok (.invokestatic 59, 3) := by decide +kernel
theorem dX9_read_93 : decode cX9_read 93 = .ok (.ifCond .ne 6, 3) := by decide +kernel
theorem dX9_read_96 : decode cX9_read 96 = .ok (.goto 42, 3) := by decide +kernel
theorem dX9_read_99 : decode cX9_read 99 = .ok (.aload_n 0, 1) := by decide +kernel
theorem dX9_read_100 : decode cX9_read 100 = .ok (.aload 5, 2) := by decide +kernel
theorem dX9_read_102 : decode cX9_read 102 = .ok (.iload 4, 2) := by decide +kernel
theorem dX9_read_104 : decode cX9_read 104 = .ok (.iaload, 1) := by decide +kernel
theorem dX9_read_105 : decode cX9_read 105 = .ok (.aload 5, 2) := by decide +kernel
theorem dX9_read_107 : decode cX9_read 107 = .ok (.iload 4, 2) := by decide +kernel
theorem dX9_read_109 : decode cX9_read 109 = .ok (.iconst 1, 1) := by decide +kernel
theorem dX9_read_110 : decode cX9_read 110 = .ok (.iadd, 1) := by decide +kernel
theorem dX9_read_111 : decode cX9_read 111 = .ok (.iaload, 1) := by decide +kernel
theorem dX9_read_112 : decode cX9_read 112 = .ok (.aload 5, 2) := by decide +kernel
theorem dX9_read_114 : decode cX9_read 114 = .ok (.iload 4, 2) := by decide +kernel
theorem dX9_read_116 : decode cX9_read 116 = .ok (.iconst 2, 1) := by decide +kernel
theorem dX9_read_117 : decode cX9_read 117 = .ok (.iadd, 1) := by decide +kernel
theorem dX9_read_118 : decode cX9_read 118 = .ok (.iaload, 1) := by decide +kernel
theorem dX9_read_119 : decode cX9_read 119 = .ok (.aload 5, 2) := by decide +kernel
theorem dX9_read_121 : decode cX9_read 121 = .ok (.iload 4, 2) := by decide +kernel
theorem dX9_read_123 : decode cX9_read 123 = .ok (.iconst 3, 1) := by decide +kernel
theorem dX9_read_124 : decode cX9_read 124 = .ok (.iadd, 1) := by decide +kernel
theorem dX9_read_125 : decode cX9_read 125 = .ok (.iaload, 1) := by decide +kernel
theorem dX9_read_126 : decode cX9_read 126 = .ok (.invokevirtual 66, 3) := by decide +kernel
theorem dX9_read_129 : decode cX9_read 129 = .ok (.iinc 3 1, 3) := by decide +kernel
theorem dX9_read_132 : decode cX9_read 132 = .ok (.iinc 4 4, 3) := by decide +kernel
theorem dX9_read_135 : decode cX9_read 135 = .ok (.goto (-100), 3) := by decide +kernel
theorem dX9_read_138 : decode cX9_read 138 = .ok (.iload_n 3, 1) := by decide +kernel
theorem dX9_read_139 : decode cX9_read 139 = .ok (.ireturn, 1) := by decide +kernel
def f_X9_read_L35 (p1 : Int32) (v4 : Int32) (v5 : Int32) (s6 : sh_S) : Option ((Int32 × Int32 × sh_S) ⊕ (Int32 × sh_S)) := (if (s6 (64 + 2 * ix p1) 2) < (v5 + (4 : Int32)) then some (.inr (v4, s6)) else (if (24 : Int32) ≤ (s6 0 9) then some (.inr (v4, s6)) else gu (inb v5 60) (gu (inb (v5 + (1 : Int32)) 60) (gu (inb (v5 + (2 : Int32)) 60) (gu (inb (v5 + (3 : Int32)) 60) (ob (f_X9_mayBe (s6 (64 + 2 * ix p1 + 1) (ix v5)) (s6 (64 + 2 * ix p1 + 1) (ix (v5 + (1 : Int32)))) (s6 (64 + 2 * ix p1 + 1) (ix (v5 + (2 : Int32)))) (s6 (64 + 2 * ix p1 + 1) (ix (v5 + (3 : Int32))))) (fun v13 => (if v13 = 0 then some (.inr (v4, s6)) else gu (inb v5 60) (gu (inb (v5 + (1 : Int32)) 60) (gu (inb (v5 + (2 : Int32)) 60) (gu (inb (v5 + (3 : Int32)) 60) (ob (f_X9_append (s6 (64 + 2 * ix p1 + 1) (ix v5)) (s6 (64 + 2 * ix p1 + 1) (ix (v5 + (1 : Int32)))) (s6 (64 + 2 * ix p1 + 1) (ix (v5 + (2 : Int32)))) (s6 (64 + 2 * ix p1 + 1) (ix (v5 + (3 : Int32)))) s6) (fun s18 => lb (v4 + (1 : Int32)) (fun v19 => lb (v5 + (4 : Int32)) (fun v20 => some (.inl (v19, v20, s18)))))))))))))))))
def f_X9_read (p1 : Int32) (s0 : sh_S) : Option (Int32 × sh_S) := ob (f_X9_isSheet p1) (fun v1 => (if v1 = 0 then some ((-2 : Int32), s0) else gu (inb p1 4) (ob (f_X6_isLost  (rs [64 + 2 * ix p1, 64 + 2 * ix p1 + 1] s0)) (fun v3 => (if v3 = 0 then ob2 (lp (fun q => f_X9_read_L35 p1 q.1 q.2.1 q.2.2) FU ((0 : Int32), (0 : Int32), s0)) (fun v7 s8 => some (v7, s8)) else ob2 (f_X9_finding (1 : Int32) s0) (fun v21 s22 => some (v21, s22)))))))
set_option maxRecDepth 100000 in
set_option maxHeartbeats 4000000 in
theorem c_X9_read (p1 : Int32) (s0 : sh_S) (r : Int32) (s9x : sh_S) (hf : f_X9_read p1 s0 = some (r, s9x)) : Ctr yX9_read cX9_read 6 (some .int) ({ frames := 3, cells := 0, slots := 0, locals := 72 } : Room) shX [.ref 73, .int p1] s0 (some (.int r)) s9x := by
  refine Ctr.mk (ri := .ireturn) (by decide) (Nat.le_of_ble_eq_true rfl) (Rt_i r) ?_
  intro G h hL hR hret
  refine k_drop (lv' := [(0, .ref 73), (1, .int p1)]) [0, 1] rfl ?_
  unfold f_X9_read at hf
  refine k_iload_n (pc := 0) h dX9_read_0 rfl 1 rfl ?_
  obtain ⟨v1, cv1, hf⟩ := ob_s hf
  refine k_callSp (pc := 1) h cs_RX9_94 (c_X9_isSheet p1 _ v1 cv1) rfl rfl (st1 := [.int v1]) rfl ⟨rfl, rfl⟩ (rk hR (Nat.le_of_ble_eq_true rfl) (Nat.le_of_ble_eq_true rfl)) (Nat.le_of_ble_eq_true rfl) dX9_read_1 ?_
  refine k_if_ne (pc := 4) (tgt := 10) h dX9_read_4 rfl (fun hc => ?_) (fun hc => ?_)
  · have hf := it_n hc hf
    refine k_aload_n (pc := 10) h dX9_read_10 rfl 0 rfl ?_
    refine k_getR (pc := 11) h fl_RX9_50 rfl rfl dX9_read_11 ?_
    refine k_iload_n (pc := 14) h dX9_read_14 rfl 1 rfl ?_
    obtain ⟨g2, hf⟩ := gu_s hf
    have jg2 : ix p1 < 4 := inb_lt g2
    refine k_aald (pc := 15) (k' := 64 + 2 * ix p1) h rfl g2 (sh_refs jg2) dX9_read_15 ?_
    refine k_astore_n (pc := 16) h dX9_read_16 rfl (nk hL (by decide)) (lv' := [(0, .ref 73), (1, .int p1), (2, .ref (64 + 2 * ix p1))]) rfl ?_
    refine k_aload_n (pc := 17) h dX9_read_17 rfl 2 rfl ?_
    obtain ⟨v3, cv3, hf⟩ := ob_s hf
    refine k_callVe (pc := 18) (em := [64 + 2 * ix p1, 64 + 2 * ix p1 + 1]) h cv_RX9_97 (c_X6_isLost  (rs [64 + 2 * ix p1, 64 + 2 * ix p1 + 1] s0) v3 cv3) (emb_SH jg2) (sh_sheet jg2) rfl rfl (st1 := [.int v3]) rfl ⟨rfl, rfl⟩ (rk hR (Nat.le_of_ble_eq_true rfl) (Nat.le_of_ble_eq_true rfl)) (Nat.le_of_ble_eq_true rfl) dX9_read_18 (mg_rs [64 + 2 * ix p1, 64 + 2 * ix p1 + 1] s0) ?_
    refine k_if_eq (pc := 21) (tgt := 30) h dX9_read_21 rfl (fun hc => ?_) (fun hc => ?_)
    · have hf := it_p hc hf
      refine k_iconst (pc := 30) h dX9_read_30 kc_iconst_0 ?_
      refine k_istore_n (pc := 31) h dX9_read_31 rfl (nk hL (by decide)) (lv' := [(0, .ref 73), (1, .int p1), (2, .ref (64 + 2 * ix p1)), (3, .int (0 : Int32))]) rfl ?_
      refine k_iconst (pc := 32) h dX9_read_32 kc_iconst_0 ?_
      refine k_istore (pc := 33) h dX9_read_33 (nk hL (by decide)) (lv' := [(0, .ref 73), (1, .int p1), (2, .ref (64 + 2 * ix p1)), (3, .int (0 : Int32)), (4, .int (0 : Int32))]) rfl ?_
      obtain ⟨v7, s8, hl, hf⟩ := ob2_s hf
      refine k_drop (lv' := [(0, .ref 73), (2, .ref (64 + 2 * ix p1)), (3, .int (0 : Int32)), (4, .int (0 : Int32))]) [0, 2, 3, 4] rfl ?_
      refine lp_s (P := (fun q : Int32 × Int32 × sh_S => sh_K G shX 35 [(0, .ref 73), (2, .ref (64 + 2 * ix p1)), (3, .int q.1), (4, .int q.2.1)] [] q.2.2)) (Q := (fun q : Int32 × sh_S => sh_K G shX 138 [(3, .int q.1)] [] q.2)) (s := ((0 : Int32), (0 : Int32), s0)) ?_ hl ?_
      · clear hf hl
        intro q rr hf kc35
        obtain ⟨v4, v5, s6⟩ := q
        have hf : f_X9_read_L35 p1 v4 v5 s6 = some rr := hf
        unfold f_X9_read_L35 at hf
        refine k_iload (pc := 35) h dX9_read_35 3 rfl ?_
        refine k_iconst (pc := 37) h dX9_read_37 kc_iconst_4 ?_
        refine k_iadd (pc := 38) h dX9_read_38 ?_
        refine k_aload_n (pc := 39) h dX9_read_39 rfl 1 rfl ?_
        refine k_getI (pc := 40) h fl_RX9_105 (sh_sheet jg2) rfl dX9_read_40 ?_
        refine k_icmp_gt (pc := 43) (tgt := 138) h dX9_read_43 rfl (fun hc => ?_) (fun hc => ?_)
        · have hf := it_p hc hf
          obtain rfl := so1 hf
          exact k_drop [2] rfl kc35
        · have hf := it_n hc hf
          refine k_aload_n (pc := 46) h dX9_read_46 rfl 0 rfl ?_
          refine k_getR (pc := 47) h fl_RX9_12 rfl rfl dX9_read_47 ?_
          refine k_getI (pc := 50) h fl_RX9_63 rfl rfl dX9_read_50 ?_
          refine k_bipush (pc := 53) h dX9_read_53 kc_bipush_24 ?_
          refine k_icmp_ge (pc := 55) (tgt := 138) h dX9_read_55 rfl (fun hc => ?_) (fun hc => ?_)
          · have hf := it_p hc hf
            obtain rfl := so1 hf
            exact k_drop [2] rfl kc35
          · have hf := it_n hc hf
            refine k_aload_n (pc := 58) h dX9_read_58 rfl 1 rfl ?_
            refine k_getR (pc := 59) h fl_RX9_106 (sh_sheet jg2) rfl dX9_read_59 ?_
            refine k_astore (pc := 62) h dX9_read_62 (nk hL (by decide)) (lv' := [(0, .ref 73), (2, .ref (64 + 2 * ix p1)), (3, .int v4), (4, .int v5), (5, .ref (64 + 2 * ix p1 + 1))]) rfl ?_
            refine k_aload (pc := 64) h dX9_read_64 4 rfl ?_
            refine k_iload (pc := 66) h dX9_read_66 3 rfl ?_
            obtain ⟨g9, hf⟩ := gu_s hf
            refine k_iald (pc := 68) (n := 60) h (sh_items jg2) g9 dX9_read_68 ?_
            refine k_aload (pc := 69) h dX9_read_69 4 rfl ?_
            refine k_iload (pc := 71) h dX9_read_71 3 rfl ?_
            refine k_iconst (pc := 73) h dX9_read_73 kc_iconst_1 ?_
            refine k_iadd (pc := 74) h dX9_read_74 ?_
            obtain ⟨g10, hf⟩ := gu_s hf
            refine k_iald (pc := 75) (n := 60) h (sh_items jg2) g10 dX9_read_75 ?_
            refine k_aload (pc := 76) h dX9_read_76 4 rfl ?_
            refine k_iload (pc := 78) h dX9_read_78 3 rfl ?_
            refine k_iconst (pc := 80) h dX9_read_80 kc_iconst_2 ?_
            refine k_iadd (pc := 81) h dX9_read_81 ?_
            obtain ⟨g11, hf⟩ := gu_s hf
            refine k_iald (pc := 82) (n := 60) h (sh_items jg2) g11 dX9_read_82 ?_
            refine k_aload (pc := 83) h dX9_read_83 4 rfl ?_
            refine k_iload (pc := 85) h dX9_read_85 3 rfl ?_
            refine k_iconst (pc := 87) h dX9_read_87 kc_iconst_3 ?_
            refine k_iadd (pc := 88) h dX9_read_88 ?_
            obtain ⟨g12, hf⟩ := gu_s hf
            refine k_iald (pc := 89) (n := 60) h (sh_items jg2) g12 dX9_read_89 ?_
            obtain ⟨v13, cv13, hf⟩ := ob_s hf
            refine k_callSp (pc := 90) h cs_RX9_59 (c_X9_mayBe (s6 (64 + 2 * ix p1 + 1) (ix v5)) (s6 (64 + 2 * ix p1 + 1) (ix (v5 + (1 : Int32)))) (s6 (64 + 2 * ix p1 + 1) (ix (v5 + (2 : Int32)))) (s6 (64 + 2 * ix p1 + 1) (ix (v5 + (3 : Int32)))) _ v13 cv13) rfl rfl (st1 := [.int v13]) rfl ⟨rfl, rfl⟩ (rk hR (Nat.le_of_ble_eq_true rfl) (Nat.le_of_ble_eq_true rfl)) (Nat.le_of_ble_eq_true rfl) dX9_read_90 ?_
            refine k_if_ne (pc := 93) (tgt := 99) h dX9_read_93 rfl (fun hc => ?_) (fun hc => ?_)
            · have hf := it_n hc hf
              refine k_aload_n (pc := 99) h dX9_read_99 rfl 0 rfl ?_
              refine k_aload (pc := 100) h dX9_read_100 4 rfl ?_
              refine k_iload (pc := 102) h dX9_read_102 3 rfl ?_
              obtain ⟨g14, hf⟩ := gu_s hf
              refine k_iald (pc := 104) (n := 60) h (sh_items jg2) g14 dX9_read_104 ?_
              refine k_aload (pc := 105) h dX9_read_105 4 rfl ?_
              refine k_iload (pc := 107) h dX9_read_107 3 rfl ?_
              refine k_iconst (pc := 109) h dX9_read_109 kc_iconst_1 ?_
              refine k_iadd (pc := 110) h dX9_read_110 ?_
              obtain ⟨g15, hf⟩ := gu_s hf
              refine k_iald (pc := 111) (n := 60) h (sh_items jg2) g15 dX9_read_111 ?_
              refine k_aload (pc := 112) h dX9_read_112 4 rfl ?_
              refine k_iload (pc := 114) h dX9_read_114 3 rfl ?_
              refine k_iconst (pc := 116) h dX9_read_116 kc_iconst_2 ?_
              refine k_iadd (pc := 117) h dX9_read_117 ?_
              obtain ⟨g16, hf⟩ := gu_s hf
              refine k_iald (pc := 118) (n := 60) h (sh_items jg2) g16 dX9_read_118 ?_
              refine k_aload (pc := 119) h dX9_read_119 4 rfl ?_
              refine k_iload (pc := 121) h dX9_read_121 3 rfl ?_
              refine k_iconst (pc := 123) h dX9_read_123 kc_iconst_3 ?_
              refine k_iadd (pc := 124) h dX9_read_124 ?_
              obtain ⟨g17, hf⟩ := gu_s hf
              refine k_iald (pc := 125) (n := 60) h (sh_items jg2) g17 dX9_read_125 ?_
              obtain ⟨s18, cs18, hf⟩ := ob_s hf
              refine k_callV0 (pc := 126) h cv_RX9_66 (c_X9_append (s6 (64 + 2 * ix p1 + 1) (ix v5)) (s6 (64 + 2 * ix p1 + 1) (ix (v5 + (1 : Int32)))) (s6 (64 + 2 * ix p1 + 1) (ix (v5 + (2 : Int32)))) (s6 (64 + 2 * ix p1 + 1) (ix (v5 + (3 : Int32)))) s6 s18 cs18) rfl rfl rfl (st1 := []) rfl ⟨rfl, rfl⟩ (rk hR (Nat.le_of_ble_eq_true rfl) (Nat.le_of_ble_eq_true rfl)) (Nat.le_of_ble_eq_true rfl) dX9_read_126 ?_
              obtain ⟨v19, ev19, hf⟩ := lb_s hf
              refine k_iinc (pc := 129) h dX9_read_129 2 rfl ((congrArg (_ + ·) kc_iconst_1).trans ev19.symm) (nk hL (by decide)) (lv' := [(0, .ref 73), (2, .ref (64 + 2 * ix p1)), (3, .int v19), (4, .int v5), (5, .ref (64 + 2 * ix p1 + 1))]) rfl ?_
              obtain ⟨v20, ev20, hf⟩ := lb_s hf
              refine k_iinc (pc := 132) h dX9_read_132 3 rfl ((congrArg (_ + ·) kc_iconst_4).trans ev20.symm) (nk hL (by decide)) (lv' := [(0, .ref 73), (2, .ref (64 + 2 * ix p1)), (3, .int v19), (4, .int v20), (5, .ref (64 + 2 * ix p1 + 1))]) rfl ?_
              refine k_goto (pc := 135) (tgt := 35) h dX9_read_135 rfl ?_
              obtain rfl := so1 hf
              exact k_drop [0, 1, 2, 3] rfl kc35
            · have hf := it_p hc hf
              refine k_goto (pc := 96) (tgt := 138) h dX9_read_96 rfl ?_
              obtain rfl := so1 hf
              exact k_drop [2] rfl kc35
      · refine k_iload_n (pc := 138) h dX9_read_138 rfl 0 rfl ?_
        obtain ⟨rfl, rfl⟩ := so2 hf
        exact hret 139 _ dX9_read_139 trivial
    · have hf := it_n hc hf
      refine k_aload_n (pc := 24) h dX9_read_24 rfl 0 rfl ?_
      refine k_iconst (pc := 25) h dX9_read_25 kc_iconst_1 ?_
      obtain ⟨v21, s22, cv21, hf⟩ := ob2_s hf
      refine k_callV0 (pc := 26) h cv_RX9_101 (c_X9_finding (1 : Int32) s0 v21 s22 cv21) rfl rfl rfl (st1 := [.int v21]) rfl ⟨rfl, rfl⟩ (rk hR (Nat.le_of_ble_eq_true rfl) (Nat.le_of_ble_eq_true rfl)) (Nat.le_of_ble_eq_true rfl) dX9_read_26 ?_
      obtain ⟨rfl, rfl⟩ := so2 hf
      exact hret 29 _ dX9_read_29 trivial
  · have hf := it_p hc hf
    refine k_bipush (pc := 7) h dX9_read_7 kc_bipush_m2 ?_
    obtain ⟨rfl, rfl⟩ := so2 hf
    exact hret 9 _ dX9_read_9 trivial
theorem dX9_next_0 : decode cX9_next 0 = .ok (.aload_n 0, 1) := by decide +kernel
theorem dX9_next_1 : decode cX9_next 1 = .ok (.getfield 12, 3) := by decide +kernel
theorem dX9_next_4 : decode cX9_next 4 = .ok (.iload_n 1, 1) := by decide +kernel
theorem dX9_next_5 : decode cX9_next 5 = .ok (.invokevirtual 70, 3) := by decide +kernel
theorem dX9_next_8 : decode cX9_next 8 = .ok (.ifCond .ne 6, 3) := by decide +kernel
theorem dX9_next_11 : decode cX9_next 11 = .ok (.bipush (-2), 2) := by decide +kernel
theorem dX9_next_13 : decode cX9_next 13 = .ok (.ireturn, 1) := by decide +kernel
theorem dX9_next_14 : decode cX9_next 14 = .ok (.aload_n 0, 1) := by decide +kernel
theorem dX9_next_15 : decode cX9_next 15 = .ok (.getfield 21, 3) := by decide +kernel
theorem dX9_next_18 : decode cX9_next 18 = .ok (.invokevirtual 120, 3) := by decide +kernel
theorem dX9_next_21 : decode cX9_next 21 = .ok (.getfield 124, 3) := by decide +kernel
theorem dX9_next_24 : decode cX9_next 24 = .ok (.astore_n 2, 1) := by decide +kernel
theorem dX9_next_25 : decode cX9_next 25 = .ok (.aload_n 2, 1) := by decide +kernel
theorem dX9_next_26 : decode cX9_next 26 = .ok (.getfield 128, 3) := by decide +kernel
theorem dX9_next_29 : decode cX9_next 29 = .ok (.iload_n 1, 1) := by decide +kernel
theorem dX9_next_30 : decode cX9_next 30 = .ok (.iaload, 1) := by decide +kernel
theorem dX9_next_31 : decode cX9_next 31 = .ok (.invokestatic 133, 3) := by decide +kernel
theorem dX9_next_34 : decode cX9_next 34 = .ok (.aload_n 2, 1) := by decide +kernel
theorem dX9_next_35 : decode cX9_next 35 = .ok (.getfield 136, 3) := by decide +kernel
theorem dX9_next_38 : decode cX9_next 38 = .ok (.iload_n 1, 1) := by decide +kernel
theorem dX9_next_39 : decode cX9_next 39 = .ok (.iaload, 1) := by decide +kernel
theorem dX9_next_40 : decode cX9_next 40 = .ok (.invokestatic 133, 3) := by decide +kernel
theorem dX9_next_43 : decode cX9_next 43 = .ok (.ior, 1) := by decide +kernel
theorem dX9_next_44 : decode cX9_next 44 = .ok (.ireturn, 1) := by decide +kernel
def f_X9_next (p1 : Int32) (s0 : sh_S) : Option (Int32 × sh_S) := ob (f_X4_has p1 (rs em_LI s0)) (fun v1 => (if v1 = 0 then some ((-2 : Int32), s0) else ob (f_X0_examine  (rs em_CK s0)) (fun s2 => lb (mg em_CK 0 s0 s2) (fun s3 => gu (inb p1 24) (ob (f_X9_bitOf (s3 12 (ix p1))) (fun v5 => gu (inb p1 24) (ob (f_X9_bitOf (s3 13 (ix p1))) (fun v7 => some ((v5 ||| v7), s3)))))))))
set_option maxRecDepth 100000 in
set_option maxHeartbeats 4000000 in
theorem c_X9_next (p1 : Int32) (s0 : sh_S) (r : Int32) (s9x : sh_S) (hf : f_X9_next p1 s0 = some (r, s9x)) : Ctr yX9_next cX9_next 3 (some .int) ({ frames := 4, cells := 0, slots := 0, locals := 129 } : Room) shX [.ref 73, .int p1] s0 (some (.int r)) s9x := by
  refine Ctr.mk (ri := .ireturn) (by decide) (Nat.le_of_ble_eq_true rfl) (Rt_i r) ?_
  intro G h hL hR hret
  refine k_drop (lv' := [(0, .ref 73), (1, .int p1)]) [0, 1] rfl ?_
  unfold f_X9_next at hf
  refine k_aload_n (pc := 0) h dX9_next_0 rfl 0 rfl ?_
  refine k_getR (pc := 1) h fl_RX9_12 rfl rfl dX9_next_1 ?_
  refine k_iload_n (pc := 4) h dX9_next_4 rfl 1 rfl ?_
  obtain ⟨v1, cv1, hf⟩ := ob_s hf
  refine k_callVe (pc := 5) (em := em_LI) h cv_RX9_70 (c_X4_has p1 (rs em_LI s0) v1 cv1) emb_LI_X rfl rfl rfl (st1 := [.int v1]) rfl ⟨rfl, rfl⟩ (rk hR (Nat.le_of_ble_eq_true rfl) (Nat.le_of_ble_eq_true rfl)) (Nat.le_of_ble_eq_true rfl) dX9_next_5 (mg_rs em_LI s0) ?_
  refine k_if_ne (pc := 8) (tgt := 14) h dX9_next_8 rfl (fun hc => ?_) (fun hc => ?_)
  · have hf := it_n hc hf
    refine k_aload_n (pc := 14) h dX9_next_14 rfl 0 rfl ?_
    refine k_getR (pc := 15) h fl_RX9_21 rfl rfl dX9_next_15 ?_
    obtain ⟨s2, cs2, hf⟩ := ob_s hf
    obtain ⟨s3, es3, hf⟩ := lb_s hf
    refine k_callVe (pc := 18) (em := em_CK) h cv_RX9_120 (c_X0_examine  (rs em_CK s0) s2 cs2) emb_CK_X rfl rfl rfl (st1 := [.ref 10]) rfl ⟨rfl, rfl⟩ (rk hR (Nat.le_of_ble_eq_true rfl) (Nat.le_of_ble_eq_true rfl)) (Nat.le_of_ble_eq_true rfl) dX9_next_18 es3 ?_
    refine k_getR (pc := 21) h fl_RX9_124 rfl rfl dX9_next_21 ?_
    refine k_astore_n (pc := 24) h dX9_next_24 rfl (nk hL (by decide)) (lv' := [(0, .ref 73), (1, .int p1), (2, .ref 11)]) rfl ?_
    refine k_aload_n (pc := 25) h dX9_next_25 rfl 2 rfl ?_
    refine k_getR (pc := 26) h fl_RX9_128 rfl rfl dX9_next_26 ?_
    refine k_iload_n (pc := 29) h dX9_next_29 rfl 1 rfl ?_
    obtain ⟨g4, hf⟩ := gu_s hf
    refine k_iald (pc := 30) (n := 24) h rfl g4 dX9_next_30 ?_
    obtain ⟨v5, cv5, hf⟩ := ob_s hf
    refine k_callSp (pc := 31) h cs_RX9_133 (c_X9_bitOf (s3 12 (ix p1)) _ v5 cv5) rfl rfl (st1 := [.int v5]) rfl ⟨rfl, rfl⟩ (rk hR (Nat.le_of_ble_eq_true rfl) (Nat.le_of_ble_eq_true rfl)) (Nat.le_of_ble_eq_true rfl) dX9_next_31 ?_
    refine k_aload_n (pc := 34) h dX9_next_34 rfl 2 rfl ?_
    refine k_getR (pc := 35) h fl_RX9_136 rfl rfl dX9_next_35 ?_
    refine k_iload_n (pc := 38) h dX9_next_38 rfl 1 rfl ?_
    obtain ⟨g6, hf⟩ := gu_s hf
    refine k_iald (pc := 39) (n := 24) h rfl g6 dX9_next_39 ?_
    obtain ⟨v7, cv7, hf⟩ := ob_s hf
    refine k_callSp (pc := 40) h cs_RX9_133 (c_X9_bitOf (s3 13 (ix p1)) _ v7 cv7) rfl rfl (st1 := [.int v7, .int v5]) rfl ⟨rfl, rfl⟩ (rk hR (Nat.le_of_ble_eq_true rfl) (Nat.le_of_ble_eq_true rfl)) (Nat.le_of_ble_eq_true rfl) dX9_next_40 ?_
    refine k_ior (pc := 43) h dX9_next_43 ?_
    obtain ⟨rfl, rfl⟩ := so2 hf
    exact hret 44 _ dX9_next_44 trivial
  · have hf := it_p hc hf
    refine k_bipush (pc := 11) h dX9_next_11 kc_bipush_m2 ?_
    obtain ⟨rfl, rfl⟩ := so2 hf
    exact hret 13 _ dX9_next_13 trivial
theorem dX9_reached_0 : decode cX9_reached 0 = .ok (.aload_n 0, 1) := by decide +kernel
theorem dX9_reached_1 : decode cX9_reached 1 = .ok (.getfield 21, 3) := by decide +kernel
theorem dX9_reached_4 : decode cX9_reached 4 = .ok (.invokevirtual 120, 3) := by decide +kernel
theorem dX9_reached_7 : decode cX9_reached 7 = .ok (.getfield 124, 3) := by decide +kernel
theorem dX9_reached_10 : decode cX9_reached 10 = .ok (.getfield 139, 3) := by decide +kernel
theorem dX9_reached_13 : decode cX9_reached 13 = .ok (.ireturn, 1) := by decide +kernel
def f_X9_reached  (s0 : sh_S) : Option (Int32 × sh_S) := ob (f_X0_examine  (rs em_CK s0)) (fun s1 => lb (mg em_CK 0 s0 s1) (fun s2 => some ((s2 11 8), s2)))
set_option maxRecDepth 100000 in
set_option maxHeartbeats 4000000 in
theorem c_X9_reached  (s0 : sh_S) (r : Int32) (s9x : sh_S) (hf : f_X9_reached  s0 = some (r, s9x)) : Ctr yX9_reached cX9_reached 1 (some .int) ({ frames := 4, cells := 0, slots := 0, locals := 129 } : Room) shX [.ref 73] s0 (some (.int r)) s9x := by
  refine Ctr.mk (ri := .ireturn) (by decide) (Nat.le_of_ble_eq_true rfl) (Rt_i r) ?_
  intro G h hL hR hret
  refine k_drop (lv' := [(0, .ref 73)]) [0] rfl ?_
  unfold f_X9_reached at hf
  refine k_aload_n (pc := 0) h dX9_reached_0 rfl 0 rfl ?_
  refine k_getR (pc := 1) h fl_RX9_21 rfl rfl dX9_reached_1 ?_
  obtain ⟨s1, cs1, hf⟩ := ob_s hf
  obtain ⟨s2, es2, hf⟩ := lb_s hf
  refine k_callVe (pc := 4) (em := em_CK) h cv_RX9_120 (c_X0_examine  (rs em_CK s0) s1 cs1) emb_CK_X rfl rfl rfl (st1 := [.ref 10]) rfl ⟨rfl, rfl⟩ (rk hR (Nat.le_of_ble_eq_true rfl) (Nat.le_of_ble_eq_true rfl)) (Nat.le_of_ble_eq_true rfl) dX9_reached_4 es2 ?_
  refine k_getR (pc := 7) h fl_RX9_124 rfl rfl dX9_reached_7 ?_
  refine k_getI (pc := 10) h fl_RX9_139 rfl rfl dX9_reached_10 ?_
  obtain ⟨rfl, rfl⟩ := so2 hf
  exact hret 13 _ dX9_reached_13 trivial
theorem dX9_live_0 : decode cX9_live 0 = .ok (.iload_n 1, 1) := by decide +kernel
theorem dX9_live_1 : decode cX9_live 1 = .ok (.invokestatic 113, 3) := by decide +kernel
theorem dX9_live_4 : decode cX9_live 4 = .ok (.ifCond .eq 20, 3) := by decide +kernel
theorem dX9_live_7 : decode cX9_live 7 = .ok (.aload_n 0, 1) := by decide +kernel
theorem dX9_live_8 : decode cX9_live 8 = .ok (.getfield 21, 3) := by decide +kernel
theorem dX9_live_11 : decode cX9_live 11 = .ok (.invokevirtual 120, 3) := by decide +kernel
theorem dX9_live_14 : decode cX9_live 14 = .ok (.getfield 124, 3) := by decide +kernel
theorem dX9_live_17 : decode cX9_live 17 = .ok (.iload_n 1, 1) := by decide +kernel
theorem dX9_live_18 : decode cX9_live 18 = .ok (.invokevirtual 142, 3) := by decide +kernel
theorem dX9_live_21 : decode cX9_live 21 = .ok (.goto 5, 3) := by decide +kernel
theorem dX9_live_24 : decode cX9_live 24 = .ok (.bipush (-2), 2) := by decide +kernel
theorem dX9_live_26 : decode cX9_live 26 = .ok (.ireturn, 1) := by decide +kernel
def f_X9_live (p1 : Int32) (s0 : sh_S) : Option (Int32 × sh_S) := ob (f_X9_isVariable p1) (fun v1 => ob2 (if v1 = 0 then some ((-2 : Int32), s0) else ob (f_X0_examine  (rs em_CK s0)) (fun s4 => lb (mg em_CK 0 s0 s4) (fun s5 => ob (f_X2_livePoints p1 (rs em_CK s5)) (fun v6 => some (v6, s5))))) (fun v2 s3 => some (v2, s3)))
set_option maxRecDepth 100000 in
set_option maxHeartbeats 4000000 in
theorem c_X9_live (p1 : Int32) (s0 : sh_S) (r : Int32) (s9x : sh_S) (hf : f_X9_live p1 s0 = some (r, s9x)) : Ctr yX9_live cX9_live 2 (some .int) ({ frames := 4, cells := 0, slots := 0, locals := 129 } : Room) shX [.ref 73, .int p1] s0 (some (.int r)) s9x := by
  refine Ctr.mk (ri := .ireturn) (by decide) (Nat.le_of_ble_eq_true rfl) (Rt_i r) ?_
  intro G h hL hR hret
  refine k_drop (lv' := [(0, .ref 73), (1, .int p1)]) [0, 1] rfl ?_
  unfold f_X9_live at hf
  refine k_iload_n (pc := 0) h dX9_live_0 rfl 1 rfl ?_
  obtain ⟨v1, cv1, hf⟩ := ob_s hf
  refine k_callSp (pc := 1) h cs_RX9_113 (c_X9_isVariable p1 _ v1 cv1) rfl rfl (st1 := [.int v1]) rfl ⟨rfl, rfl⟩ (rk hR (Nat.le_of_ble_eq_true rfl) (Nat.le_of_ble_eq_true rfl)) (Nat.le_of_ble_eq_true rfl) dX9_live_1 ?_
  obtain ⟨v2, s3, hj, hf⟩ := ob2_s hf
  have kj4 : sh_K G shX 26 [] [.int v2] s3 := by
    obtain ⟨rfl, rfl⟩ := so2 hf
    exact hret 26 _ dX9_live_26 trivial
  clear hf
  have hf := hj
  clear hj
  refine k_if_eq (pc := 4) (tgt := 24) h dX9_live_4 rfl (fun hc => ?_) (fun hc => ?_)
  · have hf := it_p hc hf
    refine k_bipush (pc := 24) h dX9_live_24 kc_bipush_m2 ?_
    obtain ⟨rfl, rfl⟩ := so2 hf
    exact k_drop [] rfl kj4
  · have hf := it_n hc hf
    refine k_aload_n (pc := 7) h dX9_live_7 rfl 0 rfl ?_
    refine k_getR (pc := 8) h fl_RX9_21 rfl rfl dX9_live_8 ?_
    obtain ⟨s4, cs4, hf⟩ := ob_s hf
    obtain ⟨s5, es5, hf⟩ := lb_s hf
    refine k_callVe (pc := 11) (em := em_CK) h cv_RX9_120 (c_X0_examine  (rs em_CK s0) s4 cs4) emb_CK_X rfl rfl rfl (st1 := [.ref 10]) rfl ⟨rfl, rfl⟩ (rk hR (Nat.le_of_ble_eq_true rfl) (Nat.le_of_ble_eq_true rfl)) (Nat.le_of_ble_eq_true rfl) dX9_live_11 es5 ?_
    refine k_getR (pc := 14) h fl_RX9_124 rfl rfl dX9_live_14 ?_
    refine k_iload_n (pc := 17) h dX9_live_17 rfl 1 rfl ?_
    obtain ⟨v6, cv6, hf⟩ := ob_s hf
    refine k_callVe (pc := 18) (em := em_CK) h cv_RX9_142 (c_X2_livePoints p1 (rs em_CK s5) v6 cv6) emb_CK_X rfl rfl rfl (st1 := [.int v6]) rfl ⟨rfl, rfl⟩ (rk hR (Nat.le_of_ble_eq_true rfl) (Nat.le_of_ble_eq_true rfl)) (Nat.le_of_ble_eq_true rfl) dX9_live_18 (mg_rs em_CK s5) ?_
    refine k_goto (pc := 21) (tgt := 26) h dX9_live_21 rfl ?_
    obtain ⟨rfl, rfl⟩ := so2 hf
    exact k_drop [] rfl kj4
theorem dX9_region_0 : decode cX9_region 0 = .ok (.iload_n 1, 1) := by decide +kernel
theorem dX9_region_1 : decode cX9_region 1 = .ok (.invokestatic 113, 3) := by decide +kernel
theorem dX9_region_4 : decode cX9_region 4 = .ok (.ifCond .eq 21, 3) := by decide +kernel
theorem dX9_region_7 : decode cX9_region 7 = .ok (.aload_n 0, 1) := by decide +kernel
theorem dX9_region_8 : decode cX9_region 8 = .ok (.getfield 21, 3) := by decide +kernel
theorem dX9_region_11 : decode cX9_region 11 = .ok (.invokevirtual 120, 3) := by decide +kernel
theorem dX9_region_14 : decode cX9_region 14 = .ok (.getfield 124, 3) := by decide +kernel
theorem dX9_region_17 : decode cX9_region 17 = .ok (.getfield 145, 3) := by decide +kernel
theorem dX9_region_20 : decode cX9_region 20 = .ok (.iload_n 1, 1) := by decide +kernel
theorem dX9_region_21 : decode cX9_region 21 = .ok (.iaload, 1) := by decide +kernel
theorem dX9_region_22 : decode cX9_region 22 = .ok (.goto 5, 3) := by decide +kernel
theorem dX9_region_25 : decode cX9_region 25 = .ok (.bipush (-2), 2) := by decide +kernel
theorem dX9_region_27 : decode cX9_region 27 = .ok (.ireturn, 1) := by decide +kernel
def f_X9_region (p1 : Int32) (s0 : sh_S) : Option (Int32 × sh_S) := ob (f_X9_isVariable p1) (fun v1 => ob2 (if v1 = 0 then some ((-2 : Int32), s0) else ob (f_X0_examine  (rs em_CK s0)) (fun s4 => lb (mg em_CK 0 s0 s4) (fun s5 => gu (inb p1 8) (some ((s5 18 (ix p1)), s5))))) (fun v2 s3 => some (v2, s3)))
set_option maxRecDepth 100000 in
set_option maxHeartbeats 4000000 in
theorem c_X9_region (p1 : Int32) (s0 : sh_S) (r : Int32) (s9x : sh_S) (hf : f_X9_region p1 s0 = some (r, s9x)) : Ctr yX9_region cX9_region 2 (some .int) ({ frames := 4, cells := 0, slots := 0, locals := 129 } : Room) shX [.ref 73, .int p1] s0 (some (.int r)) s9x := by
  refine Ctr.mk (ri := .ireturn) (by decide) (Nat.le_of_ble_eq_true rfl) (Rt_i r) ?_
  intro G h hL hR hret
  refine k_drop (lv' := [(0, .ref 73), (1, .int p1)]) [0, 1] rfl ?_
  unfold f_X9_region at hf
  refine k_iload_n (pc := 0) h dX9_region_0 rfl 1 rfl ?_
  obtain ⟨v1, cv1, hf⟩ := ob_s hf
  refine k_callSp (pc := 1) h cs_RX9_113 (c_X9_isVariable p1 _ v1 cv1) rfl rfl (st1 := [.int v1]) rfl ⟨rfl, rfl⟩ (rk hR (Nat.le_of_ble_eq_true rfl) (Nat.le_of_ble_eq_true rfl)) (Nat.le_of_ble_eq_true rfl) dX9_region_1 ?_
  obtain ⟨v2, s3, hj, hf⟩ := ob2_s hf
  have kj4 : sh_K G shX 27 [] [.int v2] s3 := by
    obtain ⟨rfl, rfl⟩ := so2 hf
    exact hret 27 _ dX9_region_27 trivial
  clear hf
  have hf := hj
  clear hj
  refine k_if_eq (pc := 4) (tgt := 25) h dX9_region_4 rfl (fun hc => ?_) (fun hc => ?_)
  · have hf := it_p hc hf
    refine k_bipush (pc := 25) h dX9_region_25 kc_bipush_m2 ?_
    obtain ⟨rfl, rfl⟩ := so2 hf
    exact k_drop [] rfl kj4
  · have hf := it_n hc hf
    refine k_aload_n (pc := 7) h dX9_region_7 rfl 0 rfl ?_
    refine k_getR (pc := 8) h fl_RX9_21 rfl rfl dX9_region_8 ?_
    obtain ⟨s4, cs4, hf⟩ := ob_s hf
    obtain ⟨s5, es5, hf⟩ := lb_s hf
    refine k_callVe (pc := 11) (em := em_CK) h cv_RX9_120 (c_X0_examine  (rs em_CK s0) s4 cs4) emb_CK_X rfl rfl rfl (st1 := [.ref 10]) rfl ⟨rfl, rfl⟩ (rk hR (Nat.le_of_ble_eq_true rfl) (Nat.le_of_ble_eq_true rfl)) (Nat.le_of_ble_eq_true rfl) dX9_region_11 es5 ?_
    refine k_getR (pc := 14) h fl_RX9_124 rfl rfl dX9_region_14 ?_
    refine k_getR (pc := 17) h fl_RX9_145 rfl rfl dX9_region_17 ?_
    refine k_iload_n (pc := 20) h dX9_region_20 rfl 1 rfl ?_
    obtain ⟨g6, hf⟩ := gu_s hf
    refine k_iald (pc := 21) (n := 8) h rfl g6 dX9_region_21 ?_
    refine k_goto (pc := 22) (tgt := 27) h dX9_region_22 rfl ?_
    obtain ⟨rfl, rfl⟩ := so2 hf
    exact k_drop [] rfl kj4
theorem dX9_holds_0 : decode cX9_holds 0 = .ok (.aload_n 0, 1) := by decide +kernel
theorem dX9_holds_1 : decode cX9_holds 1 = .ok (.getfield 12, 3) := by decide +kernel
theorem dX9_holds_4 : decode cX9_holds 4 = .ok (.iload_n 1, 1) := by decide +kernel
theorem dX9_holds_5 : decode cX9_holds 5 = .ok (.invokevirtual 70, 3) := by decide +kernel
theorem dX9_holds_8 : decode cX9_holds 8 = .ok (.ifCond .eq 10, 3) := by decide +kernel
theorem dX9_holds_11 : decode cX9_holds 11 = .ok (.iload_n 2, 1) := by decide +kernel
theorem dX9_holds_12 : decode cX9_holds 12 = .ok (.invokestatic 113, 3) := by decide +kernel
theorem dX9_holds_15 : decode cX9_holds 15 = .ok (.ifCond .ne 6, 3) := by decide +kernel
theorem dX9_holds_18 : decode cX9_holds 18 = .ok (.bipush (-2), 2) := by decide +kernel
theorem dX9_holds_20 : decode cX9_holds 20 = .ok (.ireturn, 1) := by decide +kernel
theorem dX9_holds_21 : decode cX9_holds 21 = .ok (.aload_n 0, 1) := by decide +kernel
theorem dX9_holds_22 : decode cX9_holds 22 = .ok (.getfield 21, 3) := by decide +kernel
theorem dX9_holds_25 : decode cX9_holds 25 = .ok (.invokevirtual 120, 3) := by decide +kernel
theorem dX9_holds_28 : decode cX9_holds 28 = .ok (.getfield 148, 3) := by decide +kernel
theorem dX9_holds_31 : decode cX9_holds 31 = .ok (.getfield 152, 3) := by decide +kernel
theorem dX9_holds_34 : decode cX9_holds 34 = .ok (.iload_n 1, 1) := by decide +kernel
theorem dX9_holds_35 : decode cX9_holds 35 = .ok (.bipush 8, 2) := by decide +kernel
theorem dX9_holds_37 : decode cX9_holds 37 = .ok (.imul, 1) := by decide +kernel
theorem dX9_holds_38 : decode cX9_holds 38 = .ok (.iload_n 2, 1) := by decide +kernel
theorem dX9_holds_39 : decode cX9_holds 39 = .ok (.iadd, 1) := by decide +kernel
theorem dX9_holds_40 : decode cX9_holds 40 = .ok (.iaload, 1) := by decide +kernel
theorem dX9_holds_41 : decode cX9_holds 41 = .ok (.ireturn, 1) := by decide +kernel
def f_X9_holds (p1 : Int32) (p2 : Int32) (s0 : sh_S) : Option (Int32 × sh_S) := ob (f_X4_has p1 (rs em_LI s0)) (fun v1 => (if v1 = 0 then some ((-2 : Int32), s0) else ob (f_X9_isVariable p2) (fun v2 => (if v2 = 0 then some ((-2 : Int32), s0) else ob (f_X0_examine  (rs em_CK s0)) (fun s3 => lb (mg em_CK 0 s0 s3) (fun s4 => gu (inb ((p1 * (8 : Int32)) + p2) 192) (some ((s4 20 (ix ((p1 * (8 : Int32)) + p2))), s4))))))))
set_option maxRecDepth 100000 in
set_option maxHeartbeats 4000000 in
theorem c_X9_holds (p1 : Int32) (p2 : Int32) (s0 : sh_S) (r : Int32) (s9x : sh_S) (hf : f_X9_holds p1 p2 s0 = some (r, s9x)) : Ctr yX9_holds cX9_holds 3 (some .int) ({ frames := 4, cells := 0, slots := 0, locals := 129 } : Room) shX [.ref 73, .int p1, .int p2] s0 (some (.int r)) s9x := by
  refine Ctr.mk (ri := .ireturn) (by decide) (Nat.le_of_ble_eq_true rfl) (Rt_i r) ?_
  intro G h hL hR hret
  refine k_drop (lv' := [(0, .ref 73), (1, .int p1), (2, .int p2)]) [0, 1, 2] rfl ?_
  unfold f_X9_holds at hf
  refine k_aload_n (pc := 0) h dX9_holds_0 rfl 0 rfl ?_
  refine k_getR (pc := 1) h fl_RX9_12 rfl rfl dX9_holds_1 ?_
  refine k_iload_n (pc := 4) h dX9_holds_4 rfl 1 rfl ?_
  obtain ⟨v1, cv1, hf⟩ := ob_s hf
  refine k_callVe (pc := 5) (em := em_LI) h cv_RX9_70 (c_X4_has p1 (rs em_LI s0) v1 cv1) emb_LI_X rfl rfl rfl (st1 := [.int v1]) rfl ⟨rfl, rfl⟩ (rk hR (Nat.le_of_ble_eq_true rfl) (Nat.le_of_ble_eq_true rfl)) (Nat.le_of_ble_eq_true rfl) dX9_holds_5 (mg_rs em_LI s0) ?_
  refine k_if_eq (pc := 8) (tgt := 18) h dX9_holds_8 rfl (fun hc => ?_) (fun hc => ?_)
  · have hf := it_p hc hf
    refine k_bipush (pc := 18) h dX9_holds_18 kc_bipush_m2 ?_
    obtain ⟨rfl, rfl⟩ := so2 hf
    exact hret 20 _ dX9_holds_20 trivial
  · have hf := it_n hc hf
    refine k_iload_n (pc := 11) h dX9_holds_11 rfl 2 rfl ?_
    obtain ⟨v2, cv2, hf⟩ := ob_s hf
    refine k_callSp (pc := 12) h cs_RX9_113 (c_X9_isVariable p2 _ v2 cv2) rfl rfl (st1 := [.int v2]) rfl ⟨rfl, rfl⟩ (rk hR (Nat.le_of_ble_eq_true rfl) (Nat.le_of_ble_eq_true rfl)) (Nat.le_of_ble_eq_true rfl) dX9_holds_12 ?_
    refine k_if_ne (pc := 15) (tgt := 21) h dX9_holds_15 rfl (fun hc => ?_) (fun hc => ?_)
    · have hf := it_n hc hf
      refine k_aload_n (pc := 21) h dX9_holds_21 rfl 0 rfl ?_
      refine k_getR (pc := 22) h fl_RX9_21 rfl rfl dX9_holds_22 ?_
      obtain ⟨s3, cs3, hf⟩ := ob_s hf
      obtain ⟨s4, es4, hf⟩ := lb_s hf
      refine k_callVe (pc := 25) (em := em_CK) h cv_RX9_120 (c_X0_examine  (rs em_CK s0) s3 cs3) emb_CK_X rfl rfl rfl (st1 := [.ref 10]) rfl ⟨rfl, rfl⟩ (rk hR (Nat.le_of_ble_eq_true rfl) (Nat.le_of_ble_eq_true rfl)) (Nat.le_of_ble_eq_true rfl) dX9_holds_25 es4 ?_
      refine k_getR (pc := 28) h fl_RX9_148 rfl rfl dX9_holds_28 ?_
      refine k_getR (pc := 31) h fl_RX9_152 rfl rfl dX9_holds_31 ?_
      refine k_iload_n (pc := 34) h dX9_holds_34 rfl 1 rfl ?_
      refine k_bipush (pc := 35) h dX9_holds_35 kc_bipush_8 ?_
      refine k_imul (pc := 37) h dX9_holds_37 ?_
      refine k_iload_n (pc := 38) h dX9_holds_38 rfl 2 rfl ?_
      refine k_iadd (pc := 39) h dX9_holds_39 ?_
      obtain ⟨g5, hf⟩ := gu_s hf
      refine k_iald (pc := 40) (n := 192) h rfl g5 dX9_holds_40 ?_
      obtain ⟨rfl, rfl⟩ := so2 hf
      exact hret 41 _ dX9_holds_41 trivial
    · have hf := it_p hc hf
      refine k_bipush (pc := 18) h dX9_holds_18 kc_bipush_m2 ?_
      obtain ⟨rfl, rfl⟩ := so2 hf
      exact hret 20 _ dX9_holds_20 trivial
theorem dX9_loans_0 : decode cX9_loans 0 = .ok (.aload_n 0, 1) := by decide +kernel
theorem dX9_loans_1 : decode cX9_loans 1 = .ok (.getfield 21, 3) := by decide +kernel
theorem dX9_loans_4 : decode cX9_loans 4 = .ok (.invokevirtual 120, 3) := by decide +kernel
theorem dX9_loans_7 : decode cX9_loans 7 = .ok (.getfield 148, 3) := by decide +kernel
theorem dX9_loans_10 : decode cX9_loans 10 = .ok (.getfield 157, 3) := by decide +kernel
theorem dX9_loans_13 : decode cX9_loans 13 = .ok (.ireturn, 1) := by decide +kernel
def f_X9_loans  (s0 : sh_S) : Option (Int32 × sh_S) := ob (f_X0_examine  (rs em_CK s0)) (fun s1 => lb (mg em_CK 0 s0 s1) (fun s2 => some ((s2 19 0), s2)))
set_option maxRecDepth 100000 in
set_option maxHeartbeats 4000000 in
theorem c_X9_loans  (s0 : sh_S) (r : Int32) (s9x : sh_S) (hf : f_X9_loans  s0 = some (r, s9x)) : Ctr yX9_loans cX9_loans 1 (some .int) ({ frames := 4, cells := 0, slots := 0, locals := 129 } : Room) shX [.ref 73] s0 (some (.int r)) s9x := by
  refine Ctr.mk (ri := .ireturn) (by decide) (Nat.le_of_ble_eq_true rfl) (Rt_i r) ?_
  intro G h hL hR hret
  refine k_drop (lv' := [(0, .ref 73)]) [0] rfl ?_
  unfold f_X9_loans at hf
  refine k_aload_n (pc := 0) h dX9_loans_0 rfl 0 rfl ?_
  refine k_getR (pc := 1) h fl_RX9_21 rfl rfl dX9_loans_1 ?_
  obtain ⟨s1, cs1, hf⟩ := ob_s hf
  obtain ⟨s2, es2, hf⟩ := lb_s hf
  refine k_callVe (pc := 4) (em := em_CK) h cv_RX9_120 (c_X0_examine  (rs em_CK s0) s1 cs1) emb_CK_X rfl rfl rfl (st1 := [.ref 10]) rfl ⟨rfl, rfl⟩ (rk hR (Nat.le_of_ble_eq_true rfl) (Nat.le_of_ble_eq_true rfl)) (Nat.le_of_ble_eq_true rfl) dX9_loans_4 es2 ?_
  refine k_getR (pc := 7) h fl_RX9_148 rfl rfl dX9_loans_7 ?_
  refine k_getI (pc := 10) h fl_RX9_157 rfl rfl dX9_loans_10 ?_
  obtain ⟨rfl, rfl⟩ := so2 hf
  exact hret 13 _ dX9_loans_13 trivial
theorem dX9_scope_0 : decode cX9_scope 0 = .ok (.aload_n 0, 1) := by decide +kernel
theorem dX9_scope_1 : decode cX9_scope 1 = .ok (.getfield 12, 3) := by decide +kernel
theorem dX9_scope_4 : decode cX9_scope 4 = .ok (.iload_n 1, 1) := by decide +kernel
theorem dX9_scope_5 : decode cX9_scope 5 = .ok (.invokevirtual 70, 3) := by decide +kernel
theorem dX9_scope_8 : decode cX9_scope 8 = .ok (.ifCond .eq 21, 3) := by decide +kernel
theorem dX9_scope_11 : decode cX9_scope 11 = .ok (.aload_n 0, 1) := by decide +kernel
theorem dX9_scope_12 : decode cX9_scope 12 = .ok (.getfield 21, 3) := by decide +kernel
theorem dX9_scope_15 : decode cX9_scope 15 = .ok (.invokevirtual 120, 3) := by decide +kernel
theorem dX9_scope_18 : decode cX9_scope 18 = .ok (.getfield 148, 3) := by decide +kernel
theorem dX9_scope_21 : decode cX9_scope 21 = .ok (.getfield 160, 3) := by decide +kernel
theorem dX9_scope_24 : decode cX9_scope 24 = .ok (.iload_n 1, 1) := by decide +kernel
theorem dX9_scope_25 : decode cX9_scope 25 = .ok (.iaload, 1) := by decide +kernel
theorem dX9_scope_26 : decode cX9_scope 26 = .ok (.goto 5, 3) := by decide +kernel
theorem dX9_scope_29 : decode cX9_scope 29 = .ok (.bipush (-2), 2) := by decide +kernel
theorem dX9_scope_31 : decode cX9_scope 31 = .ok (.ireturn, 1) := by decide +kernel
def f_X9_scope (p1 : Int32) (s0 : sh_S) : Option (Int32 × sh_S) := ob (f_X4_has p1 (rs em_LI s0)) (fun v1 => ob2 (if v1 = 0 then some ((-2 : Int32), s0) else ob (f_X0_examine  (rs em_CK s0)) (fun s4 => lb (mg em_CK 0 s0 s4) (fun s5 => gu (inb p1 24) (some ((s5 22 (ix p1)), s5))))) (fun v2 s3 => some (v2, s3)))
set_option maxRecDepth 100000 in
set_option maxHeartbeats 4000000 in
theorem c_X9_scope (p1 : Int32) (s0 : sh_S) (r : Int32) (s9x : sh_S) (hf : f_X9_scope p1 s0 = some (r, s9x)) : Ctr yX9_scope cX9_scope 2 (some .int) ({ frames := 4, cells := 0, slots := 0, locals := 129 } : Room) shX [.ref 73, .int p1] s0 (some (.int r)) s9x := by
  refine Ctr.mk (ri := .ireturn) (by decide) (Nat.le_of_ble_eq_true rfl) (Rt_i r) ?_
  intro G h hL hR hret
  refine k_drop (lv' := [(0, .ref 73), (1, .int p1)]) [0, 1] rfl ?_
  unfold f_X9_scope at hf
  refine k_aload_n (pc := 0) h dX9_scope_0 rfl 0 rfl ?_
  refine k_getR (pc := 1) h fl_RX9_12 rfl rfl dX9_scope_1 ?_
  refine k_iload_n (pc := 4) h dX9_scope_4 rfl 1 rfl ?_
  obtain ⟨v1, cv1, hf⟩ := ob_s hf
  refine k_callVe (pc := 5) (em := em_LI) h cv_RX9_70 (c_X4_has p1 (rs em_LI s0) v1 cv1) emb_LI_X rfl rfl rfl (st1 := [.int v1]) rfl ⟨rfl, rfl⟩ (rk hR (Nat.le_of_ble_eq_true rfl) (Nat.le_of_ble_eq_true rfl)) (Nat.le_of_ble_eq_true rfl) dX9_scope_5 (mg_rs em_LI s0) ?_
  obtain ⟨v2, s3, hj, hf⟩ := ob2_s hf
  have kj8 : sh_K G shX 31 [] [.int v2] s3 := by
    obtain ⟨rfl, rfl⟩ := so2 hf
    exact hret 31 _ dX9_scope_31 trivial
  clear hf
  have hf := hj
  clear hj
  refine k_if_eq (pc := 8) (tgt := 29) h dX9_scope_8 rfl (fun hc => ?_) (fun hc => ?_)
  · have hf := it_p hc hf
    refine k_bipush (pc := 29) h dX9_scope_29 kc_bipush_m2 ?_
    obtain ⟨rfl, rfl⟩ := so2 hf
    exact k_drop [] rfl kj8
  · have hf := it_n hc hf
    refine k_aload_n (pc := 11) h dX9_scope_11 rfl 0 rfl ?_
    refine k_getR (pc := 12) h fl_RX9_21 rfl rfl dX9_scope_12 ?_
    obtain ⟨s4, cs4, hf⟩ := ob_s hf
    obtain ⟨s5, es5, hf⟩ := lb_s hf
    refine k_callVe (pc := 15) (em := em_CK) h cv_RX9_120 (c_X0_examine  (rs em_CK s0) s4 cs4) emb_CK_X rfl rfl rfl (st1 := [.ref 10]) rfl ⟨rfl, rfl⟩ (rk hR (Nat.le_of_ble_eq_true rfl) (Nat.le_of_ble_eq_true rfl)) (Nat.le_of_ble_eq_true rfl) dX9_scope_15 es5 ?_
    refine k_getR (pc := 18) h fl_RX9_148 rfl rfl dX9_scope_18 ?_
    refine k_getR (pc := 21) h fl_RX9_160 rfl rfl dX9_scope_21 ?_
    refine k_iload_n (pc := 24) h dX9_scope_24 rfl 1 rfl ?_
    obtain ⟨g6, hf⟩ := gu_s hf
    refine k_iald (pc := 25) (n := 24) h rfl g6 dX9_scope_25 ?_
    refine k_goto (pc := 26) (tgt := 31) h dX9_scope_26 rfl ?_
    obtain ⟨rfl, rfl⟩ := so2 hf
    exact k_drop [] rfl kj8
theorem dX9_active_0 : decode cX9_active 0 = .ok (.aload_n 0, 1) := by decide +kernel
theorem dX9_active_1 : decode cX9_active 1 = .ok (.getfield 12, 3) := by decide +kernel
theorem dX9_active_4 : decode cX9_active 4 = .ok (.iload_n 1, 1) := by decide +kernel
theorem dX9_active_5 : decode cX9_active 5 = .ok (.invokevirtual 70, 3) := by decide +kernel
theorem dX9_active_8 : decode cX9_active 8 = .ok (.ifCond .eq 21, 3) := by decide +kernel
theorem dX9_active_11 : decode cX9_active 11 = .ok (.aload_n 0, 1) := by decide +kernel
theorem dX9_active_12 : decode cX9_active 12 = .ok (.getfield 21, 3) := by decide +kernel
theorem dX9_active_15 : decode cX9_active 15 = .ok (.invokevirtual 120, 3) := by decide +kernel
theorem dX9_active_18 : decode cX9_active 18 = .ok (.getfield 148, 3) := by decide +kernel
theorem dX9_active_21 : decode cX9_active 21 = .ok (.getfield 163, 3) := by decide +kernel
theorem dX9_active_24 : decode cX9_active 24 = .ok (.iload_n 1, 1) := by decide +kernel
theorem dX9_active_25 : decode cX9_active 25 = .ok (.iaload, 1) := by decide +kernel
theorem dX9_active_26 : decode cX9_active 26 = .ok (.goto 5, 3) := by decide +kernel
theorem dX9_active_29 : decode cX9_active 29 = .ok (.bipush (-2), 2) := by decide +kernel
theorem dX9_active_31 : decode cX9_active 31 = .ok (.ireturn, 1) := by decide +kernel
def f_X9_active (p1 : Int32) (s0 : sh_S) : Option (Int32 × sh_S) := ob (f_X4_has p1 (rs em_LI s0)) (fun v1 => ob2 (if v1 = 0 then some ((-2 : Int32), s0) else ob (f_X0_examine  (rs em_CK s0)) (fun s4 => lb (mg em_CK 0 s0 s4) (fun s5 => gu (inb p1 24) (some ((s5 23 (ix p1)), s5))))) (fun v2 s3 => some (v2, s3)))
set_option maxRecDepth 100000 in
set_option maxHeartbeats 4000000 in
theorem c_X9_active (p1 : Int32) (s0 : sh_S) (r : Int32) (s9x : sh_S) (hf : f_X9_active p1 s0 = some (r, s9x)) : Ctr yX9_active cX9_active 2 (some .int) ({ frames := 4, cells := 0, slots := 0, locals := 129 } : Room) shX [.ref 73, .int p1] s0 (some (.int r)) s9x := by
  refine Ctr.mk (ri := .ireturn) (by decide) (Nat.le_of_ble_eq_true rfl) (Rt_i r) ?_
  intro G h hL hR hret
  refine k_drop (lv' := [(0, .ref 73), (1, .int p1)]) [0, 1] rfl ?_
  unfold f_X9_active at hf
  refine k_aload_n (pc := 0) h dX9_active_0 rfl 0 rfl ?_
  refine k_getR (pc := 1) h fl_RX9_12 rfl rfl dX9_active_1 ?_
  refine k_iload_n (pc := 4) h dX9_active_4 rfl 1 rfl ?_
  obtain ⟨v1, cv1, hf⟩ := ob_s hf
  refine k_callVe (pc := 5) (em := em_LI) h cv_RX9_70 (c_X4_has p1 (rs em_LI s0) v1 cv1) emb_LI_X rfl rfl rfl (st1 := [.int v1]) rfl ⟨rfl, rfl⟩ (rk hR (Nat.le_of_ble_eq_true rfl) (Nat.le_of_ble_eq_true rfl)) (Nat.le_of_ble_eq_true rfl) dX9_active_5 (mg_rs em_LI s0) ?_
  obtain ⟨v2, s3, hj, hf⟩ := ob2_s hf
  have kj8 : sh_K G shX 31 [] [.int v2] s3 := by
    obtain ⟨rfl, rfl⟩ := so2 hf
    exact hret 31 _ dX9_active_31 trivial
  clear hf
  have hf := hj
  clear hj
  refine k_if_eq (pc := 8) (tgt := 29) h dX9_active_8 rfl (fun hc => ?_) (fun hc => ?_)
  · have hf := it_p hc hf
    refine k_bipush (pc := 29) h dX9_active_29 kc_bipush_m2 ?_
    obtain ⟨rfl, rfl⟩ := so2 hf
    exact k_drop [] rfl kj8
  · have hf := it_n hc hf
    refine k_aload_n (pc := 11) h dX9_active_11 rfl 0 rfl ?_
    refine k_getR (pc := 12) h fl_RX9_21 rfl rfl dX9_active_12 ?_
    obtain ⟨s4, cs4, hf⟩ := ob_s hf
    obtain ⟨s5, es5, hf⟩ := lb_s hf
    refine k_callVe (pc := 15) (em := em_CK) h cv_RX9_120 (c_X0_examine  (rs em_CK s0) s4 cs4) emb_CK_X rfl rfl rfl (st1 := [.ref 10]) rfl ⟨rfl, rfl⟩ (rk hR (Nat.le_of_ble_eq_true rfl) (Nat.le_of_ble_eq_true rfl)) (Nat.le_of_ble_eq_true rfl) dX9_active_15 es5 ?_
    refine k_getR (pc := 18) h fl_RX9_148 rfl rfl dX9_active_18 ?_
    refine k_getR (pc := 21) h fl_RX9_163 rfl rfl dX9_active_21 ?_
    refine k_iload_n (pc := 24) h dX9_active_24 rfl 1 rfl ?_
    obtain ⟨g6, hf⟩ := gu_s hf
    refine k_iald (pc := 25) (n := 24) h rfl g6 dX9_active_25 ?_
    refine k_goto (pc := 26) (tgt := 31) h dX9_active_26 rfl ?_
    obtain ⟨rfl, rfl⟩ := so2 hf
    exact k_drop [] rfl kj8
theorem dX9_bears_0 : decode cX9_bears 0 = .ok (.aload_n 0, 1) := by decide +kernel
theorem dX9_bears_1 : decode cX9_bears 1 = .ok (.getfield 12, 3) := by decide +kernel
theorem dX9_bears_4 : decode cX9_bears 4 = .ok (.iload_n 1, 1) := by decide +kernel
theorem dX9_bears_5 : decode cX9_bears 5 = .ok (.invokevirtual 70, 3) := by decide +kernel
theorem dX9_bears_8 : decode cX9_bears 8 = .ok (.ifCond .ne 6, 3) := by decide +kernel
theorem dX9_bears_11 : decode cX9_bears 11 = .ok (.bipush (-2), 2) := by decide +kernel
theorem dX9_bears_13 : decode cX9_bears 13 = .ok (.ireturn, 1) := by decide +kernel
theorem dX9_bears_14 : decode cX9_bears 14 = .ok (.aload_n 0, 1) := by decide +kernel
theorem dX9_bears_15 : decode cX9_bears 15 = .ok (.getfield 21, 3) := by decide +kernel
theorem dX9_bears_18 : decode cX9_bears 18 = .ok (.invokevirtual 120, 3) := by decide +kernel
theorem dX9_bears_21 : decode cX9_bears 21 = .ok (.getfield 148, 3) := by decide +kernel
theorem dX9_bears_24 : decode cX9_bears 24 = .ok (.getfield 157, 3) := by decide +kernel
theorem dX9_bears_27 : decode cX9_bears 27 = .ok (.iload_n 1, 1) := by decide +kernel
theorem dX9_bears_28 : decode cX9_bears 28 = .ok (.invokestatic 166, 3) := by decide +kernel
theorem dX9_bears_31 : decode cX9_bears 31 = .ok (.ifCond .ne 6, 3) := by decide +kernel
theorem dX9_bears_34 : decode cX9_bears 34 = .ok (.bipush (-3), 2) := by decide +kernel
theorem dX9_bears_36 : decode cX9_bears 36 = .ok (.ireturn, 1) := by decide +kernel
theorem dX9_bears_37 : decode cX9_bears 37 = .ok (.aload_n 0, 1) := by decide +kernel
theorem dX9_bears_38 : decode cX9_bears 38 = .ok (.getfield 21, 3) := by decide +kernel
theorem dX9_bears_41 : decode cX9_bears 41 = .ok (.getfield 124, 3) := by decide +kernel
theorem dX9_bears_44 : decode cX9_bears 44 = .ok (.aload_n 0, 1) := by decide +kernel
theorem dX9_bears_45 : decode cX9_bears 45 = .ok (.getfield 12, 3) := by decide +kernel
theorem dX9_bears_48 : decode cX9_bears 48 = .ok (.iload_n 1, 1) := by decide +kernel
theorem dX9_bears_49 : decode cX9_bears 49 = .ok (.invokevirtual 170, 3) := by decide +kernel
theorem dX9_bears_52 : decode cX9_bears 52 = .ok (.ireturn, 1) := by decide +kernel
def f_X9_bears (p1 : Int32) (s0 : sh_S) : Option (Int32 × sh_S) := ob (f_X4_has p1 (rs em_LI s0)) (fun v1 => (if v1 = 0 then some ((-2 : Int32), s0) else ob (f_X0_examine  (rs em_CK s0)) (fun s2 => lb (mg em_CK 0 s0 s2) (fun s3 => ob (f_X9_hasBit (s3 19 0) p1) (fun v4 => (if v4 = 0 then some ((-3 : Int32), s3) else ob (f_X2_bearers p1 (rs em_CK s3)) (fun v5 => some (v5, s3))))))))
set_option maxRecDepth 100000 in
set_option maxHeartbeats 4000000 in
theorem c_X9_bears (p1 : Int32) (s0 : sh_S) (r : Int32) (s9x : sh_S) (hf : f_X9_bears p1 s0 = some (r, s9x)) : Ctr yX9_bears cX9_bears 2 (some .int) ({ frames := 4, cells := 0, slots := 0, locals := 129 } : Room) shX [.ref 73, .int p1] s0 (some (.int r)) s9x := by
  refine Ctr.mk (ri := .ireturn) (by decide) (Nat.le_of_ble_eq_true rfl) (Rt_i r) ?_
  intro G h hL hR hret
  refine k_drop (lv' := [(0, .ref 73), (1, .int p1)]) [0, 1] rfl ?_
  unfold f_X9_bears at hf
  refine k_aload_n (pc := 0) h dX9_bears_0 rfl 0 rfl ?_
  refine k_getR (pc := 1) h fl_RX9_12 rfl rfl dX9_bears_1 ?_
  refine k_iload_n (pc := 4) h dX9_bears_4 rfl 1 rfl ?_
  obtain ⟨v1, cv1, hf⟩ := ob_s hf
  refine k_callVe (pc := 5) (em := em_LI) h cv_RX9_70 (c_X4_has p1 (rs em_LI s0) v1 cv1) emb_LI_X rfl rfl rfl (st1 := [.int v1]) rfl ⟨rfl, rfl⟩ (rk hR (Nat.le_of_ble_eq_true rfl) (Nat.le_of_ble_eq_true rfl)) (Nat.le_of_ble_eq_true rfl) dX9_bears_5 (mg_rs em_LI s0) ?_
  refine k_if_ne (pc := 8) (tgt := 14) h dX9_bears_8 rfl (fun hc => ?_) (fun hc => ?_)
  · have hf := it_n hc hf
    refine k_aload_n (pc := 14) h dX9_bears_14 rfl 0 rfl ?_
    refine k_getR (pc := 15) h fl_RX9_21 rfl rfl dX9_bears_15 ?_
    obtain ⟨s2, cs2, hf⟩ := ob_s hf
    obtain ⟨s3, es3, hf⟩ := lb_s hf
    refine k_callVe (pc := 18) (em := em_CK) h cv_RX9_120 (c_X0_examine  (rs em_CK s0) s2 cs2) emb_CK_X rfl rfl rfl (st1 := [.ref 10]) rfl ⟨rfl, rfl⟩ (rk hR (Nat.le_of_ble_eq_true rfl) (Nat.le_of_ble_eq_true rfl)) (Nat.le_of_ble_eq_true rfl) dX9_bears_18 es3 ?_
    refine k_getR (pc := 21) h fl_RX9_148 rfl rfl dX9_bears_21 ?_
    refine k_getI (pc := 24) h fl_RX9_157 rfl rfl dX9_bears_24 ?_
    refine k_iload_n (pc := 27) h dX9_bears_27 rfl 1 rfl ?_
    obtain ⟨v4, cv4, hf⟩ := ob_s hf
    refine k_callSp (pc := 28) h cs_RX9_166 (c_X9_hasBit (s3 19 0) p1 _ v4 cv4) rfl rfl (st1 := [.int v4]) rfl ⟨rfl, rfl⟩ (rk hR (Nat.le_of_ble_eq_true rfl) (Nat.le_of_ble_eq_true rfl)) (Nat.le_of_ble_eq_true rfl) dX9_bears_28 ?_
    refine k_if_ne (pc := 31) (tgt := 37) h dX9_bears_31 rfl (fun hc => ?_) (fun hc => ?_)
    · have hf := it_n hc hf
      refine k_aload_n (pc := 37) h dX9_bears_37 rfl 0 rfl ?_
      refine k_getR (pc := 38) h fl_RX9_21 rfl rfl dX9_bears_38 ?_
      refine k_getR (pc := 41) h fl_RX9_124 rfl rfl dX9_bears_41 ?_
      refine k_aload_n (pc := 44) h dX9_bears_44 rfl 0 rfl ?_
      refine k_getR (pc := 45) h fl_RX9_12 rfl rfl dX9_bears_45 ?_
      refine k_iload_n (pc := 48) h dX9_bears_48 rfl 1 rfl ?_
      obtain ⟨v5, cv5, hf⟩ := ob_s hf
      refine k_callVe (pc := 49) (em := em_CK) h cv_RX9_170 (c_X2_bearers p1 (rs em_CK s3) v5 cv5) emb_CK_X rfl rfl rfl (st1 := [.int v5]) rfl ⟨rfl, rfl⟩ (rk hR (Nat.le_of_ble_eq_true rfl) (Nat.le_of_ble_eq_true rfl)) (Nat.le_of_ble_eq_true rfl) dX9_bears_49 (mg_rs em_CK s3) ?_
      obtain ⟨rfl, rfl⟩ := so2 hf
      exact hret 52 _ dX9_bears_52 trivial
    · have hf := it_p hc hf
      refine k_bipush (pc := 34) h dX9_bears_34 kc_bipush_m3 ?_
      obtain ⟨rfl, rfl⟩ := so2 hf
      exact hret 36 _ dX9_bears_36 trivial
  · have hf := it_p hc hf
    refine k_bipush (pc := 11) h dX9_bears_11 kc_bipush_m2 ?_
    obtain ⟨rfl, rfl⟩ := so2 hf
    exact hret 13 _ dX9_bears_13 trivial
theorem dX9_errors_0 : decode cX9_errors 0 = .ok (.aload_n 0, 1) := by decide +kernel
theorem dX9_errors_1 : decode cX9_errors 1 = .ok (.getfield 21, 3) := by decide +kernel
theorem dX9_errors_4 : decode cX9_errors 4 = .ok (.invokevirtual 120, 3) := by decide +kernel
theorem dX9_errors_7 : decode cX9_errors 7 = .ok (.getfield 174, 3) := by decide +kernel
theorem dX9_errors_10 : decode cX9_errors 10 = .ok (.getfield 178, 3) := by decide +kernel
theorem dX9_errors_13 : decode cX9_errors 13 = .ok (.ireturn, 1) := by decide +kernel
def f_X9_errors  (s0 : sh_S) : Option (Int32 × sh_S) := ob (f_X0_examine  (rs em_CK s0)) (fun s1 => lb (mg em_CK 0 s0 s1) (fun s2 => some ((s2 29 2), s2)))
set_option maxRecDepth 100000 in
set_option maxHeartbeats 4000000 in
theorem c_X9_errors  (s0 : sh_S) (r : Int32) (s9x : sh_S) (hf : f_X9_errors  s0 = some (r, s9x)) : Ctr yX9_errors cX9_errors 1 (some .int) ({ frames := 4, cells := 0, slots := 0, locals := 129 } : Room) shX [.ref 73] s0 (some (.int r)) s9x := by
  refine Ctr.mk (ri := .ireturn) (by decide) (Nat.le_of_ble_eq_true rfl) (Rt_i r) ?_
  intro G h hL hR hret
  refine k_drop (lv' := [(0, .ref 73)]) [0] rfl ?_
  unfold f_X9_errors at hf
  refine k_aload_n (pc := 0) h dX9_errors_0 rfl 0 rfl ?_
  refine k_getR (pc := 1) h fl_RX9_21 rfl rfl dX9_errors_1 ?_
  obtain ⟨s1, cs1, hf⟩ := ob_s hf
  obtain ⟨s2, es2, hf⟩ := lb_s hf
  refine k_callVe (pc := 4) (em := em_CK) h cv_RX9_120 (c_X0_examine  (rs em_CK s0) s1 cs1) emb_CK_X rfl rfl rfl (st1 := [.ref 10]) rfl ⟨rfl, rfl⟩ (rk hR (Nat.le_of_ble_eq_true rfl) (Nat.le_of_ble_eq_true rfl)) (Nat.le_of_ble_eq_true rfl) dX9_errors_4 es2 ?_
  refine k_getR (pc := 7) h fl_RX9_174 rfl rfl dX9_errors_7 ?_
  refine k_getI (pc := 10) h fl_RX9_178 rfl rfl dX9_errors_10 ?_
  obtain ⟨rfl, rfl⟩ := so2 hf
  exact hret 13 _ dX9_errors_13 trivial
theorem dX9_error_0 : decode cX9_error 0 = .ok (.iload_n 1, 1) := by decide +kernel
theorem dX9_error_1 : decode cX9_error 1 = .ok (.iconst 0, 1) := by decide +kernel
theorem dX9_error_2 : decode cX9_error 2 = .ok (.sipush 999, 3) := by decide +kernel
theorem dX9_error_5 : decode cX9_error 5 = .ok (.invokestatic 109, 3) := by decide +kernel
theorem dX9_error_8 : decode cX9_error 8 = .ok (.ifCond .eq 12, 3) := by decide +kernel
theorem dX9_error_11 : decode cX9_error 11 = .ok (.iload_n 2, 1) := by decide +kernel
theorem dX9_error_12 : decode cX9_error 12 = .ok (.iconst 0, 1) := by decide +kernel
theorem dX9_error_13 : decode cX9_error 13 = .ok (.iconst 2, 1) := by decide +kernel
theorem dX9_error_14 : decode cX9_error 14 = .ok (.invokestatic 109, 3) := by decide +kernel
theorem dX9_error_17 : decode cX9_error 17 = .ok (.ifCond .ne 6, 3) := by decide +kernel
theorem dX9_error_20 : decode cX9_error 20 = .ok (.bipush (-2), 2) := by decide +kernel
theorem dX9_error_22 : decode cX9_error 22 = .ok (.ireturn, 1) := by decide +kernel
theorem dX9_error_23 : decode cX9_error 23 = .ok (.aload_n 0, 1) := by decide +kernel
theorem dX9_error_24 : decode cX9_error 24 = .ok (.getfield 21, 3) := by decide +kernel
theorem dX9_error_27 : decode cX9_error 27 = .ok (.invokevirtual 120, 3) := by decide +kernel
theorem dX9_error_30 : decode cX9_error 30 = .ok (.getfield 174, 3) := by decide +kernel
theorem dX9_error_33 : decode cX9_error 33 = .ok (.iload_n 1, 1) := by decide +kernel
theorem dX9_error_34 : decode cX9_error 34 = .ok (.iload_n 2, 1) := by decide +kernel
theorem dX9_error_35 : decode cX9_error 35 = .ok (.invokevirtual 183, 3) := by decide +kernel
theorem dX9_error_38 : decode cX9_error 38 = .ok (.ireturn, 1) := by decide +kernel
def f_X9_error (p1 : Int32) (p2 : Int32) (s0 : sh_S) : Option (Int32 × sh_S) := ob (f_X9_isBetween p1 (0 : Int32) (999 : Int32)) (fun v1 => (if v1 = 0 then some ((-2 : Int32), s0) else ob (f_X9_isBetween p2 (0 : Int32) (2 : Int32)) (fun v2 => (if v2 = 0 then some ((-2 : Int32), s0) else ob (f_X0_examine  (rs em_CK s0)) (fun s3 => lb (mg em_CK 0 s0 s3) (fun s4 => ob (f_X1_tell p1 p2 (rs em_CK s4)) (fun v5 => some (v5, s4))))))))
set_option maxRecDepth 100000 in
set_option maxHeartbeats 4000000 in
theorem c_X9_error (p1 : Int32) (p2 : Int32) (s0 : sh_S) (r : Int32) (s9x : sh_S) (hf : f_X9_error p1 p2 s0 = some (r, s9x)) : Ctr yX9_error cX9_error 3 (some .int) ({ frames := 4, cells := 0, slots := 0, locals := 129 } : Room) shX [.ref 73, .int p1, .int p2] s0 (some (.int r)) s9x := by
  refine Ctr.mk (ri := .ireturn) (by decide) (Nat.le_of_ble_eq_true rfl) (Rt_i r) ?_
  intro G h hL hR hret
  refine k_drop (lv' := [(0, .ref 73), (1, .int p1), (2, .int p2)]) [0, 1, 2] rfl ?_
  unfold f_X9_error at hf
  refine k_iload_n (pc := 0) h dX9_error_0 rfl 1 rfl ?_
  refine k_iconst (pc := 1) h dX9_error_1 kc_iconst_0 ?_
  refine k_sipush (pc := 2) h dX9_error_2 kc_sipush_999 ?_
  obtain ⟨v1, cv1, hf⟩ := ob_s hf
  refine k_callSp (pc := 5) h cs_RX9_109 (c_X9_isBetween p1 (0 : Int32) (999 : Int32) _ v1 cv1) rfl rfl (st1 := [.int v1]) rfl ⟨rfl, rfl⟩ (rk hR (Nat.le_of_ble_eq_true rfl) (Nat.le_of_ble_eq_true rfl)) (Nat.le_of_ble_eq_true rfl) dX9_error_5 ?_
  refine k_if_eq (pc := 8) (tgt := 20) h dX9_error_8 rfl (fun hc => ?_) (fun hc => ?_)
  · have hf := it_p hc hf
    refine k_bipush (pc := 20) h dX9_error_20 kc_bipush_m2 ?_
    obtain ⟨rfl, rfl⟩ := so2 hf
    exact hret 22 _ dX9_error_22 trivial
  · have hf := it_n hc hf
    refine k_iload_n (pc := 11) h dX9_error_11 rfl 2 rfl ?_
    refine k_iconst (pc := 12) h dX9_error_12 kc_iconst_0 ?_
    refine k_iconst (pc := 13) h dX9_error_13 kc_iconst_2 ?_
    obtain ⟨v2, cv2, hf⟩ := ob_s hf
    refine k_callSp (pc := 14) h cs_RX9_109 (c_X9_isBetween p2 (0 : Int32) (2 : Int32) _ v2 cv2) rfl rfl (st1 := [.int v2]) rfl ⟨rfl, rfl⟩ (rk hR (Nat.le_of_ble_eq_true rfl) (Nat.le_of_ble_eq_true rfl)) (Nat.le_of_ble_eq_true rfl) dX9_error_14 ?_
    refine k_if_ne (pc := 17) (tgt := 23) h dX9_error_17 rfl (fun hc => ?_) (fun hc => ?_)
    · have hf := it_n hc hf
      refine k_aload_n (pc := 23) h dX9_error_23 rfl 0 rfl ?_
      refine k_getR (pc := 24) h fl_RX9_21 rfl rfl dX9_error_24 ?_
      obtain ⟨s3, cs3, hf⟩ := ob_s hf
      obtain ⟨s4, es4, hf⟩ := lb_s hf
      refine k_callVe (pc := 27) (em := em_CK) h cv_RX9_120 (c_X0_examine  (rs em_CK s0) s3 cs3) emb_CK_X rfl rfl rfl (st1 := [.ref 10]) rfl ⟨rfl, rfl⟩ (rk hR (Nat.le_of_ble_eq_true rfl) (Nat.le_of_ble_eq_true rfl)) (Nat.le_of_ble_eq_true rfl) dX9_error_27 es4 ?_
      refine k_getR (pc := 30) h fl_RX9_174 rfl rfl dX9_error_30 ?_
      refine k_iload_n (pc := 33) h dX9_error_33 rfl 1 rfl ?_
      refine k_iload_n (pc := 34) h dX9_error_34 rfl 2 rfl ?_
      obtain ⟨v5, cv5, hf⟩ := ob_s hf
      refine k_callVe (pc := 35) (em := em_CK) h cv_RX9_183 (c_X1_tell p1 p2 (rs em_CK s4) v5 cv5) emb_CK_X rfl rfl rfl (st1 := [.int v5]) rfl ⟨rfl, rfl⟩ (rk hR (Nat.le_of_ble_eq_true rfl) (Nat.le_of_ble_eq_true rfl)) (Nat.le_of_ble_eq_true rfl) dX9_error_35 (mg_rs em_CK s4) ?_
      obtain ⟨rfl, rfl⟩ := so2 hf
      exact hret 38 _ dX9_error_38 trivial
    · have hf := it_p hc hf
      refine k_bipush (pc := 20) h dX9_error_20 kc_bipush_m2 ?_
      obtain ⟨rfl, rfl⟩ := so2 hf
      exact hret 22 _ dX9_error_22 trivial
theorem dX9_witness_0 : decode cX9_witness 0 = .ok (.iload_n 1, 1) := by decide +kernel
theorem dX9_witness_1 : decode cX9_witness 1 = .ok (.iconst 0, 1) := by decide +kernel
theorem dX9_witness_2 : decode cX9_witness 2 = .ok (.sipush 999, 3) := by decide +kernel
theorem dX9_witness_5 : decode cX9_witness 5 = .ok (.invokestatic 109, 3) := by decide +kernel
theorem dX9_witness_8 : decode cX9_witness 8 = .ok (.ifCond .eq 13, 3) := by decide +kernel
theorem dX9_witness_11 : decode cX9_witness 11 = .ok (.iload_n 2, 1) := by decide +kernel
theorem dX9_witness_12 : decode cX9_witness 12 = .ok (.iconst (-1), 1) := by decide +kernel
theorem dX9_witness_13 : decode cX9_witness 13 = .ok (.bipush 59, 2) := by decide +kernel
theorem dX9_witness_15 : decode cX9_witness 15 = .ok (.invokestatic 109, 3) := by decide +kernel
theorem dX9_witness_18 : decode cX9_witness 18 = .ok (.ifCond .ne 6, 3) := by decide +kernel
theorem dX9_witness_21 : decode cX9_witness 21 = .ok (.bipush (-2), 2) := by decide +kernel
theorem dX9_witness_23 : decode cX9_witness 23 = .ok (.ireturn, 1) := by decide +kernel
theorem dX9_witness_24 : decode cX9_witness 24 = .ok (.aload_n 0, 1) := by decide +kernel
theorem dX9_witness_25 : decode cX9_witness 25 = .ok (.getfield 21, 3) := by decide +kernel
theorem dX9_witness_28 : decode cX9_witness 28 = .ok (.invokevirtual 120, 3) := by decide +kernel
theorem dX9_witness_31 : decode cX9_witness 31 = .ok (.getfield 174, 3) := by decide +kernel
theorem dX9_witness_34 : decode cX9_witness 34 = .ok (.iload_n 1, 1) := by decide +kernel
theorem dX9_witness_35 : decode cX9_witness 35 = .ok (.iconst 1, 1) := by decide +kernel
theorem dX9_witness_36 : decode cX9_witness 36 = .ok (.invokevirtual 183, 3) := by decide +kernel
theorem dX9_witness_39 : decode cX9_witness 39 = .ok (.ifCond .eq 6, 3) := by decide +kernel
theorem dX9_witness_42 : decode cX9_witness 42 = .ok (.bipush (-3), 2) := by decide +kernel
theorem dX9_witness_44 : decode cX9_witness 44 = .ok (.ireturn, 1) := by decide +kernel
theorem dX9_witness_45 : decode cX9_witness 45 = .ok (.aload_n 0, 1) := by decide +kernel
theorem dX9_witness_46 : decode cX9_witness 46 = .ok (.getfield 37, 3) := by decide +kernel
theorem dX9_witness_49 : decode cX9_witness 49 = .ok (.iload_n 1, 1) := by decide +kernel
theorem dX9_witness_50 : decode cX9_witness 50 = .ok (.invokevirtual 187, 3) := by decide +kernel
theorem dX9_witness_53 : decode cX9_witness 53 = .ok (.iload_n 2, 1) := by decide +kernel
theorem dX9_witness_54 : decode cX9_witness 54 = .ok (.iconst (-1), 1) := by decide +kernel
theorem dX9_witness_55 : decode cX9_witness 55 = .ok (.if_icmp .ne 11, 3) := by decide +kernel
theorem dX9_witness_58 : decode cX9_witness 58 = .ok (.aload_n 0, 1) := by decide +kernel
theorem dX9_witness_59 : decode cX9_witness 59 = .ok (.getfield 37, 3) := by decide +kernel
theorem dX9_witness_62 : decode cX9_witness 62 = .ok (.getfield 191, 3) := by decide +kernel
theorem dX9_witness_65 : decode cX9_witness 65 = .ok (.ireturn, 1) := by decide +kernel
theorem dX9_witness_66 : decode cX9_witness 66 = .ok (.iload_n 2, 1) := by decide +kernel
theorem dX9_witness_67 : decode cX9_witness 67 = .ok (.aload_n 0, 1) := by decide +kernel
theorem dX9_witness_68 : decode cX9_witness 68 = .ok (.getfield 37, 3) := by decide +kernel
theorem dX9_witness_71 : decode cX9_witness 71 = .ok (.getfield 191, 3) := by decide +kernel
theorem dX9_witness_74 : decode cX9_witness 74 = .ok (.if_icmp .ge 15, 3) := by decide +kernel
theorem dX9_witness_77 : decode cX9_witness 77 = .ok (.aload_n 0, 1) := by decide +kernel
theorem dX9_witness_78 : decode cX9_witness 78 = .ok (.getfield 37, 3) := by decide +kernel
theorem dX9_witness_81 : decode cX9_witness 81 = .ok (.getfield 194, 3) := by decide +kernel
theorem dX9_witness_84 : decode cX9_witness 84 = .ok (.iload_n 2, 1) := by decide +kernel
theorem dX9_witness_85 : decode cX9_witness 85 = .ok (.iaload, 1) := by decide +kernel
theorem dX9_witness_86 : decode cX9_witness 86 = .ok (.goto 4, 3) := by decide +kernel
theorem dX9_witness_89 : decode cX9_witness 89 = .ok (.iconst (-1), 1) := by decide +kernel
theorem dX9_witness_90 : decode cX9_witness 90 = .ok (.ireturn, 1) := by decide +kernel
def f_X9_witness (p1 : Int32) (p2 : Int32) (s0 : sh_S) : Option (Int32 × sh_S) := ob (f_X9_isBetween p1 (0 : Int32) (999 : Int32)) (fun v1 => (if v1 = 0 then some ((-2 : Int32), s0) else ob (f_X9_isBetween p2 (-1 : Int32) (59 : Int32)) (fun v2 => (if v2 = 0 then some ((-2 : Int32), s0) else ob (f_X0_examine  (rs em_CK s0)) (fun s3 => lb (mg em_CK 0 s0 s3) (fun s4 => ob (f_X1_tell p1 (1 : Int32) (rs em_CK s4)) (fun v5 => (if v5 = 0 then ob (f_X7_show p1 s4) (fun s6 => (if p2 = (-1 : Int32) then some ((s6 53 5), s6) else ob (if (s6 53 5) ≤ p2 then some (-1 : Int32) else gu (inb p2 60) (some (s6 55 (ix p2)))) (fun v7 => some (v7, s6)))) else some ((-3 : Int32), s4)))))))))
set_option maxRecDepth 100000 in
set_option maxHeartbeats 4000000 in
theorem c_X9_witness (p1 : Int32) (p2 : Int32) (s0 : sh_S) (r : Int32) (s9x : sh_S) (hf : f_X9_witness p1 p2 s0 = some (r, s9x)) : Ctr yX9_witness cX9_witness 3 (some .int) ({ frames := 4, cells := 0, slots := 0, locals := 129 } : Room) shX [.ref 73, .int p1, .int p2] s0 (some (.int r)) s9x := by
  refine Ctr.mk (ri := .ireturn) (by decide) (Nat.le_of_ble_eq_true rfl) (Rt_i r) ?_
  intro G h hL hR hret
  refine k_drop (lv' := [(0, .ref 73), (1, .int p1), (2, .int p2)]) [0, 1, 2] rfl ?_
  unfold f_X9_witness at hf
  refine k_iload_n (pc := 0) h dX9_witness_0 rfl 1 rfl ?_
  refine k_iconst (pc := 1) h dX9_witness_1 kc_iconst_0 ?_
  refine k_sipush (pc := 2) h dX9_witness_2 kc_sipush_999 ?_
  obtain ⟨v1, cv1, hf⟩ := ob_s hf
  refine k_callSp (pc := 5) h cs_RX9_109 (c_X9_isBetween p1 (0 : Int32) (999 : Int32) _ v1 cv1) rfl rfl (st1 := [.int v1]) rfl ⟨rfl, rfl⟩ (rk hR (Nat.le_of_ble_eq_true rfl) (Nat.le_of_ble_eq_true rfl)) (Nat.le_of_ble_eq_true rfl) dX9_witness_5 ?_
  refine k_if_eq (pc := 8) (tgt := 21) h dX9_witness_8 rfl (fun hc => ?_) (fun hc => ?_)
  · have hf := it_p hc hf
    refine k_bipush (pc := 21) h dX9_witness_21 kc_bipush_m2 ?_
    obtain ⟨rfl, rfl⟩ := so2 hf
    exact hret 23 _ dX9_witness_23 trivial
  · have hf := it_n hc hf
    refine k_iload_n (pc := 11) h dX9_witness_11 rfl 2 rfl ?_
    refine k_iconst (pc := 12) h dX9_witness_12 kc_iconst_m1 ?_
    refine k_bipush (pc := 13) h dX9_witness_13 kc_bipush_59 ?_
    obtain ⟨v2, cv2, hf⟩ := ob_s hf
    refine k_callSp (pc := 15) h cs_RX9_109 (c_X9_isBetween p2 (-1 : Int32) (59 : Int32) _ v2 cv2) rfl rfl (st1 := [.int v2]) rfl ⟨rfl, rfl⟩ (rk hR (Nat.le_of_ble_eq_true rfl) (Nat.le_of_ble_eq_true rfl)) (Nat.le_of_ble_eq_true rfl) dX9_witness_15 ?_
    refine k_if_ne (pc := 18) (tgt := 24) h dX9_witness_18 rfl (fun hc => ?_) (fun hc => ?_)
    · have hf := it_n hc hf
      refine k_aload_n (pc := 24) h dX9_witness_24 rfl 0 rfl ?_
      refine k_getR (pc := 25) h fl_RX9_21 rfl rfl dX9_witness_25 ?_
      obtain ⟨s3, cs3, hf⟩ := ob_s hf
      obtain ⟨s4, es4, hf⟩ := lb_s hf
      refine k_callVe (pc := 28) (em := em_CK) h cv_RX9_120 (c_X0_examine  (rs em_CK s0) s3 cs3) emb_CK_X rfl rfl rfl (st1 := [.ref 10]) rfl ⟨rfl, rfl⟩ (rk hR (Nat.le_of_ble_eq_true rfl) (Nat.le_of_ble_eq_true rfl)) (Nat.le_of_ble_eq_true rfl) dX9_witness_28 es4 ?_
      refine k_getR (pc := 31) h fl_RX9_174 rfl rfl dX9_witness_31 ?_
      refine k_iload_n (pc := 34) h dX9_witness_34 rfl 1 rfl ?_
      refine k_iconst (pc := 35) h dX9_witness_35 kc_iconst_1 ?_
      obtain ⟨v5, cv5, hf⟩ := ob_s hf
      refine k_callVe (pc := 36) (em := em_CK) h cv_RX9_183 (c_X1_tell p1 (1 : Int32) (rs em_CK s4) v5 cv5) emb_CK_X rfl rfl rfl (st1 := [.int v5]) rfl ⟨rfl, rfl⟩ (rk hR (Nat.le_of_ble_eq_true rfl) (Nat.le_of_ble_eq_true rfl)) (Nat.le_of_ble_eq_true rfl) dX9_witness_36 (mg_rs em_CK s4) ?_
      refine k_if_eq (pc := 39) (tgt := 45) h dX9_witness_39 rfl (fun hc => ?_) (fun hc => ?_)
      · have hf := it_p hc hf
        refine k_aload_n (pc := 45) h dX9_witness_45 rfl 0 rfl ?_
        refine k_getR (pc := 46) h fl_RX9_37 rfl rfl dX9_witness_46 ?_
        refine k_iload_n (pc := 49) h dX9_witness_49 rfl 1 rfl ?_
        obtain ⟨s6, cs6, hf⟩ := ob_s hf
        refine k_callV0 (pc := 50) h cv_RX9_187 (c_X7_show p1 s4 s6 cs6) rfl rfl rfl (st1 := []) rfl ⟨rfl, rfl⟩ (rk hR (Nat.le_of_ble_eq_true rfl) (Nat.le_of_ble_eq_true rfl)) (Nat.le_of_ble_eq_true rfl) dX9_witness_50 ?_
        refine k_iload_n (pc := 53) h dX9_witness_53 rfl 2 rfl ?_
        refine k_iconst (pc := 54) h dX9_witness_54 kc_iconst_m1 ?_
        refine k_icmp_ne (pc := 55) (tgt := 66) h dX9_witness_55 rfl (fun hc => ?_) (fun hc => ?_)
        · have hf := it_n hc hf
          refine k_iload_n (pc := 66) h dX9_witness_66 rfl 2 rfl ?_
          refine k_aload_n (pc := 67) h dX9_witness_67 rfl 0 rfl ?_
          refine k_getR (pc := 68) h fl_RX9_37 rfl rfl dX9_witness_68 ?_
          refine k_getI (pc := 71) h fl_RX9_191 rfl rfl dX9_witness_71 ?_
          obtain ⟨v7, hj, hf⟩ := ob_s hf
          have kj74 : sh_K G shX 90 [] [.int v7] s6 := by
            obtain ⟨rfl, rfl⟩ := so2 hf
            exact hret 90 _ dX9_witness_90 trivial
          clear hf
          have hf := hj
          clear hj
          refine k_icmp_ge (pc := 74) (tgt := 89) h dX9_witness_74 rfl (fun hc => ?_) (fun hc => ?_)
          · have hf := it_p hc hf
            refine k_iconst (pc := 89) h dX9_witness_89 kc_iconst_m1 ?_
            obtain rfl := so1 hf
            exact k_drop [] rfl kj74
          · have hf := it_n hc hf
            refine k_aload_n (pc := 77) h dX9_witness_77 rfl 0 rfl ?_
            refine k_getR (pc := 78) h fl_RX9_37 rfl rfl dX9_witness_78 ?_
            refine k_getR (pc := 81) h fl_RX9_194 rfl rfl dX9_witness_81 ?_
            refine k_iload_n (pc := 84) h dX9_witness_84 rfl 2 rfl ?_
            obtain ⟨g8, hf⟩ := gu_s hf
            refine k_iald (pc := 85) (n := 60) h rfl g8 dX9_witness_85 ?_
            refine k_goto (pc := 86) (tgt := 90) h dX9_witness_86 rfl ?_
            obtain rfl := so1 hf
            exact k_drop [] rfl kj74
        · have hf := it_p hc hf
          refine k_aload_n (pc := 58) h dX9_witness_58 rfl 0 rfl ?_
          refine k_getR (pc := 59) h fl_RX9_37 rfl rfl dX9_witness_59 ?_
          refine k_getI (pc := 62) h fl_RX9_191 rfl rfl dX9_witness_62 ?_
          obtain ⟨rfl, rfl⟩ := so2 hf
          exact hret 65 _ dX9_witness_65 trivial
      · have hf := it_n hc hf
        refine k_bipush (pc := 42) h dX9_witness_42 kc_bipush_m3 ?_
        obtain ⟨rfl, rfl⟩ := so2 hf
        exact hret 44 _ dX9_witness_44 trivial
    · have hf := it_p hc hf
      refine k_bipush (pc := 21) h dX9_witness_21 kc_bipush_m2 ?_
      obtain ⟨rfl, rfl⟩ := so2 hf
      exact hret 23 _ dX9_witness_23 trivial
