theorem dX10_behind_0 : decode cX10_behind 0 = .ok (.aload_n 0, 1) := by decide +kernel
theorem dX10_behind_1 : decode cX10_behind 1 = .ok (.getfield 16, 3) := by decide +kernel
theorem dX10_behind_4 : decode cX10_behind 4 = .ok (.iload_n 1, 1) := by decide +kernel
theorem dX10_behind_5 : decode cX10_behind 5 = .ok (.iaload, 1) := by decide +kernel
theorem dX10_behind_6 : decode cX10_behind 6 = .ok (.invokestatic 128, 3) := by decide +kernel
theorem dX10_behind_9 : decode cX10_behind 9 = .ok (.istore_n 3, 1) := by decide +kernel
theorem dX10_behind_10 : decode cX10_behind 10 = .ok (.aload_n 0, 1) := by decide +kernel
theorem dX10_behind_11 : decode cX10_behind 11 = .ok (.getfield 28, 3) := by decide +kernel
theorem dX10_behind_14 : decode cX10_behind 14 = .ok (.bipush 8, 2) := by decide +kernel
theorem dX10_behind_16 : decode cX10_behind 16 = .ok (.iload_n 1, 1) := by decide +kernel
theorem dX10_behind_17 : decode cX10_behind 17 = .ok (.imul, 1) := by decide +kernel
theorem dX10_behind_18 : decode cX10_behind 18 = .ok (.iload_n 2, 1) := by decide +kernel
theorem dX10_behind_19 : decode cX10_behind 19 = .ok (.iadd, 1) := by decide +kernel
theorem dX10_behind_20 : decode cX10_behind 20 = .ok (.iaload, 1) := by decide +kernel
theorem dX10_behind_21 : decode cX10_behind 21 = .ok (.istore 4, 2) := by decide +kernel
theorem dX10_behind_23 : decode cX10_behind 23 = .ok (.aload_n 0, 1) := by decide +kernel
theorem dX10_behind_24 : decode cX10_behind 24 = .ok (.iload_n 1, 1) := by decide +kernel
theorem dX10_behind_25 : decode cX10_behind 25 = .ok (.invokevirtual 143, 3) := by decide +kernel
theorem dX10_behind_28 : decode cX10_behind 28 = .ok (.ifCond .eq 22, 3) := by decide +kernel
theorem dX10_behind_31 : decode cX10_behind 31 = .ok (.iload_n 2, 1) := by decide +kernel
theorem dX10_behind_32 : decode cX10_behind 32 = .ok (.aload_n 0, 1) := by decide +kernel
theorem dX10_behind_33 : decode cX10_behind 33 = .ok (.getfield 13, 3) := by decide +kernel
theorem dX10_behind_36 : decode cX10_behind 36 = .ok (.iload_n 1, 1) := by decide +kernel
theorem dX10_behind_37 : decode cX10_behind 37 = .ok (.iaload, 1) := by decide +kernel
theorem dX10_behind_38 : decode cX10_behind 38 = .ok (.if_icmp .ne 9, 3) := by decide +kernel
theorem dX10_behind_41 : decode cX10_behind 41 = .ok (.iconst 1, 1) := by decide +kernel
theorem dX10_behind_42 : decode cX10_behind 42 = .ok (.iload_n 1, 1) := by decide +kernel
theorem dX10_behind_43 : decode cX10_behind 43 = .ok (.ishl, 1) := by decide +kernel
theorem dX10_behind_44 : decode cX10_behind 44 = .ok (.goto 5, 3) := by decide +kernel
theorem dX10_behind_47 : decode cX10_behind 47 = .ok (.iload 4, 2) := by decide +kernel
theorem dX10_behind_49 : decode cX10_behind 49 = .ok (.ireturn, 1) := by decide +kernel
theorem dX10_behind_50 : decode cX10_behind 50 = .ok (.aload_n 0, 1) := by decide +kernel
theorem dX10_behind_51 : decode cX10_behind 51 = .ok (.getfield 7, 3) := by decide +kernel
theorem dX10_behind_54 : decode cX10_behind 54 = .ok (.iload_n 1, 1) := by decide +kernel
theorem dX10_behind_55 : decode cX10_behind 55 = .ok (.iaload, 1) := by decide +kernel
theorem dX10_behind_56 : decode cX10_behind 56 = .ok (.iconst 2, 1) := by decide +kernel
theorem dX10_behind_57 : decode cX10_behind 57 = .ok (.if_icmp .ne 28, 3) := by decide +kernel
theorem dX10_behind_60 : decode cX10_behind 60 = .ok (.iload_n 2, 1) := by decide +kernel
theorem dX10_behind_61 : decode cX10_behind 61 = .ok (.iload_n 3, 1) := by decide +kernel
theorem dX10_behind_62 : decode cX10_behind 62 = .ok (.if_icmp .ne 20, 3) := by decide +kernel
theorem dX10_behind_65 : decode cX10_behind 65 = .ok (.aload_n 0, 1) := by decide +kernel
theorem dX10_behind_66 : decode cX10_behind 66 = .ok (.getfield 16, 3) := by decide +kernel
theorem dX10_behind_69 : decode cX10_behind 69 = .ok (.iload_n 1, 1) := by decide +kernel
theorem dX10_behind_70 : decode cX10_behind 70 = .ok (.iaload, 1) := by decide +kernel
theorem dX10_behind_71 : decode cX10_behind 71 = .ok (.invokestatic 134, 3) := by decide +kernel
theorem dX10_behind_74 : decode cX10_behind 74 = .ok (.ifCond .ne 8, 3) := by decide +kernel
theorem dX10_behind_77 : decode cX10_behind 77 = .ok (.ldc 158, 2) := by decide +kernel
theorem dX10_behind_79 : decode cX10_behind 79 = .ok (.goto 5, 3) := by decide +kernel
theorem dX10_behind_82 : decode cX10_behind 82 = .ok (.iload 4, 2) := by decide +kernel
theorem dX10_behind_84 : decode cX10_behind 84 = .ok (.ireturn, 1) := by decide +kernel
theorem dX10_behind_85 : decode cX10_behind 85 = .ok (.aload_n 0, 1) := by decide +kernel
theorem dX10_behind_86 : decode cX10_behind 86 = .ok (.getfield 7, 3) := by decide +kernel
theorem dX10_behind_89 : decode cX10_behind 89 = .ok (.iload_n 1, 1) := by decide +kernel
theorem dX10_behind_90 : decode cX10_behind 90 = .ok (.iaload, 1) := by decide +kernel
theorem dX10_behind_91 : decode cX10_behind 91 = .ok (.bipush 6, 2) := by decide +kernel
theorem dX10_behind_93 : decode cX10_behind 93 = .ok (.if_icmp .ne 50, 3) := by decide +kernel
theorem dX10_behind_96 : decode cX10_behind 96 = .ok (.iload_n 3, 1) := by decide +kernel
theorem dX10_behind_97 : decode cX10_behind 97 = .ok (.aload_n 0, 1) := by decide +kernel
theorem dX10_behind_98 : decode cX10_behind 98 = .ok (.getfield 13, 3) := by decide +kernel
theorem dX10_behind_101 : decode cX10_behind 101 = .ok (.iload_n 1, 1) := by decide +kernel
theorem dX10_behind_102 : decode cX10_behind 102 = .ok (.iaload, 1) := by decide +kernel
theorem dX10_behind_103 : decode cX10_behind 103 = .ok (.if_icmp .eq 40, 3) := by decide +kernel
theorem dX10_behind_106 : decode cX10_behind 106 = .ok (.iload_n 2, 1) := by decide +kernel
theorem dX10_behind_107 : decode cX10_behind 107 = .ok (.aload_n 0, 1) := by decide +kernel
theorem dX10_behind_108 : decode cX10_behind 108 = .ok (.getfield 13, 3) := by decide +kernel
theorem dX10_behind_111 : decode cX10_behind 111 = .ok (.iload_n 1, 1) := by decide +kernel
theorem dX10_behind_112 : decode cX10_behind 112 = .ok (.iaload, 1) := by decide +kernel
theorem dX10_behind_113 : decode cX10_behind 113 = .ok (.if_icmp .ne 17, 3) := by decide +kernel
theorem dX10_behind_116 : decode cX10_behind 116 = .ok (.aload_n 0, 1) := by decide +kernel
theorem dX10_behind_117 : decode cX10_behind 117 = .ok (.getfield 28, 3) := by decide +kernel
theorem dX10_behind_120 : decode cX10_behind 120 = .ok (.bipush 8, 2) := by decide +kernel
theorem dX10_behind_122 : decode cX10_behind 122 = .ok (.iload_n 1, 1) := by decide +kernel
theorem dX10_behind_123 : decode cX10_behind 123 = .ok (.imul, 1) := by decide +kernel
theorem dX10_behind_124 : decode cX10_behind 124 = .ok (.iload_n 3, 1) := by decide +kernel
theorem dX10_behind_125 : decode cX10_behind 125 = .ok (.iadd, 1) := by decide +kernel
theorem dX10_behind_126 : decode cX10_behind 126 = .ok (.iaload, 1) := by decide +kernel
theorem dX10_behind_127 : decode cX10_behind 127 = .ok (.goto 15, 3) := by decide +kernel
theorem dX10_behind_130 : decode cX10_behind 130 = .ok (.iload_n 2, 1) := by decide +kernel
theorem dX10_behind_131 : decode cX10_behind 131 = .ok (.iload_n 3, 1) := by decide +kernel
theorem dX10_behind_132 : decode cX10_behind 132 = .ok (.if_icmp .ne 8, 3) := by decide +kernel
theorem dX10_behind_135 : decode cX10_behind 135 = .ok (.ldc 158, 2) := by decide +kernel
theorem dX10_behind_137 : decode cX10_behind 137 = .ok (.goto 5, 3) := by decide +kernel
theorem dX10_behind_140 : decode cX10_behind 140 = .ok (.iload 4, 2) := by decide +kernel
theorem dX10_behind_142 : decode cX10_behind 142 = .ok (.ireturn, 1) := by decide +kernel
theorem dX10_behind_143 : decode cX10_behind 143 = .ok (.iload 4, 2) := by decide +kernel
theorem dX10_behind_145 : decode cX10_behind 145 = .ok (.ireturn, 1) := by decide +kernel
def f_X10_behind (p1 : Int32) (p2 : Int32) (s0 : sh_S) : Option (Int32) := gu (inb p1 24) (ob (f_X10_variable (s0 3 (ix p1))) (fun v2 => gu (inb (((8 : Int32) * p1) + p2) 192) (lb ((s0 7 (ix (((8 : Int32) * p1) + p2)))) (fun v4 => ob (f_X10_lends p1 s0) (fun v5 => (if v5 = 0 then gu (inb p1 24) ((if (s0 1 (ix p1)) = (2 : Int32) then ob (if p2 = v2 then gu (inb p1 24) (ob (f_X10_through (s0 3 (ix p1))) (fun v14 => (if v14 = 0 then some (16777216 : Int32) else some v4))) else some v4) (fun v12 => some v12) else gu (inb p1 24) ((if (s0 1 (ix p1)) = (6 : Int32) then gu (inb p1 24) ((if v2 = (s0 2 (ix p1)) then some v4 else gu (inb p1 24) (ob (if p2 = (s0 2 (ix p1)) then gu (inb (((8 : Int32) * p1) + v2) 192) (some (s0 7 (ix (((8 : Int32) * p1) + v2)))) else (if p2 = v2 then some (16777216 : Int32) else some v4)) (fun v10 => some v10)))) else some v4)))) else gu (inb p1 24) (ob (if p2 = (s0 2 (ix p1)) then some ((1 : Int32) <<< (p1 &&& 31)) else some v4) (fun v16 => some v16))))))))
set_option maxRecDepth 100000 in
set_option maxHeartbeats 4000000 in
theorem c_X10_behind (p1 : Int32) (p2 : Int32) (s0 : sh_S) (r : Int32) (hf : f_X10_behind p1 p2 s0 = some r) : Ctr yX10_behind cX10_behind 5 (some .int) ({ frames := 2, cells := 0, slots := 0, locals := 43 } : Room) shM [.ref 0, .int p1, .int p2] s0 (some (.int r)) s0 := by
  refine Ctr.mk (ri := .ireturn) (by decide) (Nat.le_of_ble_eq_true rfl) (Rt_i r) ?_
  intro G h hL hR hret
  refine k_drop (lv' := [(0, .ref 0), (1, .int p1), (2, .int p2)]) [0, 1, 2] rfl ?_
  unfold f_X10_behind at hf
  refine k_aload_n (pc := 0) h dX10_behind_0 rfl 0 rfl ?_
  refine k_getR (pc := 1) h fl_RX10_16 rfl rfl dX10_behind_1 ?_
  refine k_iload_n (pc := 4) h dX10_behind_4 rfl 1 rfl ?_
  obtain ⟨g1, hf⟩ := gu_s hf
  refine k_iald (pc := 5) (n := 24) h rfl g1 dX10_behind_5 ?_
  obtain ⟨v2, cv2, hf⟩ := ob_s hf
  refine k_callSp (pc := 6) h cs_RX10_128 (c_X10_variable (s0 3 (ix p1)) _ v2 cv2) rfl rfl (st1 := [.int v2]) rfl ⟨rfl, rfl⟩ (rk hR (Nat.le_of_ble_eq_true rfl) (Nat.le_of_ble_eq_true rfl)) (Nat.le_of_ble_eq_true rfl) dX10_behind_6 ?_
  refine k_istore_n (pc := 9) h dX10_behind_9 rfl (nk hL (by decide)) (lv' := [(0, .ref 0), (1, .int p1), (2, .int p2), (3, .int v2)]) rfl ?_
  refine k_aload_n (pc := 10) h dX10_behind_10 rfl 0 rfl ?_
  refine k_getR (pc := 11) h fl_RX10_28 rfl rfl dX10_behind_11 ?_
  refine k_bipush (pc := 14) h dX10_behind_14 kc_bipush_8 ?_
  refine k_iload_n (pc := 16) h dX10_behind_16 rfl 1 rfl ?_
  refine k_imul (pc := 17) h dX10_behind_17 ?_
  refine k_iload_n (pc := 18) h dX10_behind_18 rfl 2 rfl ?_
  refine k_iadd (pc := 19) h dX10_behind_19 ?_
  obtain ⟨g3, hf⟩ := gu_s hf
  refine k_iald (pc := 20) (n := 192) h rfl g3 dX10_behind_20 ?_
  obtain ⟨v4, ev4, hf⟩ := lb_s hf
  refine k_top ev4 ?_
  refine k_istore (pc := 21) h dX10_behind_21 (nk hL (by decide)) (lv' := [(0, .ref 0), (1, .int p1), (2, .int p2), (3, .int v2), (4, .int v4)]) rfl ?_
  refine k_aload_n (pc := 23) h dX10_behind_23 rfl 0 rfl ?_
  refine k_iload_n (pc := 24) h dX10_behind_24 rfl 1 rfl ?_
  obtain ⟨v5, cv5, hf⟩ := ob_s hf
  refine k_callV0 (pc := 25) h cv_RX10_143 (c_X10_lends p1 s0 v5 cv5) rfl rfl rfl (st1 := [.int v5]) rfl ⟨rfl, rfl⟩ (rk hR (Nat.le_of_ble_eq_true rfl) (Nat.le_of_ble_eq_true rfl)) (Nat.le_of_ble_eq_true rfl) dX10_behind_25 ?_
  refine k_if_eq (pc := 28) (tgt := 50) h dX10_behind_28 rfl (fun hc => ?_) (fun hc => ?_)
  · have hf := it_p hc hf
    refine k_aload_n (pc := 50) h dX10_behind_50 rfl 0 rfl ?_
    refine k_getR (pc := 51) h fl_RX10_7 rfl rfl dX10_behind_51 ?_
    refine k_iload_n (pc := 54) h dX10_behind_54 rfl 1 rfl ?_
    obtain ⟨g6, hf⟩ := gu_s hf
    refine k_iald (pc := 55) (n := 24) h rfl g6 dX10_behind_55 ?_
    refine k_iconst (pc := 56) h dX10_behind_56 kc_iconst_2 ?_
    refine k_icmp_ne (pc := 57) (tgt := 85) h dX10_behind_57 rfl (fun hc => ?_) (fun hc => ?_)
    · have hf := it_n hc hf
      refine k_aload_n (pc := 85) h dX10_behind_85 rfl 0 rfl ?_
      refine k_getR (pc := 86) h fl_RX10_7 rfl rfl dX10_behind_86 ?_
      refine k_iload_n (pc := 89) h dX10_behind_89 rfl 1 rfl ?_
      obtain ⟨g7, hf⟩ := gu_s hf
      refine k_iald (pc := 90) (n := 24) h rfl g7 dX10_behind_90 ?_
      refine k_bipush (pc := 91) h dX10_behind_91 kc_bipush_6 ?_
      refine k_icmp_ne (pc := 93) (tgt := 143) h dX10_behind_93 rfl (fun hc => ?_) (fun hc => ?_)
      · have hf := it_n hc hf
        refine k_iload (pc := 143) h dX10_behind_143 4 rfl ?_
        obtain rfl := so1 hf
        exact hret 145 _ dX10_behind_145 trivial
      · have hf := it_p hc hf
        refine k_iload_n (pc := 96) h dX10_behind_96 rfl 3 rfl ?_
        refine k_aload_n (pc := 97) h dX10_behind_97 rfl 0 rfl ?_
        refine k_getR (pc := 98) h fl_RX10_13 rfl rfl dX10_behind_98 ?_
        refine k_iload_n (pc := 101) h dX10_behind_101 rfl 1 rfl ?_
        obtain ⟨g8, hf⟩ := gu_s hf
        refine k_iald (pc := 102) (n := 24) h rfl g8 dX10_behind_102 ?_
        refine k_icmp_eq (pc := 103) (tgt := 143) h dX10_behind_103 rfl (fun hc => ?_) (fun hc => ?_)
        · have hf := it_p hc hf
          refine k_iload (pc := 143) h dX10_behind_143 4 rfl ?_
          obtain rfl := so1 hf
          exact hret 145 _ dX10_behind_145 trivial
        · have hf := it_n hc hf
          refine k_iload_n (pc := 106) h dX10_behind_106 rfl 2 rfl ?_
          refine k_aload_n (pc := 107) h dX10_behind_107 rfl 0 rfl ?_
          refine k_getR (pc := 108) h fl_RX10_13 rfl rfl dX10_behind_108 ?_
          refine k_iload_n (pc := 111) h dX10_behind_111 rfl 1 rfl ?_
          obtain ⟨g9, hf⟩ := gu_s hf
          refine k_iald (pc := 112) (n := 24) h rfl g9 dX10_behind_112 ?_
          obtain ⟨v10, hj, hf⟩ := ob_s hf
          have kj113 : sh_K G shM 142 [] [.int v10] s0 := by
            obtain rfl := so1 hf
            exact hret 142 _ dX10_behind_142 trivial
          clear hf
          have hf := hj
          clear hj
          refine k_icmp_ne (pc := 113) (tgt := 130) h dX10_behind_113 rfl (fun hc => ?_) (fun hc => ?_)
          · have hf := it_n hc hf
            refine k_iload_n (pc := 130) h dX10_behind_130 rfl 2 rfl ?_
            refine k_iload_n (pc := 131) h dX10_behind_131 rfl 3 rfl ?_
            refine k_icmp_ne (pc := 132) (tgt := 140) h dX10_behind_132 rfl (fun hc => ?_) (fun hc => ?_)
            · have hf := it_n hc hf
              refine k_iload (pc := 140) h dX10_behind_140 4 rfl ?_
              obtain rfl := so1 hf
              exact k_drop [] rfl kj113
            · have hf := it_p hc hf
              refine k_ldc (pc := 135) h dX10_behind_135 wd_1182 ?_
              refine k_goto (pc := 137) (tgt := 142) h dX10_behind_137 rfl ?_
              obtain rfl := so1 hf
              exact k_drop [] rfl kj113
          · have hf := it_p hc hf
            refine k_aload_n (pc := 116) h dX10_behind_116 rfl 0 rfl ?_
            refine k_getR (pc := 117) h fl_RX10_28 rfl rfl dX10_behind_117 ?_
            refine k_bipush (pc := 120) h dX10_behind_120 kc_bipush_8 ?_
            refine k_iload_n (pc := 122) h dX10_behind_122 rfl 1 rfl ?_
            refine k_imul (pc := 123) h dX10_behind_123 ?_
            refine k_iload_n (pc := 124) h dX10_behind_124 rfl 3 rfl ?_
            refine k_iadd (pc := 125) h dX10_behind_125 ?_
            obtain ⟨g11, hf⟩ := gu_s hf
            refine k_iald (pc := 126) (n := 192) h rfl g11 dX10_behind_126 ?_
            refine k_goto (pc := 127) (tgt := 142) h dX10_behind_127 rfl ?_
            obtain rfl := so1 hf
            exact k_drop [] rfl kj113
    · have hf := it_p hc hf
      refine k_iload_n (pc := 60) h dX10_behind_60 rfl 2 rfl ?_
      refine k_iload_n (pc := 61) h dX10_behind_61 rfl 3 rfl ?_
      obtain ⟨v12, hj, hf⟩ := ob_s hf
      have kj62 : sh_K G shM 84 [] [.int v12] s0 := by
        obtain rfl := so1 hf
        exact hret 84 _ dX10_behind_84 trivial
      clear hf
      have hf := hj
      clear hj
      refine k_icmp_ne (pc := 62) (tgt := 82) h dX10_behind_62 rfl (fun hc => ?_) (fun hc => ?_)
      · have hf := it_n hc hf
        refine k_iload (pc := 82) h dX10_behind_82 4 rfl ?_
        obtain rfl := so1 hf
        exact k_drop [] rfl kj62
      · have hf := it_p hc hf
        refine k_aload_n (pc := 65) h dX10_behind_65 rfl 0 rfl ?_
        refine k_getR (pc := 66) h fl_RX10_16 rfl rfl dX10_behind_66 ?_
        refine k_iload_n (pc := 69) h dX10_behind_69 rfl 1 rfl ?_
        obtain ⟨g13, hf⟩ := gu_s hf
        refine k_iald (pc := 70) (n := 24) h rfl g13 dX10_behind_70 ?_
        obtain ⟨v14, cv14, hf⟩ := ob_s hf
        refine k_callSp (pc := 71) h cs_RX10_134 (c_X10_through (s0 3 (ix p1)) _ v14 cv14) rfl rfl (st1 := [.int v14]) rfl ⟨rfl, rfl⟩ (rk hR (Nat.le_of_ble_eq_true rfl) (Nat.le_of_ble_eq_true rfl)) (Nat.le_of_ble_eq_true rfl) dX10_behind_71 ?_
        refine k_if_ne (pc := 74) (tgt := 82) h dX10_behind_74 rfl (fun hc => ?_) (fun hc => ?_)
        · have hf := it_n hc hf
          refine k_iload (pc := 82) h dX10_behind_82 4 rfl ?_
          obtain rfl := so1 hf
          exact k_drop [] rfl kj62
        · have hf := it_p hc hf
          refine k_ldc (pc := 77) h dX10_behind_77 wd_1182 ?_
          refine k_goto (pc := 79) (tgt := 84) h dX10_behind_79 rfl ?_
          obtain rfl := so1 hf
          exact k_drop [] rfl kj62
  · have hf := it_n hc hf
    refine k_iload_n (pc := 31) h dX10_behind_31 rfl 2 rfl ?_
    refine k_aload_n (pc := 32) h dX10_behind_32 rfl 0 rfl ?_
    refine k_getR (pc := 33) h fl_RX10_13 rfl rfl dX10_behind_33 ?_
    refine k_iload_n (pc := 36) h dX10_behind_36 rfl 1 rfl ?_
    obtain ⟨g15, hf⟩ := gu_s hf
    refine k_iald (pc := 37) (n := 24) h rfl g15 dX10_behind_37 ?_
    obtain ⟨v16, hj, hf⟩ := ob_s hf
    have kj38 : sh_K G shM 49 [] [.int v16] s0 := by
      obtain rfl := so1 hf
      exact hret 49 _ dX10_behind_49 trivial
    clear hf
    have hf := hj
    clear hj
    refine k_icmp_ne (pc := 38) (tgt := 47) h dX10_behind_38 rfl (fun hc => ?_) (fun hc => ?_)
    · have hf := it_n hc hf
      refine k_iload (pc := 47) h dX10_behind_47 4 rfl ?_
      obtain rfl := so1 hf
      exact k_drop [] rfl kj38
    · have hf := it_p hc hf
      refine k_iconst (pc := 41) h dX10_behind_41 kc_iconst_1 ?_
      refine k_iload_n (pc := 42) h dX10_behind_42 rfl 1 rfl ?_
      refine k_ishl (pc := 43) h dX10_behind_43 ?_
      refine k_goto (pc := 44) (tgt := 49) h dX10_behind_44 rfl ?_
      obtain rfl := so1 hf
      exact k_drop [] rfl kj38
theorem dX10_flows_0 : decode cX10_flows 0 = .ok (.iconst 0, 1) := by decide +kernel
theorem dX10_flows_1 : decode cX10_flows 1 = .ok (.istore_n 2, 1) := by decide +kernel
theorem dX10_flows_2 : decode cX10_flows 2 = .ok (.iconst 0, 1) := by decide +kernel
theorem dX10_flows_3 : decode cX10_flows 3 = .ok (.istore_n 3, 1) := by decide +kernel
theorem dX10_flows_4 : decode cX10_flows 4 = .ok (.iload_n 3, 1) := by decide +kernel
theorem dX10_flows_5 : decode cX10_flows 5 = .ok (.aload_n 0, 1) := by decide +kernel
theorem dX10_flows_6 : decode cX10_flows 6 = .ok (.getfield 101, 3) := by decide +kernel
theorem dX10_flows_9 : decode cX10_flows 9 = .ok (.if_icmp .ge 100, 3) := by decide +kernel
theorem dX10_flows_12 : decode cX10_flows 12 = .ok (.iconst 0, 1) := by decide +kernel
theorem dX10_flows_13 : decode cX10_flows 13 = .ok (.istore 4, 2) := by decide +kernel
theorem dX10_flows_15 : decode cX10_flows 15 = .ok (.iload 4, 2) := by decide +kernel
theorem dX10_flows_17 : decode cX10_flows 17 = .ok (.bipush 8, 2) := by decide +kernel
theorem dX10_flows_19 : decode cX10_flows 19 = .ok (.if_icmp .ge 84, 3) := by decide +kernel
theorem dX10_flows_22 : decode cX10_flows 22 = .ok (.aload_n 0, 1) := by decide +kernel
theorem dX10_flows_23 : decode cX10_flows 23 = .ok (.iload_n 1, 1) := by decide +kernel
theorem dX10_flows_24 : decode cX10_flows 24 = .ok (.invokevirtual 140, 3) := by decide +kernel
theorem dX10_flows_27 : decode cX10_flows 27 = .ok (.iload_n 3, 1) := by decide +kernel
theorem dX10_flows_28 : decode cX10_flows 28 = .ok (.invokestatic 89, 3) := by decide +kernel
theorem dX10_flows_31 : decode cX10_flows 31 = .ok (.ifCond .eq 72, 3) := by decide +kernel
theorem dX10_flows_34 : decode cX10_flows 34 = .ok (.aload_n 0, 1) := by decide +kernel
theorem dX10_flows_35 : decode cX10_flows 35 = .ok (.getfield 28, 3) := by decide +kernel
theorem dX10_flows_38 : decode cX10_flows 38 = .ok (.bipush 8, 2) := by decide +kernel
theorem dX10_flows_40 : decode cX10_flows 40 = .ok (.iload_n 3, 1) := by decide +kernel
theorem dX10_flows_41 : decode cX10_flows 41 = .ok (.imul, 1) := by decide +kernel
theorem dX10_flows_42 : decode cX10_flows 42 = .ok (.iload 4, 2) := by decide +kernel
theorem dX10_flows_44 : decode cX10_flows 44 = .ok (.iadd, 1) := by decide +kernel
theorem dX10_flows_45 : decode cX10_flows 45 = .ok (.iaload, 1) := by decide +kernel
theorem dX10_flows_46 : decode cX10_flows 46 = .ok (.aload_n 0, 1) := by decide +kernel
theorem dX10_flows_47 : decode cX10_flows 47 = .ok (.iload_n 1, 1) := by decide +kernel
theorem dX10_flows_48 : decode cX10_flows 48 = .ok (.iload 4, 2) := by decide +kernel
theorem dX10_flows_50 : decode cX10_flows 50 = .ok (.invokevirtual 159, 3) := by decide +kernel
theorem dX10_flows_53 : decode cX10_flows 53 = .ok (.ior, 1) := by decide +kernel
theorem dX10_flows_54 : decode cX10_flows 54 = .ok (.istore 5, 2) := by decide +kernel
theorem dX10_flows_56 : decode cX10_flows 56 = .ok (.iload_n 2, 1) := by decide +kernel
theorem dX10_flows_57 : decode cX10_flows 57 = .ok (.ifCond .ne 20, 3) := by decide +kernel
theorem dX10_flows_60 : decode cX10_flows 60 = .ok (.iload 5, 2) := by decide +kernel
theorem dX10_flows_62 : decode cX10_flows 62 = .ok (.aload_n 0, 1) := by decide +kernel
theorem dX10_flows_63 : decode cX10_flows 63 = .ok (.getfield 28, 3) := by decide +kernel
theorem dX10_flows_66 : decode cX10_flows 66 = .ok (.bipush 8, 2) := by decide +kernel
theorem dX10_flows_68 : decode cX10_flows 68 = .ok (.iload_n 3, 1) := by decide +kernel
theorem dX10_flows_69 : decode cX10_flows 69 = .ok (.imul, 1) := by decide +kernel
theorem dX10_flows_70 : decode cX10_flows 70 = .ok (.iload 4, 2) := by decide +kernel
theorem dX10_flows_72 : decode cX10_flows 72 = .ok (.iadd, 1) := by decide +kernel
theorem dX10_flows_73 : decode cX10_flows 73 = .ok (.iaload, 1) := by decide +kernel
theorem dX10_flows_74 : decode cX10_flows 74 = .ok (.if_icmp .eq 7, 3) := by decide +kernel
theorem dX10_flows_77 : decode cX10_flows 77 = .ok (.iconst 1, 1) := by decide +kernel
theorem dX10_flows_78 : decode cX10_flows 78 = .ok (.goto 4, 3) := by decide +kernel
theorem dX10_flows_81 : decode cX10_flows 81 = .ok (.iconst 0, 1) := by decide +kernel
theorem dX10_flows_82 : decode cX10_flows 82 = .ok (.istore_n 2, 1) := by decide +kernel
theorem dX10_flows_83 : decode cX10_flows 83 = .ok (.aload_n 0, 1) := by decide +kernel
theorem dX10_flows_84 : decode cX10_flows 84 = .ok (.getfield 28, 3) := by decide +kernel
theorem dX10_flows_87 : decode cX10_flows 87 = .ok (.bipush 8, 2) := by decide +kernel
theorem dX10_flows_89 : decode cX10_flows 89 = .ok (.iload_n 3, 1) := by decide +kernel
theorem dX10_flows_90 : decode cX10_flows 90 = .ok (.imul, 1) := by decide +kernel
theorem dX10_flows_91 : decode cX10_flows 91 = .ok (.iload 4, 2) := by decide +kernel
theorem dX10_flows_93 : decode cX10_flows 93 = .ok (.iadd, 1) := by decide +kernel
theorem dX10_flows_94 : decode cX10_flows 94 = .ok (.iload 5, 2) := by decide +kernel
theorem dX10_flows_96 : decode cX10_flows 96 = .ok (.iastore, 1) := by decide +kernel
theorem dX10_flows_97 : decode cX10_flows 97 = .ok (.iinc 4 1, 3) := by decide +kernel
theorem dX10_flows_100 : decode cX10_flows 100 = .ok (.goto (-85), 3) := by decide +kernel
theorem dX10_flows_103 : decode cX10_flows 103 = .ok (.iinc 3 1, 3) := by decide +kernel
theorem dX10_flows_106 : decode cX10_flows 106 = .ok (.goto (-102), 3) := by decide +kernel
theorem dX10_flows_109 : decode cX10_flows 109 = .ok (.iload_n 2, 1) := by decide +kernel
theorem dX10_flows_110 : decode cX10_flows 110 = .ok (.ireturn, 1) := by decide +kernel
def f_X10_flows_L15 (p1 : Int32) (v2 : Int32) (v6 : Int32) (v7 : Int32) (s8 : sh_S) : Option ((Int32 × Int32 × sh_S) ⊕ (Int32 × sh_S)) := (if (8 : Int32) ≤ v7 then some (.inr (v6, s8)) else ob (f_X10_nextOf p1 s8) (fun v11 => ob (f_X10_isIn v11 v2) (fun v12 => (if v12 = 0 then some (.inr (v6, s8)) else gu (inb (((8 : Int32) * v2) + v7) 192) (ob (f_X10_behind p1 v7 s8) (fun v14 => lb (((s8 7 (ix (((8 : Int32) * v2) + v7))) ||| v14)) (fun v15 => ob (if v6 = 0 then gu (inb (((8 : Int32) * v2) + v7) 192) ((if v15 = (s8 7 (ix (((8 : Int32) * v2) + v7))) then some (0 : Int32) else some (1 : Int32))) else some (1 : Int32)) (fun v16 => gu (inb (((8 : Int32) * v2) + v7) 192) (lb (ur s8 7 (upd (s8 7) (ix (((8 : Int32) * v2) + v7)) v15)) (fun s19 => lb (v7 + (1 : Int32)) (fun v20 => some (.inl (v16, v20, s19)))))))))))))
def f_X10_flows_L4 (p1 : Int32) (v1 : Int32) (v2 : Int32) (s3 : sh_S) : Option ((Int32 × Int32 × sh_S) ⊕ (Int32 × sh_S)) := (if (s3 0 0) ≤ v2 then some (.inr (v1, s3)) else ob2 (lp (fun q => f_X10_flows_L15 p1 v2 q.1 q.2.1 q.2.2) FU (v1, (0 : Int32), s3)) (fun v9 s10 => lb (v2 + (1 : Int32)) (fun v21 => some (.inl (v9, v21, s10)))))
def f_X10_flows (p1 : Int32) (s0 : sh_S) : Option (Int32 × sh_S) := ob2 (lp (fun q => f_X10_flows_L4 p1 q.1 q.2.1 q.2.2) FU ((0 : Int32), (0 : Int32), s0)) (fun v4 s5 => gu (v4 = 0 ∨ v4 = 1) (some (v4, s5)))
set_option maxRecDepth 100000 in
set_option maxHeartbeats 4000000 in
theorem c_X10_flows (p1 : Int32) (s0 : sh_S) (r : Int32) (s9x : sh_S) (hf : f_X10_flows p1 s0 = some (r, s9x)) : Ctr yX10_flows cX10_flows 6 (some .boolean) ({ frames := 4, cells := 0, slots := 0, locals := 87 } : Room) shM [.ref 0, .int p1] s0 (some (.int r)) s9x := by
  refine Ctr.mk (ri := .ireturn) (by decide) (Nat.le_of_ble_eq_true rfl) (Rt_z r) ?_
  intro G h hL hR hret
  refine k_drop (lv' := [(0, .ref 0), (1, .int p1)]) [0, 1] rfl ?_
  unfold f_X10_flows at hf
  refine k_iconst (pc := 0) h dX10_flows_0 kc_iconst_0 ?_
  refine k_istore_n (pc := 1) h dX10_flows_1 rfl (nk hL (by decide)) (lv' := [(0, .ref 0), (1, .int p1), (2, .int (0 : Int32))]) rfl ?_
  refine k_iconst (pc := 2) h dX10_flows_2 kc_iconst_0 ?_
  refine k_istore_n (pc := 3) h dX10_flows_3 rfl (nk hL (by decide)) (lv' := [(0, .ref 0), (1, .int p1), (2, .int (0 : Int32)), (3, .int (0 : Int32))]) rfl ?_
  obtain ⟨v4, s5, hl, hf⟩ := ob2_s hf
  refine k_drop (lv' := [(0, .ref 0), (1, .int p1), (2, .int (0 : Int32)), (3, .int (0 : Int32))]) [0, 1, 2, 3] rfl ?_
  refine lp_s (P := (fun q : Int32 × Int32 × sh_S => sh_K G shM 4 [(0, .ref 0), (1, .int p1), (2, .int q.1), (3, .int q.2.1)] [] q.2.2)) (Q := (fun q : Int32 × sh_S => sh_K G shM 109 [(2, .int q.1)] [] q.2)) (s := ((0 : Int32), (0 : Int32), s0)) ?_ hl ?_
  · clear hf hl
    intro q rr hf kc4
    obtain ⟨v1, v2, s3⟩ := q
    have hf : f_X10_flows_L4 p1 v1 v2 s3 = some rr := hf
    unfold f_X10_flows_L4 at hf
    refine k_iload_n (pc := 4) h dX10_flows_4 rfl 3 rfl ?_
    refine k_aload_n (pc := 5) h dX10_flows_5 rfl 0 rfl ?_
    refine k_getI (pc := 6) h fl_RX10_101 rfl rfl dX10_flows_6 ?_
    refine k_icmp_ge (pc := 9) (tgt := 109) h dX10_flows_9 rfl (fun hc => ?_) (fun hc => ?_)
    · have hf := it_p hc hf
      obtain rfl := so1 hf
      exact k_drop [2] rfl kc4
    · have hf := it_n hc hf
      refine k_iconst (pc := 12) h dX10_flows_12 kc_iconst_0 ?_
      refine k_istore (pc := 13) h dX10_flows_13 (nk hL (by decide)) (lv' := [(0, .ref 0), (1, .int p1), (2, .int v1), (3, .int v2), (4, .int (0 : Int32))]) rfl ?_
      obtain ⟨v9, s10, hl, hf⟩ := ob2_s hf
      refine k_drop (lv' := [(0, .ref 0), (1, .int p1), (2, .int v1), (3, .int v2), (4, .int (0 : Int32))]) [0, 1, 2, 3, 4] rfl ?_
      refine lp_s (P := (fun q : Int32 × Int32 × sh_S => sh_K G shM 15 [(0, .ref 0), (1, .int p1), (2, .int q.1), (3, .int v2), (4, .int q.2.1)] [] q.2.2)) (Q := (fun q : Int32 × sh_S => sh_K G shM 103 [(0, .ref 0), (1, .int p1), (2, .int q.1), (3, .int v2)] [] q.2)) (s := (v1, (0 : Int32), s3)) ?_ hl ?_
      · clear hf hl
        intro q rr hf kc15
        obtain ⟨v6, v7, s8⟩ := q
        have hf : f_X10_flows_L15 p1 v2 v6 v7 s8 = some rr := hf
        unfold f_X10_flows_L15 at hf
        refine k_iload (pc := 15) h dX10_flows_15 4 rfl ?_
        refine k_bipush (pc := 17) h dX10_flows_17 kc_bipush_8 ?_
        refine k_icmp_ge (pc := 19) (tgt := 103) h dX10_flows_19 rfl (fun hc => ?_) (fun hc => ?_)
        · have hf := it_p hc hf
          obtain rfl := so1 hf
          exact k_drop [0, 1, 2, 3] rfl kc15
        · have hf := it_n hc hf
          refine k_aload_n (pc := 22) h dX10_flows_22 rfl 0 rfl ?_
          refine k_iload_n (pc := 23) h dX10_flows_23 rfl 1 rfl ?_
          obtain ⟨v11, cv11, hf⟩ := ob_s hf
          refine k_callV0 (pc := 24) h cv_RX10_140 (c_X10_nextOf p1 s8 v11 cv11) rfl rfl rfl (st1 := [.int v11]) rfl ⟨rfl, rfl⟩ (rk hR (Nat.le_of_ble_eq_true rfl) (Nat.le_of_ble_eq_true rfl)) (Nat.le_of_ble_eq_true rfl) dX10_flows_24 ?_
          refine k_iload_n (pc := 27) h dX10_flows_27 rfl 3 rfl ?_
          obtain ⟨v12, cv12, hf⟩ := ob_s hf
          refine k_callSp (pc := 28) h cs_RX10_89 (c_X10_isIn v11 v2 _ v12 cv12) rfl rfl (st1 := [.int v12]) rfl ⟨rfl, rfl⟩ (rk hR (Nat.le_of_ble_eq_true rfl) (Nat.le_of_ble_eq_true rfl)) (Nat.le_of_ble_eq_true rfl) dX10_flows_28 ?_
          refine k_if_eq (pc := 31) (tgt := 103) h dX10_flows_31 rfl (fun hc => ?_) (fun hc => ?_)
          · have hf := it_p hc hf
            obtain rfl := so1 hf
            exact k_drop [0, 1, 2, 3] rfl kc15
          · have hf := it_n hc hf
            refine k_aload_n (pc := 34) h dX10_flows_34 rfl 0 rfl ?_
            refine k_getR (pc := 35) h fl_RX10_28 rfl rfl dX10_flows_35 ?_
            refine k_bipush (pc := 38) h dX10_flows_38 kc_bipush_8 ?_
            refine k_iload_n (pc := 40) h dX10_flows_40 rfl 3 rfl ?_
            refine k_imul (pc := 41) h dX10_flows_41 ?_
            refine k_iload (pc := 42) h dX10_flows_42 4 rfl ?_
            refine k_iadd (pc := 44) h dX10_flows_44 ?_
            obtain ⟨g13, hf⟩ := gu_s hf
            refine k_iald (pc := 45) (n := 192) h rfl g13 dX10_flows_45 ?_
            refine k_aload_n (pc := 46) h dX10_flows_46 rfl 0 rfl ?_
            refine k_iload_n (pc := 47) h dX10_flows_47 rfl 1 rfl ?_
            refine k_iload (pc := 48) h dX10_flows_48 4 rfl ?_
            obtain ⟨v14, cv14, hf⟩ := ob_s hf
            refine k_callV0 (pc := 50) h cv_RX10_159 (c_X10_behind p1 v7 s8 v14 cv14) rfl rfl rfl (st1 := [.int v14, .int (s8 7 (ix (((8 : Int32) * v2) + v7)))]) rfl ⟨rfl, rfl⟩ (rk hR (Nat.le_of_ble_eq_true rfl) (Nat.le_of_ble_eq_true rfl)) (Nat.le_of_ble_eq_true rfl) dX10_flows_50 ?_
            refine k_ior (pc := 53) h dX10_flows_53 ?_
            obtain ⟨v15, ev15, hf⟩ := lb_s hf
            refine k_top ev15 ?_
            refine k_istore (pc := 54) h dX10_flows_54 (nk hL (by decide)) (lv' := [(0, .ref 0), (1, .int p1), (2, .int v6), (3, .int v2), (4, .int v7), (5, .int v15)]) rfl ?_
            refine k_iload_n (pc := 56) h dX10_flows_56 rfl 2 rfl ?_
            obtain ⟨v16, hj, hf⟩ := ob_s hf
            have kj57 : sh_K G shM 82 [(0, .ref 0), (1, .int p1), (3, .int v2), (4, .int v7), (5, .int v15)] [.int v16] s8 := by
              refine k_istore_n (pc := 82) h dX10_flows_82 rfl (nk hL (by decide)) (lv' := [(0, .ref 0), (1, .int p1), (2, .int v16), (3, .int v2), (4, .int v7), (5, .int v15)]) rfl ?_
              refine k_aload_n (pc := 83) h dX10_flows_83 rfl 0 rfl ?_
              refine k_getR (pc := 84) h fl_RX10_28 rfl rfl dX10_flows_84 ?_
              refine k_bipush (pc := 87) h dX10_flows_87 kc_bipush_8 ?_
              refine k_iload_n (pc := 89) h dX10_flows_89 rfl 3 rfl ?_
              refine k_imul (pc := 90) h dX10_flows_90 ?_
              refine k_iload (pc := 91) h dX10_flows_91 4 rfl ?_
              refine k_iadd (pc := 93) h dX10_flows_93 ?_
              refine k_iload (pc := 94) h dX10_flows_94 5 rfl ?_
              obtain ⟨g18, hf⟩ := gu_s hf
              obtain ⟨s19, es19, hf⟩ := lb_s hf
              refine k_iast (pc := 96) (n := 192) h rfl g18 dX10_flows_96 ?_
              refine k_heap es19 ?_
              obtain ⟨v20, ev20, hf⟩ := lb_s hf
              refine k_iinc (pc := 97) h dX10_flows_97 4 rfl ((congrArg (_ + ·) kc_iconst_1).trans ev20.symm) (nk hL (by decide)) (lv' := [(0, .ref 0), (1, .int p1), (2, .int v16), (3, .int v2), (4, .int v20), (5, .int v15)]) rfl ?_
              refine k_goto (pc := 100) (tgt := 15) h dX10_flows_100 rfl ?_
              obtain rfl := so1 hf
              exact k_drop [0, 1, 2, 3, 4] rfl kc15
            clear hf
            have hf := hj
            clear hj
            refine k_if_ne (pc := 57) (tgt := 77) h dX10_flows_57 rfl (fun hc => ?_) (fun hc => ?_)
            · have hf := it_n hc hf
              refine k_iconst (pc := 77) h dX10_flows_77 kc_iconst_1 ?_
              refine k_goto (pc := 78) (tgt := 82) h dX10_flows_78 rfl ?_
              obtain rfl := so1 hf
              exact k_drop [0, 1, 3, 4, 5] rfl kj57
            · have hf := it_p hc hf
              refine k_iload (pc := 60) h dX10_flows_60 5 rfl ?_
              refine k_aload_n (pc := 62) h dX10_flows_62 rfl 0 rfl ?_
              refine k_getR (pc := 63) h fl_RX10_28 rfl rfl dX10_flows_63 ?_
              refine k_bipush (pc := 66) h dX10_flows_66 kc_bipush_8 ?_
              refine k_iload_n (pc := 68) h dX10_flows_68 rfl 3 rfl ?_
              refine k_imul (pc := 69) h dX10_flows_69 ?_
              refine k_iload (pc := 70) h dX10_flows_70 4 rfl ?_
              refine k_iadd (pc := 72) h dX10_flows_72 ?_
              obtain ⟨g17, hf⟩ := gu_s hf
              refine k_iald (pc := 73) (n := 192) h rfl g17 dX10_flows_73 ?_
              refine k_icmp_eq (pc := 74) (tgt := 81) h dX10_flows_74 rfl (fun hc => ?_) (fun hc => ?_)
              · have hf := it_p hc hf
                refine k_iconst (pc := 81) h dX10_flows_81 kc_iconst_0 ?_
                obtain rfl := so1 hf
                exact k_drop [0, 1, 3, 4, 5] rfl kj57
              · have hf := it_n hc hf
                refine k_iconst (pc := 77) h dX10_flows_77 kc_iconst_1 ?_
                refine k_goto (pc := 78) (tgt := 82) h dX10_flows_78 rfl ?_
                obtain rfl := so1 hf
                exact k_drop [0, 1, 3, 4, 5] rfl kj57
      · obtain ⟨v21, ev21, hf⟩ := lb_s hf
        refine k_iinc (pc := 103) h dX10_flows_103 3 rfl ((congrArg (_ + ·) kc_iconst_1).trans ev21.symm) (nk hL (by decide)) (lv' := [(0, .ref 0), (1, .int p1), (2, .int v9), (3, .int v21)]) rfl ?_
        refine k_goto (pc := 106) (tgt := 4) h dX10_flows_106 rfl ?_
        obtain rfl := so1 hf
        exact k_drop [0, 1, 2, 3] rfl kc4
  · refine k_iload_n (pc := 109) h dX10_flows_109 rfl 0 rfl ?_
    obtain ⟨g22, hf⟩ := gu_s hf
    obtain ⟨rfl, rfl⟩ := so2 hf
    exact hret 110 _ dX10_flows_110 g22
theorem dX10_findsHolding_0 : decode cX10_findsHolding 0 = .ok (.iconst 0, 1) := by decide +kernel
theorem dX10_findsHolding_1 : decode cX10_findsHolding 1 = .ok (.istore_n 1, 1) := by decide +kernel
theorem dX10_findsHolding_2 : decode cX10_findsHolding 2 = .ok (.iload_n 1, 1) := by decide +kernel
theorem dX10_findsHolding_3 : decode cX10_findsHolding 3 = .ok (.sipush 192, 3) := by decide +kernel
theorem dX10_findsHolding_6 : decode cX10_findsHolding 6 = .ok (.if_icmp .ge 34, 3) := by decide +kernel
theorem dX10_findsHolding_9 : decode cX10_findsHolding 9 = .ok (.aload_n 0, 1) := by decide +kernel
theorem dX10_findsHolding_10 : decode cX10_findsHolding 10 = .ok (.getfield 28, 3) := by decide +kernel
theorem dX10_findsHolding_13 : decode cX10_findsHolding 13 = .ok (.iload_n 1, 1) := by decide +kernel
theorem dX10_findsHolding_14 : decode cX10_findsHolding 14 = .ok (.iload_n 1, 1) := by decide +kernel
theorem dX10_findsHolding_15 : decode cX10_findsHolding 15 = .ok (.bipush 8, 2) := by decide +kernel
theorem dX10_findsHolding_17 : decode cX10_findsHolding 17 = .ok (.if_icmp .ge 15, 3) := by decide +kernel
theorem dX10_findsHolding_20 : decode cX10_findsHolding 20 = .ok (.aload_n 0, 1) := by decide +kernel
theorem dX10_findsHolding_21 : decode cX10_findsHolding 21 = .ok (.getfield 101, 3) := by decide +kernel
theorem dX10_findsHolding_24 : decode cX10_findsHolding 24 = .ok (.ifCond .le 8, 3) := by decide +kernel
theorem dX10_findsHolding_27 : decode cX10_findsHolding 27 = .ok (.ldc 158, 2) := by decide +kernel
theorem dX10_findsHolding_29 : decode cX10_findsHolding 29 = .ok (.goto 4, 3) := by decide +kernel
theorem dX10_findsHolding_32 : decode cX10_findsHolding 32 = .ok (.iconst 0, 1) := by decide +kernel
theorem dX10_findsHolding_33 : decode cX10_findsHolding 33 = .ok (.iastore, 1) := by decide +kernel
theorem dX10_findsHolding_34 : decode cX10_findsHolding 34 = .ok (.iinc 1 1, 3) := by decide +kernel
theorem dX10_findsHolding_37 : decode cX10_findsHolding 37 = .ok (.goto (-35), 3) := by decide +kernel
theorem dX10_findsHolding_40 : decode cX10_findsHolding 40 = .ok (.iconst 1, 1) := by decide +kernel
theorem dX10_findsHolding_41 : decode cX10_findsHolding 41 = .ok (.istore_n 1, 1) := by decide +kernel
theorem dX10_findsHolding_42 : decode cX10_findsHolding 42 = .ok (.iconst 0, 1) := by decide +kernel
theorem dX10_findsHolding_43 : decode cX10_findsHolding 43 = .ok (.istore_n 2, 1) := by decide +kernel
theorem dX10_findsHolding_44 : decode cX10_findsHolding 44 = .ok (.iload_n 2, 1) := by decide +kernel
theorem dX10_findsHolding_45 : decode cX10_findsHolding 45 = .ok (.sipush 5000, 3) := by decide +kernel
theorem dX10_findsHolding_48 : decode cX10_findsHolding 48 = .ok (.if_icmp .ge 72, 3) := by decide +kernel
theorem dX10_findsHolding_51 : decode cX10_findsHolding 51 = .ok (.iload_n 1, 1) := by decide +kernel
theorem dX10_findsHolding_52 : decode cX10_findsHolding 52 = .ok (.ifCond .eq 68, 3) := by decide +kernel
theorem dX10_findsHolding_55 : decode cX10_findsHolding 55 = .ok (.iconst 0, 1) := by decide +kernel
theorem dX10_findsHolding_56 : decode cX10_findsHolding 56 = .ok (.istore_n 1, 1) := by decide +kernel
theorem dX10_findsHolding_57 : decode cX10_findsHolding 57 = .ok (.iconst 0, 1) := by decide +kernel
theorem dX10_findsHolding_58 : decode cX10_findsHolding 58 = .ok (.istore_n 3, 1) := by decide +kernel
theorem dX10_findsHolding_59 : decode cX10_findsHolding 59 = .ok (.iload_n 3, 1) := by decide +kernel
theorem dX10_findsHolding_60 : decode cX10_findsHolding 60 = .ok (.aload_n 0, 1) := by decide +kernel
theorem dX10_findsHolding_61 : decode cX10_findsHolding 61 = .ok (.getfield 101, 3) := by decide +kernel
theorem dX10_findsHolding_64 : decode cX10_findsHolding 64 = .ok (.if_icmp .ge 50, 3) := by decide +kernel
theorem dX10_findsHolding_67 : decode cX10_findsHolding 67 = .ok (.aload_n 0, 1) := by decide +kernel
theorem dX10_findsHolding_68 : decode cX10_findsHolding 68 = .ok (.getfield 146, 3) := by decide +kernel
theorem dX10_findsHolding_71 : decode cX10_findsHolding 71 = .ok (.iload_n 3, 1) := by decide +kernel
theorem dX10_findsHolding_72 : decode cX10_findsHolding 72 = .ok (.invokestatic 89, 3) := by decide +kernel
theorem dX10_findsHolding_75 : decode cX10_findsHolding 75 = .ok (.ifCond .eq 15, 3) := by decide +kernel
theorem dX10_findsHolding_78 : decode cX10_findsHolding 78 = .ok (.aload_n 0, 1) := by decide +kernel
theorem dX10_findsHolding_79 : decode cX10_findsHolding 79 = .ok (.iload_n 3, 1) := by decide +kernel
theorem dX10_findsHolding_80 : decode cX10_findsHolding 80 = .ok (.invokevirtual 162, 3) := by decide +kernel
theorem dX10_findsHolding_83 : decode cX10_findsHolding 83 = .ok (.ifCond .eq 7, 3) := by decide +kernel
theorem dX10_findsHolding_86 : decode cX10_findsHolding 86 = .ok (.iconst 1, 1) := by decide +kernel
theorem dX10_findsHolding_87 : decode cX10_findsHolding 87 = .ok (.goto 4, 3) := by decide +kernel
theorem dX10_findsHolding_90 : decode cX10_findsHolding 90 = .ok (.iconst 0, 1) := by decide +kernel
theorem dX10_findsHolding_91 : decode cX10_findsHolding 91 = .ok (.istore 4, 2) := by decide +kernel
theorem dX10_findsHolding_93 : decode cX10_findsHolding 93 = .ok (.iload_n 1, 1) := by decide +kernel
theorem dX10_findsHolding_94 : decode cX10_findsHolding 94 = .ok (.ifCond .ne 8, 3) := by decide +kernel
theorem dX10_findsHolding_97 : decode cX10_findsHolding 97 = .ok (.iload 4, 2) := by decide +kernel
theorem dX10_findsHolding_99 : decode cX10_findsHolding 99 = .ok (.ifCond .eq 7, 3) := by decide +kernel
theorem dX10_findsHolding_102 : decode cX10_findsHolding 102 = .ok (.iconst 1, 1) := by decide +kernel
theorem dX10_findsHolding_103 : decode cX10_findsHolding 103 = .ok (.goto 4, 3) := by decide +kernel
theorem dX10_findsHolding_106 : decode cX10_findsHolding 106 = .ok (.iconst 0, 1) := by decide +kernel
theorem dX10_findsHolding_107 : decode cX10_findsHolding 107 = .ok (.istore_n 1, 1) := by decide +kernel
theorem dX10_findsHolding_108 : decode cX10_findsHolding 108 = .ok (.iinc 3 1, 3) := by decide +kernel
theorem dX10_findsHolding_111 : decode cX10_findsHolding 111 = .ok (.goto (-52), 3) := by decide +kernel
theorem dX10_findsHolding_114 : decode cX10_findsHolding 114 = .ok (.iinc 2 1, 3) := by decide +kernel
theorem dX10_findsHolding_117 : decode cX10_findsHolding 117 = .ok (.goto (-73), 3) := by decide +kernel
theorem dX10_findsHolding_120 : decode cX10_findsHolding 120 = .ok (.return_, 1) := by decide +kernel
def f_X10_findsHolding_L2 (v1 : Int32) (s2 : sh_S) : Option ((Int32 × sh_S) ⊕ (sh_S)) := (if (192 : Int32) ≤ v1 then some (.inr s2) else ob (if (8 : Int32) ≤ v1 then some (0 : Int32) else (if (s2 0 0) ≤ 0 then some (0 : Int32) else some (16777216 : Int32))) (fun v4 => gu (inb v1 192) (lb (ur s2 7 (upd (s2 7) (ix v1) v4)) (fun s6 => lb (v1 + (1 : Int32)) (fun v7 => some (.inl (v7, s6)))))))
def f_X10_findsHolding_L59 (v12 : Int32) (v13 : Int32) (s14 : sh_S) : Option ((Int32 × Int32 × sh_S) ⊕ (Int32 × sh_S)) := (if (s14 0 0) ≤ v13 then some (.inr (v12, s14)) else ob (f_X10_isIn (s14 0 5) v13) (fun v17 => ob2 (if v17 = 0 then some ((0 : Int32), s14) else ob2 (f_X10_flows v13 s14) (fun v20 s21 => (if v20 = 0 then some ((0 : Int32), s21) else some ((1 : Int32), s21)))) (fun v18 s19 => ob (if v12 = 0 then (if v18 = 0 then some (0 : Int32) else some (1 : Int32)) else some (1 : Int32)) (fun v22 => lb (v13 + (1 : Int32)) (fun v23 => some (.inl (v22, v23, s19)))))))
def f_X10_findsHolding_L44 (v8 : Int32) (v9 : Int32) (s10 : sh_S) : Option ((Int32 × Int32 × sh_S) ⊕ (sh_S)) := (if (5000 : Int32) ≤ v9 then some (.inr s10) else (if v8 = 0 then some (.inr s10) else ob2 (lp (fun q => f_X10_findsHolding_L59 q.1 q.2.1 q.2.2) FU ((0 : Int32), (0 : Int32), s10)) (fun v15 s16 => lb (v9 + (1 : Int32)) (fun v24 => some (.inl (v15, v24, s16))))))
def f_X10_findsHolding  (s0 : sh_S) : Option (sh_S) := ob (lp (fun q => f_X10_findsHolding_L2 q.1 q.2) FU ((0 : Int32), s0)) (fun s3 => ob (lp (fun q => f_X10_findsHolding_L44 q.1 q.2.1 q.2.2) FU ((1 : Int32), (0 : Int32), s3)) (fun s11 => some s11))
set_option maxRecDepth 100000 in
set_option maxHeartbeats 4000000 in
theorem c_X10_findsHolding  (s0 : sh_S) (s9x : sh_S) (hf : f_X10_findsHolding  s0 = some s9x) : Ctr yX10_findsHolding cX10_findsHolding 5 none ({ frames := 5, cells := 0, slots := 0, locals := 112 } : Room) shM [.ref 0] s0 none s9x := by
  refine Ctr.mk (ri := .return_) (by decide) (Nat.le_of_ble_eq_true rfl) (Rt_v) ?_
  intro G h hL hR hret
  refine k_drop (lv' := [(0, .ref 0)]) [0] rfl ?_
  unfold f_X10_findsHolding at hf
  refine k_iconst (pc := 0) h dX10_findsHolding_0 kc_iconst_0 ?_
  refine k_istore_n (pc := 1) h dX10_findsHolding_1 rfl (nk hL (by decide)) (lv' := [(0, .ref 0), (1, .int (0 : Int32))]) rfl ?_
  obtain ⟨s3, hl, hf⟩ := ob_s hf
  refine k_drop (lv' := [(0, .ref 0), (1, .int (0 : Int32))]) [0, 1] rfl ?_
  refine lp_s (P := (fun q : Int32 × sh_S => sh_K G shM 2 [(0, .ref 0), (1, .int q.1)] [] q.2)) (Q := (fun q : sh_S => sh_K G shM 40 [(0, .ref 0)] [] q)) (s := ((0 : Int32), s0)) ?_ hl ?_
  · clear hf hl
    intro q rr hf kc2
    obtain ⟨v1, s2⟩ := q
    have hf : f_X10_findsHolding_L2 v1 s2 = some rr := hf
    unfold f_X10_findsHolding_L2 at hf
    refine k_iload_n (pc := 2) h dX10_findsHolding_2 rfl 1 rfl ?_
    refine k_sipush (pc := 3) h dX10_findsHolding_3 kc_sipush_192 ?_
    refine k_icmp_ge (pc := 6) (tgt := 40) h dX10_findsHolding_6 rfl (fun hc => ?_) (fun hc => ?_)
    · have hf := it_p hc hf
      obtain rfl := so1 hf
      exact k_drop [0] rfl kc2
    · have hf := it_n hc hf
      refine k_aload_n (pc := 9) h dX10_findsHolding_9 rfl 0 rfl ?_
      refine k_getR (pc := 10) h fl_RX10_28 rfl rfl dX10_findsHolding_10 ?_
      refine k_iload_n (pc := 13) h dX10_findsHolding_13 rfl 1 rfl ?_
      refine k_iload_n (pc := 14) h dX10_findsHolding_14 rfl 1 rfl ?_
      refine k_bipush (pc := 15) h dX10_findsHolding_15 kc_bipush_8 ?_
      obtain ⟨v4, hj, hf⟩ := ob_s hf
      have kj17 : sh_K G shM 33 [(0, .ref 0), (1, .int v1)] [.int v4, .int v1, .ref 7] s2 := by
        obtain ⟨g5, hf⟩ := gu_s hf
        obtain ⟨s6, es6, hf⟩ := lb_s hf
        refine k_iast (pc := 33) (n := 192) h rfl g5 dX10_findsHolding_33 ?_
        refine k_heap es6 ?_
        obtain ⟨v7, ev7, hf⟩ := lb_s hf
        refine k_iinc (pc := 34) h dX10_findsHolding_34 1 rfl ((congrArg (_ + ·) kc_iconst_1).trans ev7.symm) (nk hL (by decide)) (lv' := [(0, .ref 0), (1, .int v7)]) rfl ?_
        refine k_goto (pc := 37) (tgt := 2) h dX10_findsHolding_37 rfl ?_
        obtain rfl := so1 hf
        exact k_drop [0, 1] rfl kc2
      clear hf
      have hf := hj
      clear hj
      refine k_icmp_ge (pc := 17) (tgt := 32) h dX10_findsHolding_17 rfl (fun hc => ?_) (fun hc => ?_)
      · have hf := it_p hc hf
        refine k_iconst (pc := 32) h dX10_findsHolding_32 kc_iconst_0 ?_
        obtain rfl := so1 hf
        exact k_drop [0, 1] rfl kj17
      · have hf := it_n hc hf
        refine k_aload_n (pc := 20) h dX10_findsHolding_20 rfl 0 rfl ?_
        refine k_getI (pc := 21) h fl_RX10_101 rfl rfl dX10_findsHolding_21 ?_
        refine k_if_le (pc := 24) (tgt := 32) h dX10_findsHolding_24 rfl (fun hc => ?_) (fun hc => ?_)
        · have hf := it_p hc hf
          refine k_iconst (pc := 32) h dX10_findsHolding_32 kc_iconst_0 ?_
          obtain rfl := so1 hf
          exact k_drop [0, 1] rfl kj17
        · have hf := it_n hc hf
          refine k_ldc (pc := 27) h dX10_findsHolding_27 wd_1182 ?_
          refine k_goto (pc := 29) (tgt := 33) h dX10_findsHolding_29 rfl ?_
          obtain rfl := so1 hf
          exact k_drop [0, 1] rfl kj17
  · refine k_iconst (pc := 40) h dX10_findsHolding_40 kc_iconst_1 ?_
    refine k_istore_n (pc := 41) h dX10_findsHolding_41 rfl (nk hL (by decide)) (lv' := [(0, .ref 0), (1, .int (1 : Int32))]) rfl ?_
    refine k_iconst (pc := 42) h dX10_findsHolding_42 kc_iconst_0 ?_
    refine k_istore_n (pc := 43) h dX10_findsHolding_43 rfl (nk hL (by decide)) (lv' := [(0, .ref 0), (1, .int (1 : Int32)), (2, .int (0 : Int32))]) rfl ?_
    obtain ⟨s11, hl, hf⟩ := ob_s hf
    refine k_drop (lv' := [(0, .ref 0), (1, .int (1 : Int32)), (2, .int (0 : Int32))]) [0, 1, 2] rfl ?_
    refine lp_s (P := (fun q : Int32 × Int32 × sh_S => sh_K G shM 44 [(0, .ref 0), (1, .int q.1), (2, .int q.2.1)] [] q.2.2)) (Q := (fun q : sh_S => sh_K G shM 120 [] [] q)) (s := ((1 : Int32), (0 : Int32), s3)) ?_ hl ?_
    · clear hf hl
      intro q rr hf kc44
      obtain ⟨v8, v9, s10⟩ := q
      have hf : f_X10_findsHolding_L44 v8 v9 s10 = some rr := hf
      unfold f_X10_findsHolding_L44 at hf
      refine k_iload_n (pc := 44) h dX10_findsHolding_44 rfl 2 rfl ?_
      refine k_sipush (pc := 45) h dX10_findsHolding_45 kc_sipush_5000 ?_
      refine k_icmp_ge (pc := 48) (tgt := 120) h dX10_findsHolding_48 rfl (fun hc => ?_) (fun hc => ?_)
      · have hf := it_p hc hf
        obtain rfl := so1 hf
        exact k_drop [] rfl kc44
      · have hf := it_n hc hf
        refine k_iload_n (pc := 51) h dX10_findsHolding_51 rfl 1 rfl ?_
        refine k_if_eq (pc := 52) (tgt := 120) h dX10_findsHolding_52 rfl (fun hc => ?_) (fun hc => ?_)
        · have hf := it_p hc hf
          obtain rfl := so1 hf
          exact k_drop [] rfl kc44
        · have hf := it_n hc hf
          refine k_iconst (pc := 55) h dX10_findsHolding_55 kc_iconst_0 ?_
          refine k_istore_n (pc := 56) h dX10_findsHolding_56 rfl (nk hL (by decide)) (lv' := [(0, .ref 0), (1, .int (0 : Int32)), (2, .int v9)]) rfl ?_
          refine k_iconst (pc := 57) h dX10_findsHolding_57 kc_iconst_0 ?_
          refine k_istore_n (pc := 58) h dX10_findsHolding_58 rfl (nk hL (by decide)) (lv' := [(0, .ref 0), (1, .int (0 : Int32)), (2, .int v9), (3, .int (0 : Int32))]) rfl ?_
          obtain ⟨v15, s16, hl, hf⟩ := ob2_s hf
          refine k_drop (lv' := [(0, .ref 0), (1, .int (0 : Int32)), (2, .int v9), (3, .int (0 : Int32))]) [0, 1, 2, 3] rfl ?_
          refine lp_s (P := (fun q : Int32 × Int32 × sh_S => sh_K G shM 59 [(0, .ref 0), (1, .int q.1), (2, .int v9), (3, .int q.2.1)] [] q.2.2)) (Q := (fun q : Int32 × sh_S => sh_K G shM 114 [(0, .ref 0), (1, .int q.1), (2, .int v9)] [] q.2)) (s := ((0 : Int32), (0 : Int32), s10)) ?_ hl ?_
          · clear hf hl
            intro q rr hf kc59
            obtain ⟨v12, v13, s14⟩ := q
            have hf : f_X10_findsHolding_L59 v12 v13 s14 = some rr := hf
            unfold f_X10_findsHolding_L59 at hf
            refine k_iload_n (pc := 59) h dX10_findsHolding_59 rfl 3 rfl ?_
            refine k_aload_n (pc := 60) h dX10_findsHolding_60 rfl 0 rfl ?_
            refine k_getI (pc := 61) h fl_RX10_101 rfl rfl dX10_findsHolding_61 ?_
            refine k_icmp_ge (pc := 64) (tgt := 114) h dX10_findsHolding_64 rfl (fun hc => ?_) (fun hc => ?_)
            · have hf := it_p hc hf
              obtain rfl := so1 hf
              exact k_drop [0, 1, 2] rfl kc59
            · have hf := it_n hc hf
              refine k_aload_n (pc := 67) h dX10_findsHolding_67 rfl 0 rfl ?_
              refine k_getI (pc := 68) h fl_RX10_146 rfl rfl dX10_findsHolding_68 ?_
              refine k_iload_n (pc := 71) h dX10_findsHolding_71 rfl 3 rfl ?_
              obtain ⟨v17, cv17, hf⟩ := ob_s hf
              refine k_callSp (pc := 72) h cs_RX10_89 (c_X10_isIn (s14 0 5) v13 _ v17 cv17) rfl rfl (st1 := [.int v17]) rfl ⟨rfl, rfl⟩ (rk hR (Nat.le_of_ble_eq_true rfl) (Nat.le_of_ble_eq_true rfl)) (Nat.le_of_ble_eq_true rfl) dX10_findsHolding_72 ?_
              obtain ⟨v18, s19, hj, hf⟩ := ob2_s hf
              have kj75 : sh_K G shM 91 [(0, .ref 0), (1, .int v12), (2, .int v9), (3, .int v13)] [.int v18] s19 := by
                refine k_istore (pc := 91) h dX10_findsHolding_91 (nk hL (by decide)) (lv' := [(0, .ref 0), (1, .int v12), (2, .int v9), (3, .int v13), (4, .int v18)]) rfl ?_
                refine k_iload_n (pc := 93) h dX10_findsHolding_93 rfl 1 rfl ?_
                obtain ⟨v22, hj, hf⟩ := ob_s hf
                have kj94 : sh_K G shM 107 [(0, .ref 0), (2, .int v9), (3, .int v13)] [.int v22] s19 := by
                  refine k_istore_n (pc := 107) h dX10_findsHolding_107 rfl (nk hL (by decide)) (lv' := [(0, .ref 0), (1, .int v22), (2, .int v9), (3, .int v13)]) rfl ?_
                  obtain ⟨v23, ev23, hf⟩ := lb_s hf
                  refine k_iinc (pc := 108) h dX10_findsHolding_108 3 rfl ((congrArg (_ + ·) kc_iconst_1).trans ev23.symm) (nk hL (by decide)) (lv' := [(0, .ref 0), (1, .int v22), (2, .int v9), (3, .int v23)]) rfl ?_
                  refine k_goto (pc := 111) (tgt := 59) h dX10_findsHolding_111 rfl ?_
                  obtain rfl := so1 hf
                  exact k_drop [0, 1, 2, 3] rfl kc59
                clear hf
                have hf := hj
                clear hj
                refine k_if_ne (pc := 94) (tgt := 102) h dX10_findsHolding_94 rfl (fun hc => ?_) (fun hc => ?_)
                · have hf := it_n hc hf
                  refine k_iconst (pc := 102) h dX10_findsHolding_102 kc_iconst_1 ?_
                  refine k_goto (pc := 103) (tgt := 107) h dX10_findsHolding_103 rfl ?_
                  obtain rfl := so1 hf
                  exact k_drop [0, 2, 3] rfl kj94
                · have hf := it_p hc hf
                  refine k_iload (pc := 97) h dX10_findsHolding_97 4 rfl ?_
                  refine k_if_eq (pc := 99) (tgt := 106) h dX10_findsHolding_99 rfl (fun hc => ?_) (fun hc => ?_)
                  · have hf := it_p hc hf
                    refine k_iconst (pc := 106) h dX10_findsHolding_106 kc_iconst_0 ?_
                    obtain rfl := so1 hf
                    exact k_drop [0, 2, 3] rfl kj94
                  · have hf := it_n hc hf
                    refine k_iconst (pc := 102) h dX10_findsHolding_102 kc_iconst_1 ?_
                    refine k_goto (pc := 103) (tgt := 107) h dX10_findsHolding_103 rfl ?_
                    obtain rfl := so1 hf
                    exact k_drop [0, 2, 3] rfl kj94
              clear hf
              have hf := hj
              clear hj
              refine k_if_eq (pc := 75) (tgt := 90) h dX10_findsHolding_75 rfl (fun hc => ?_) (fun hc => ?_)
              · have hf := it_p hc hf
                refine k_iconst (pc := 90) h dX10_findsHolding_90 kc_iconst_0 ?_
                obtain ⟨rfl, rfl⟩ := so2 hf
                exact k_drop [0, 1, 2, 3] rfl kj75
              · have hf := it_n hc hf
                refine k_aload_n (pc := 78) h dX10_findsHolding_78 rfl 0 rfl ?_
                refine k_iload_n (pc := 79) h dX10_findsHolding_79 rfl 3 rfl ?_
                obtain ⟨v20, s21, cv20, hf⟩ := ob2_s hf
                refine k_callV0 (pc := 80) h cv_RX10_162 (c_X10_flows v13 s14 v20 s21 cv20) rfl rfl rfl (st1 := [.int v20]) rfl ⟨rfl, rfl⟩ (rk hR (Nat.le_of_ble_eq_true rfl) (Nat.le_of_ble_eq_true rfl)) (Nat.le_of_ble_eq_true rfl) dX10_findsHolding_80 ?_
                refine k_if_eq (pc := 83) (tgt := 90) h dX10_findsHolding_83 rfl (fun hc => ?_) (fun hc => ?_)
                · have hf := it_p hc hf
                  refine k_iconst (pc := 90) h dX10_findsHolding_90 kc_iconst_0 ?_
                  obtain ⟨rfl, rfl⟩ := so2 hf
                  exact k_drop [0, 1, 2, 3] rfl kj75
                · have hf := it_n hc hf
                  refine k_iconst (pc := 86) h dX10_findsHolding_86 kc_iconst_1 ?_
                  refine k_goto (pc := 87) (tgt := 91) h dX10_findsHolding_87 rfl ?_
                  obtain ⟨rfl, rfl⟩ := so2 hf
                  exact k_drop [0, 1, 2, 3] rfl kj75
          · obtain ⟨v24, ev24, hf⟩ := lb_s hf
            refine k_iinc (pc := 114) h dX10_findsHolding_114 2 rfl ((congrArg (_ + ·) kc_iconst_1).trans ev24.symm) (nk hL (by decide)) (lv' := [(0, .ref 0), (1, .int v15), (2, .int v24)]) rfl ?_
            refine k_goto (pc := 117) (tgt := 44) h dX10_findsHolding_117 rfl ?_
            obtain rfl := so1 hf
            exact k_drop [0, 1, 2] rfl kc44
    · obtain rfl := so1 hf
      exact hret 120 _ dX10_findsHolding_120 trivial
theorem dX10_kills_0 : decode cX10_kills 0 = .ok (.aload_n 0, 1) := by decide +kernel
theorem dX10_kills_1 : decode cX10_kills 1 = .ok (.getfield 16, 3) := by decide +kernel
theorem dX10_kills_4 : decode cX10_kills 4 = .ok (.iload_n 2, 1) := by decide +kernel
theorem dX10_kills_5 : decode cX10_kills 5 = .ok (.iaload, 1) := by decide +kernel
theorem dX10_kills_6 : decode cX10_kills 6 = .ok (.invokestatic 134, 3) := by decide +kernel
theorem dX10_kills_9 : decode cX10_kills 9 = .ok (.ifCond .eq 27, 3) := by decide +kernel
theorem dX10_kills_12 : decode cX10_kills 12 = .ok (.aload_n 0, 1) := by decide +kernel
theorem dX10_kills_13 : decode cX10_kills 13 = .ok (.iload_n 1, 1) := by decide +kernel
theorem dX10_kills_14 : decode cX10_kills 14 = .ok (.invokevirtual 155, 3) := by decide +kernel
theorem dX10_kills_17 : decode cX10_kills 17 = .ok (.aload_n 0, 1) := by decide +kernel
theorem dX10_kills_18 : decode cX10_kills 18 = .ok (.getfield 16, 3) := by decide +kernel
theorem dX10_kills_21 : decode cX10_kills 21 = .ok (.iload_n 2, 1) := by decide +kernel
theorem dX10_kills_22 : decode cX10_kills 22 = .ok (.iaload, 1) := by decide +kernel
theorem dX10_kills_23 : decode cX10_kills 23 = .ok (.invokestatic 128, 3) := by decide +kernel
theorem dX10_kills_26 : decode cX10_kills 26 = .ok (.invokestatic 89, 3) := by decide +kernel
theorem dX10_kills_29 : decode cX10_kills 29 = .ok (.ifCond .eq 7, 3) := by decide +kernel
theorem dX10_kills_32 : decode cX10_kills 32 = .ok (.iconst 1, 1) := by decide +kernel
theorem dX10_kills_33 : decode cX10_kills 33 = .ok (.goto 4, 3) := by decide +kernel
theorem dX10_kills_36 : decode cX10_kills 36 = .ok (.iconst 0, 1) := by decide +kernel
theorem dX10_kills_37 : decode cX10_kills 37 = .ok (.ireturn, 1) := by decide +kernel
def f_X10_kills (p1 : Int32) (p2 : Int32) (s0 : sh_S) : Option (Int32) := gu (inb p2 24) (ob (f_X10_through (s0 3 (ix p2))) (fun v2 => ob (if v2 = 0 then some (0 : Int32) else ob (f_X10_writesOf p1 s0) (fun v4 => gu (inb p2 24) (ob (f_X10_variable (s0 3 (ix p2))) (fun v6 => ob (f_X10_isIn v4 v6) (fun v7 => (if v7 = 0 then some (0 : Int32) else some (1 : Int32))))))) (fun v3 => gu (v3 = 0 ∨ v3 = 1) (some v3))))
set_option maxRecDepth 100000 in
set_option maxHeartbeats 4000000 in
theorem c_X10_kills (p1 : Int32) (p2 : Int32) (s0 : sh_S) (r : Int32) (hf : f_X10_kills p1 p2 s0 = some r) : Ctr yX10_kills cX10_kills 3 (some .boolean) ({ frames := 3, cells := 0, slots := 0, locals := 66 } : Room) shM [.ref 0, .int p1, .int p2] s0 (some (.int r)) s0 := by
  refine Ctr.mk (ri := .ireturn) (by decide) (Nat.le_of_ble_eq_true rfl) (Rt_z r) ?_
  intro G h hL hR hret
  refine k_drop (lv' := [(0, .ref 0), (1, .int p1), (2, .int p2)]) [0, 1, 2] rfl ?_
  unfold f_X10_kills at hf
  refine k_aload_n (pc := 0) h dX10_kills_0 rfl 0 rfl ?_
  refine k_getR (pc := 1) h fl_RX10_16 rfl rfl dX10_kills_1 ?_
  refine k_iload_n (pc := 4) h dX10_kills_4 rfl 2 rfl ?_
  obtain ⟨g1, hf⟩ := gu_s hf
  refine k_iald (pc := 5) (n := 24) h rfl g1 dX10_kills_5 ?_
  obtain ⟨v2, cv2, hf⟩ := ob_s hf
  refine k_callSp (pc := 6) h cs_RX10_134 (c_X10_through (s0 3 (ix p2)) _ v2 cv2) rfl rfl (st1 := [.int v2]) rfl ⟨rfl, rfl⟩ (rk hR (Nat.le_of_ble_eq_true rfl) (Nat.le_of_ble_eq_true rfl)) (Nat.le_of_ble_eq_true rfl) dX10_kills_6 ?_
  obtain ⟨v3, hj, hf⟩ := ob_s hf
  have kj9 : sh_K G shM 37 [] [.int v3] s0 := by
    obtain ⟨g8, hf⟩ := gu_s hf
    obtain rfl := so1 hf
    exact hret 37 _ dX10_kills_37 g8
  clear hf
  have hf := hj
  clear hj
  refine k_if_eq (pc := 9) (tgt := 36) h dX10_kills_9 rfl (fun hc => ?_) (fun hc => ?_)
  · have hf := it_p hc hf
    refine k_iconst (pc := 36) h dX10_kills_36 kc_iconst_0 ?_
    obtain rfl := so1 hf
    exact k_drop [] rfl kj9
  · have hf := it_n hc hf
    refine k_aload_n (pc := 12) h dX10_kills_12 rfl 0 rfl ?_
    refine k_iload_n (pc := 13) h dX10_kills_13 rfl 1 rfl ?_
    obtain ⟨v4, cv4, hf⟩ := ob_s hf
    refine k_callV0 (pc := 14) h cv_RX10_155 (c_X10_writesOf p1 s0 v4 cv4) rfl rfl rfl (st1 := [.int v4]) rfl ⟨rfl, rfl⟩ (rk hR (Nat.le_of_ble_eq_true rfl) (Nat.le_of_ble_eq_true rfl)) (Nat.le_of_ble_eq_true rfl) dX10_kills_14 ?_
    refine k_aload_n (pc := 17) h dX10_kills_17 rfl 0 rfl ?_
    refine k_getR (pc := 18) h fl_RX10_16 rfl rfl dX10_kills_18 ?_
    refine k_iload_n (pc := 21) h dX10_kills_21 rfl 2 rfl ?_
    obtain ⟨g5, hf⟩ := gu_s hf
    refine k_iald (pc := 22) (n := 24) h rfl g5 dX10_kills_22 ?_
    obtain ⟨v6, cv6, hf⟩ := ob_s hf
    refine k_callSp (pc := 23) h cs_RX10_128 (c_X10_variable (s0 3 (ix p2)) _ v6 cv6) rfl rfl (st1 := [.int v6, .int v4]) rfl ⟨rfl, rfl⟩ (rk hR (Nat.le_of_ble_eq_true rfl) (Nat.le_of_ble_eq_true rfl)) (Nat.le_of_ble_eq_true rfl) dX10_kills_23 ?_
    obtain ⟨v7, cv7, hf⟩ := ob_s hf
    refine k_callSp (pc := 26) h cs_RX10_89 (c_X10_isIn v4 v6 _ v7 cv7) rfl rfl (st1 := [.int v7]) rfl ⟨rfl, rfl⟩ (rk hR (Nat.le_of_ble_eq_true rfl) (Nat.le_of_ble_eq_true rfl)) (Nat.le_of_ble_eq_true rfl) dX10_kills_26 ?_
    refine k_if_eq (pc := 29) (tgt := 36) h dX10_kills_29 rfl (fun hc => ?_) (fun hc => ?_)
    · have hf := it_p hc hf
      refine k_iconst (pc := 36) h dX10_kills_36 kc_iconst_0 ?_
      obtain rfl := so1 hf
      exact k_drop [] rfl kj9
    · have hf := it_n hc hf
      refine k_iconst (pc := 32) h dX10_kills_32 kc_iconst_1 ?_
      refine k_goto (pc := 33) (tgt := 37) h dX10_kills_33 rfl ?_
      obtain rfl := so1 hf
      exact k_drop [] rfl kj9
theorem dX10_isNever_0 : decode cX10_isNever 0 = .ok (.aload_n 0, 1) := by decide +kernel
theorem dX10_isNever_1 : decode cX10_isNever 1 = .ok (.getfield 16, 3) := by decide +kernel
theorem dX10_isNever_4 : decode cX10_isNever 4 = .ok (.iload_n 1, 1) := by decide +kernel
theorem dX10_isNever_5 : decode cX10_isNever 5 = .ok (.iaload, 1) := by decide +kernel
theorem dX10_isNever_6 : decode cX10_isNever 6 = .ok (.invokestatic 134, 3) := by decide +kernel
theorem dX10_isNever_9 : decode cX10_isNever 9 = .ok (.ifCond .eq 25, 3) := by decide +kernel
theorem dX10_isNever_12 : decode cX10_isNever 12 = .ok (.aload_n 0, 1) := by decide +kernel
theorem dX10_isNever_13 : decode cX10_isNever 13 = .ok (.getfield 16, 3) := by decide +kernel
theorem dX10_isNever_16 : decode cX10_isNever 16 = .ok (.iload_n 1, 1) := by decide +kernel
theorem dX10_isNever_17 : decode cX10_isNever 17 = .ok (.iaload, 1) := by decide +kernel
theorem dX10_isNever_18 : decode cX10_isNever 18 = .ok (.invokestatic 128, 3) := by decide +kernel
theorem dX10_isNever_21 : decode cX10_isNever 21 = .ok (.aload_n 0, 1) := by decide +kernel
theorem dX10_isNever_22 : decode cX10_isNever 22 = .ok (.getfield 13, 3) := by decide +kernel
theorem dX10_isNever_25 : decode cX10_isNever 25 = .ok (.iload_n 1, 1) := by decide +kernel
theorem dX10_isNever_26 : decode cX10_isNever 26 = .ok (.iaload, 1) := by decide +kernel
theorem dX10_isNever_27 : decode cX10_isNever 27 = .ok (.if_icmp .ne 7, 3) := by decide +kernel
theorem dX10_isNever_30 : decode cX10_isNever 30 = .ok (.iconst 1, 1) := by decide +kernel
theorem dX10_isNever_31 : decode cX10_isNever 31 = .ok (.goto 4, 3) := by decide +kernel
theorem dX10_isNever_34 : decode cX10_isNever 34 = .ok (.iconst 0, 1) := by decide +kernel
theorem dX10_isNever_35 : decode cX10_isNever 35 = .ok (.ireturn, 1) := by decide +kernel
def f_X10_isNever (p1 : Int32) (s0 : sh_S) : Option (Int32) := gu (inb p1 24) (ob (f_X10_through (s0 3 (ix p1))) (fun v2 => ob (if v2 = 0 then some (0 : Int32) else gu (inb p1 24) (ob (f_X10_variable (s0 3 (ix p1))) (fun v5 => gu (inb p1 24) ((if v5 = (s0 2 (ix p1)) then some (1 : Int32) else some (0 : Int32)))))) (fun v3 => gu (v3 = 0 ∨ v3 = 1) (some v3))))
set_option maxRecDepth 100000 in
set_option maxHeartbeats 4000000 in
theorem c_X10_isNever (p1 : Int32) (s0 : sh_S) (r : Int32) (hf : f_X10_isNever p1 s0 = some r) : Ctr yX10_isNever cX10_isNever 2 (some .boolean) ({ frames := 1, cells := 0, slots := 0, locals := 20 } : Room) shM [.ref 0, .int p1] s0 (some (.int r)) s0 := by
  refine Ctr.mk (ri := .ireturn) (by decide) (Nat.le_of_ble_eq_true rfl) (Rt_z r) ?_
  intro G h hL hR hret
  refine k_drop (lv' := [(0, .ref 0), (1, .int p1)]) [0, 1] rfl ?_
  unfold f_X10_isNever at hf
  refine k_aload_n (pc := 0) h dX10_isNever_0 rfl 0 rfl ?_
  refine k_getR (pc := 1) h fl_RX10_16 rfl rfl dX10_isNever_1 ?_
  refine k_iload_n (pc := 4) h dX10_isNever_4 rfl 1 rfl ?_
  obtain ⟨g1, hf⟩ := gu_s hf
  refine k_iald (pc := 5) (n := 24) h rfl g1 dX10_isNever_5 ?_
  obtain ⟨v2, cv2, hf⟩ := ob_s hf
  refine k_callSp (pc := 6) h cs_RX10_134 (c_X10_through (s0 3 (ix p1)) _ v2 cv2) rfl rfl (st1 := [.int v2]) rfl ⟨rfl, rfl⟩ (rk hR (Nat.le_of_ble_eq_true rfl) (Nat.le_of_ble_eq_true rfl)) (Nat.le_of_ble_eq_true rfl) dX10_isNever_6 ?_
  obtain ⟨v3, hj, hf⟩ := ob_s hf
  have kj9 : sh_K G shM 35 [] [.int v3] s0 := by
    obtain ⟨g7, hf⟩ := gu_s hf
    obtain rfl := so1 hf
    exact hret 35 _ dX10_isNever_35 g7
  clear hf
  have hf := hj
  clear hj
  refine k_if_eq (pc := 9) (tgt := 34) h dX10_isNever_9 rfl (fun hc => ?_) (fun hc => ?_)
  · have hf := it_p hc hf
    refine k_iconst (pc := 34) h dX10_isNever_34 kc_iconst_0 ?_
    obtain rfl := so1 hf
    exact k_drop [] rfl kj9
  · have hf := it_n hc hf
    refine k_aload_n (pc := 12) h dX10_isNever_12 rfl 0 rfl ?_
    refine k_getR (pc := 13) h fl_RX10_16 rfl rfl dX10_isNever_13 ?_
    refine k_iload_n (pc := 16) h dX10_isNever_16 rfl 1 rfl ?_
    obtain ⟨g4, hf⟩ := gu_s hf
    refine k_iald (pc := 17) (n := 24) h rfl g4 dX10_isNever_17 ?_
    obtain ⟨v5, cv5, hf⟩ := ob_s hf
    refine k_callSp (pc := 18) h cs_RX10_128 (c_X10_variable (s0 3 (ix p1)) _ v5 cv5) rfl rfl (st1 := [.int v5]) rfl ⟨rfl, rfl⟩ (rk hR (Nat.le_of_ble_eq_true rfl) (Nat.le_of_ble_eq_true rfl)) (Nat.le_of_ble_eq_true rfl) dX10_isNever_18 ?_
    refine k_aload_n (pc := 21) h dX10_isNever_21 rfl 0 rfl ?_
    refine k_getR (pc := 22) h fl_RX10_13 rfl rfl dX10_isNever_22 ?_
    refine k_iload_n (pc := 25) h dX10_isNever_25 rfl 1 rfl ?_
    obtain ⟨g6, hf⟩ := gu_s hf
    refine k_iald (pc := 26) (n := 24) h rfl g6 dX10_isNever_26 ?_
    refine k_icmp_ne (pc := 27) (tgt := 34) h dX10_isNever_27 rfl (fun hc => ?_) (fun hc => ?_)
    · have hf := it_n hc hf
      refine k_iconst (pc := 34) h dX10_isNever_34 kc_iconst_0 ?_
      obtain rfl := so1 hf
      exact k_drop [] rfl kj9
    · have hf := it_p hc hf
      refine k_iconst (pc := 30) h dX10_isNever_30 kc_iconst_1 ?_
      refine k_goto (pc := 31) (tgt := 35) h dX10_isNever_31 rfl ?_
      obtain rfl := so1 hf
      exact k_drop [] rfl kj9
theorem dX10_findsScope_0 : decode cX10_findsScope 0 = .ok (.aload_n 0, 1) := by decide +kernel
theorem dX10_findsScope_1 : decode cX10_findsScope 1 = .ok (.iload_n 1, 1) := by decide +kernel
theorem dX10_findsScope_2 : decode cX10_findsScope 2 = .ok (.invokevirtual 165, 3) := by decide +kernel
theorem dX10_findsScope_5 : decode cX10_findsScope 5 = .ok (.ifCond .eq 7, 3) := by decide +kernel
theorem dX10_findsScope_8 : decode cX10_findsScope 8 = .ok (.iconst 0, 1) := by decide +kernel
theorem dX10_findsScope_9 : decode cX10_findsScope 9 = .ok (.goto 14, 3) := by decide +kernel
theorem dX10_findsScope_12 : decode cX10_findsScope 12 = .ok (.aload_n 0, 1) := by decide +kernel
theorem dX10_findsScope_13 : decode cX10_findsScope 13 = .ok (.getfield 25, 3) := by decide +kernel
theorem dX10_findsScope_16 : decode cX10_findsScope 16 = .ok (.aload_n 0, 1) := by decide +kernel
theorem dX10_findsScope_17 : decode cX10_findsScope 17 = .ok (.getfield 13, 3) := by decide +kernel
theorem dX10_findsScope_20 : decode cX10_findsScope 20 = .ok (.iload_n 1, 1) := by decide +kernel
theorem dX10_findsScope_21 : decode cX10_findsScope 21 = .ok (.iaload, 1) := by decide +kernel
theorem dX10_findsScope_22 : decode cX10_findsScope 22 = .ok (.iaload, 1) := by decide +kernel
theorem dX10_findsScope_23 : decode cX10_findsScope 23 = .ok (.istore_n 2, 1) := by decide +kernel
theorem dX10_findsScope_24 : decode cX10_findsScope 24 = .ok (.aload_n 0, 1) := by decide +kernel
theorem dX10_findsScope_25 : decode cX10_findsScope 25 = .ok (.iload_n 1, 1) := by decide +kernel
theorem dX10_findsScope_26 : decode cX10_findsScope 26 = .ok (.invokevirtual 140, 3) := by decide +kernel
theorem dX10_findsScope_29 : decode cX10_findsScope 29 = .ok (.iload_n 2, 1) := by decide +kernel
theorem dX10_findsScope_30 : decode cX10_findsScope 30 = .ok (.iand, 1) := by decide +kernel
theorem dX10_findsScope_31 : decode cX10_findsScope 31 = .ok (.istore_n 3, 1) := by decide +kernel
theorem dX10_findsScope_32 : decode cX10_findsScope 32 = .ok (.iconst 0, 1) := by decide +kernel
theorem dX10_findsScope_33 : decode cX10_findsScope 33 = .ok (.istore 4, 2) := by decide +kernel
theorem dX10_findsScope_35 : decode cX10_findsScope 35 = .ok (.iconst 0, 1) := by decide +kernel
theorem dX10_findsScope_36 : decode cX10_findsScope 36 = .ok (.istore 5, 2) := by decide +kernel
theorem dX10_findsScope_38 : decode cX10_findsScope 38 = .ok (.iload 5, 2) := by decide +kernel
theorem dX10_findsScope_40 : decode cX10_findsScope 40 = .ok (.bipush 48, 2) := by decide +kernel
theorem dX10_findsScope_42 : decode cX10_findsScope 42 = .ok (.if_icmp .ge 168, 3) := by decide +kernel
theorem dX10_findsScope_45 : decode cX10_findsScope 45 = .ok (.iconst 0, 1) := by decide +kernel
theorem dX10_findsScope_46 : decode cX10_findsScope 46 = .ok (.istore 6, 2) := by decide +kernel
theorem dX10_findsScope_48 : decode cX10_findsScope 48 = .ok (.iload 6, 2) := by decide +kernel
theorem dX10_findsScope_50 : decode cX10_findsScope 50 = .ok (.aload_n 0, 1) := by decide +kernel
theorem dX10_findsScope_51 : decode cX10_findsScope 51 = .ok (.getfield 101, 3) := by decide +kernel
theorem dX10_findsScope_54 : decode cX10_findsScope 54 = .ok (.if_icmp .ge 150, 3) := by decide +kernel
theorem dX10_findsScope_57 : decode cX10_findsScope 57 = .ok (.aload_n 0, 1) := by decide +kernel
theorem dX10_findsScope_58 : decode cX10_findsScope 58 = .ok (.iload 6, 2) := by decide +kernel
theorem dX10_findsScope_60 : decode cX10_findsScope 60 = .ok (.iload_n 1, 1) := by decide +kernel
theorem dX10_findsScope_61 : decode cX10_findsScope 61 = .ok (.invokevirtual 168, 3) := by decide +kernel
theorem dX10_findsScope_64 : decode cX10_findsScope 64 = .ok (.ifCond .eq 7, 3) := by decide +kernel
theorem dX10_findsScope_67 : decode cX10_findsScope 67 = .ok (.iconst 0, 1) := by decide +kernel
theorem dX10_findsScope_68 : decode cX10_findsScope 68 = .ok (.goto 11, 3) := by decide +kernel
theorem dX10_findsScope_71 : decode cX10_findsScope 71 = .ok (.aload_n 0, 1) := by decide +kernel
theorem dX10_findsScope_72 : decode cX10_findsScope 72 = .ok (.iload 6, 2) := by decide +kernel
theorem dX10_findsScope_74 : decode cX10_findsScope 74 = .ok (.invokevirtual 140, 3) := by decide +kernel
theorem dX10_findsScope_77 : decode cX10_findsScope 77 = .ok (.iload_n 2, 1) := by decide +kernel
theorem dX10_findsScope_78 : decode cX10_findsScope 78 = .ok (.iand, 1) := by decide +kernel
theorem dX10_findsScope_79 : decode cX10_findsScope 79 = .ok (.istore 7, 2) := by decide +kernel
theorem dX10_findsScope_81 : decode cX10_findsScope 81 = .ok (.aload_n 0, 1) := by decide +kernel
theorem dX10_findsScope_82 : decode cX10_findsScope 82 = .ok (.iload 6, 2) := by decide +kernel
theorem dX10_findsScope_84 : decode cX10_findsScope 84 = .ok (.invokevirtual 171, 3) := by decide +kernel
theorem dX10_findsScope_87 : decode cX10_findsScope 87 = .ok (.istore 8, 2) := by decide +kernel
theorem dX10_findsScope_89 : decode cX10_findsScope 89 = .ok (.aload_n 0, 1) := by decide +kernel
theorem dX10_findsScope_90 : decode cX10_findsScope 90 = .ok (.iload_n 1, 1) := by decide +kernel
theorem dX10_findsScope_91 : decode cX10_findsScope 91 = .ok (.invokevirtual 174, 3) := by decide +kernel
theorem dX10_findsScope_94 : decode cX10_findsScope 94 = .ok (.iconst 5, 1) := by decide +kernel
theorem dX10_findsScope_95 : decode cX10_findsScope 95 = .ok (.if_icmp .ne 42, 3) := by decide +kernel
theorem dX10_findsScope_98 : decode cX10_findsScope 98 = .ok (.iload 8, 2) := by decide +kernel
theorem dX10_findsScope_100 : decode cX10_findsScope 100 = .ok (.iconst (-1), 1) := by decide +kernel
theorem dX10_findsScope_101 : decode cX10_findsScope 101 = .ok (.if_icmp .eq 36, 3) := by decide +kernel
theorem dX10_findsScope_104 : decode cX10_findsScope 104 = .ok (.aload_n 0, 1) := by decide +kernel
theorem dX10_findsScope_105 : decode cX10_findsScope 105 = .ok (.getfield 28, 3) := by decide +kernel
theorem dX10_findsScope_108 : decode cX10_findsScope 108 = .ok (.bipush 8, 2) := by decide +kernel
theorem dX10_findsScope_110 : decode cX10_findsScope 110 = .ok (.iload 6, 2) := by decide +kernel
theorem dX10_findsScope_112 : decode cX10_findsScope 112 = .ok (.imul, 1) := by decide +kernel
theorem dX10_findsScope_113 : decode cX10_findsScope 113 = .ok (.iload 8, 2) := by decide +kernel
theorem dX10_findsScope_115 : decode cX10_findsScope 115 = .ok (.ifCond .ge 7, 3) := by decide +kernel
theorem dX10_findsScope_118 : decode cX10_findsScope 118 = .ok (.iconst 0, 1) := by decide +kernel
theorem dX10_findsScope_119 : decode cX10_findsScope 119 = .ok (.goto 5, 3) := by decide +kernel
theorem dX10_findsScope_122 : decode cX10_findsScope 122 = .ok (.iload 8, 2) := by decide +kernel
theorem dX10_findsScope_124 : decode cX10_findsScope 124 = .ok (.iadd, 1) := by decide +kernel
theorem dX10_findsScope_125 : decode cX10_findsScope 125 = .ok (.iaload, 1) := by decide +kernel
theorem dX10_findsScope_126 : decode cX10_findsScope 126 = .ok (.iload_n 1, 1) := by decide +kernel
theorem dX10_findsScope_127 : decode cX10_findsScope 127 = .ok (.invokestatic 89, 3) := by decide +kernel
theorem dX10_findsScope_130 : decode cX10_findsScope 130 = .ok (.ifCond .eq 7, 3) := by decide +kernel
theorem dX10_findsScope_133 : decode cX10_findsScope 133 = .ok (.iconst 1, 1) := by decide +kernel
theorem dX10_findsScope_134 : decode cX10_findsScope 134 = .ok (.goto 4, 3) := by decide +kernel
theorem dX10_findsScope_137 : decode cX10_findsScope 137 = .ok (.iconst 0, 1) := by decide +kernel
theorem dX10_findsScope_138 : decode cX10_findsScope 138 = .ok (.istore 9, 2) := by decide +kernel
theorem dX10_findsScope_140 : decode cX10_findsScope 140 = .ok (.iload 4, 2) := by decide +kernel
theorem dX10_findsScope_142 : decode cX10_findsScope 142 = .ok (.iload 4, 2) := by decide +kernel
theorem dX10_findsScope_144 : decode cX10_findsScope 144 = .ok (.iload 6, 2) := by decide +kernel
theorem dX10_findsScope_146 : decode cX10_findsScope 146 = .ok (.invokestatic 89, 3) := by decide +kernel
theorem dX10_findsScope_149 : decode cX10_findsScope 149 = .ok (.ifCond .ne 17, 3) := by decide +kernel
theorem dX10_findsScope_152 : decode cX10_findsScope 152 = .ok (.iload_n 3, 1) := by decide +kernel
theorem dX10_findsScope_153 : decode cX10_findsScope 153 = .ok (.iload 6, 2) := by decide +kernel
theorem dX10_findsScope_155 : decode cX10_findsScope 155 = .ok (.invokestatic 89, 3) := by decide +kernel
theorem dX10_findsScope_158 : decode cX10_findsScope 158 = .ok (.ifCond .eq 13, 3) := by decide +kernel
theorem dX10_findsScope_161 : decode cX10_findsScope 161 = .ok (.iload 9, 2) := by decide +kernel
theorem dX10_findsScope_163 : decode cX10_findsScope 163 = .ok (.ifCond .eq 8, 3) := by decide +kernel
theorem dX10_findsScope_166 : decode cX10_findsScope 166 = .ok (.iload 7, 2) := by decide +kernel
theorem dX10_findsScope_168 : decode cX10_findsScope 168 = .ok (.goto 4, 3) := by decide +kernel
theorem dX10_findsScope_171 : decode cX10_findsScope 171 = .ok (.iconst 0, 1) := by decide +kernel
theorem dX10_findsScope_172 : decode cX10_findsScope 172 = .ok (.ior, 1) := by decide +kernel
theorem dX10_findsScope_173 : decode cX10_findsScope 173 = .ok (.istore 4, 2) := by decide +kernel
theorem dX10_findsScope_175 : decode cX10_findsScope 175 = .ok (.iload_n 3, 1) := by decide +kernel
theorem dX10_findsScope_176 : decode cX10_findsScope 176 = .ok (.iload_n 3, 1) := by decide +kernel
theorem dX10_findsScope_177 : decode cX10_findsScope 177 = .ok (.iload 6, 2) := by decide +kernel
theorem dX10_findsScope_179 : decode cX10_findsScope 179 = .ok (.invokestatic 89, 3) := by decide +kernel
theorem dX10_findsScope_182 : decode cX10_findsScope 182 = .ok (.ifCond .eq 13, 3) := by decide +kernel
theorem dX10_findsScope_185 : decode cX10_findsScope 185 = .ok (.iload 9, 2) := by decide +kernel
theorem dX10_findsScope_187 : decode cX10_findsScope 187 = .ok (.ifCond .ne 8, 3) := by decide +kernel
theorem dX10_findsScope_190 : decode cX10_findsScope 190 = .ok (.iload 7, 2) := by decide +kernel
theorem dX10_findsScope_192 : decode cX10_findsScope 192 = .ok (.goto 4, 3) := by decide +kernel
theorem dX10_findsScope_195 : decode cX10_findsScope 195 = .ok (.iconst 0, 1) := by decide +kernel
theorem dX10_findsScope_196 : decode cX10_findsScope 196 = .ok (.ior, 1) := by decide +kernel
theorem dX10_findsScope_197 : decode cX10_findsScope 197 = .ok (.istore_n 3, 1) := by decide +kernel
theorem dX10_findsScope_198 : decode cX10_findsScope 198 = .ok (.iinc 6 1, 3) := by decide +kernel
theorem dX10_findsScope_201 : decode cX10_findsScope 201 = .ok (.goto (-153), 3) := by decide +kernel
theorem dX10_findsScope_204 : decode cX10_findsScope 204 = .ok (.iinc 5 1, 3) := by decide +kernel
theorem dX10_findsScope_207 : decode cX10_findsScope 207 = .ok (.goto (-169), 3) := by decide +kernel
theorem dX10_findsScope_210 : decode cX10_findsScope 210 = .ok (.iconst 0, 1) := by decide +kernel
theorem dX10_findsScope_211 : decode cX10_findsScope 211 = .ok (.istore 5, 2) := by decide +kernel
theorem dX10_findsScope_213 : decode cX10_findsScope 213 = .ok (.iload 5, 2) := by decide +kernel
theorem dX10_findsScope_215 : decode cX10_findsScope 215 = .ok (.aload_n 0, 1) := by decide +kernel
theorem dX10_findsScope_216 : decode cX10_findsScope 216 = .ok (.getfield 101, 3) := by decide +kernel
theorem dX10_findsScope_219 : decode cX10_findsScope 219 = .ok (.if_icmp .ge 65, 3) := by decide +kernel
theorem dX10_findsScope_222 : decode cX10_findsScope 222 = .ok (.aload_n 0, 1) := by decide +kernel
theorem dX10_findsScope_223 : decode cX10_findsScope 223 = .ok (.getfield 31, 3) := by decide +kernel
theorem dX10_findsScope_226 : decode cX10_findsScope 226 = .ok (.iload 5, 2) := by decide +kernel
theorem dX10_findsScope_228 : decode cX10_findsScope 228 = .ok (.dup2, 1) := by decide +kernel
theorem dX10_findsScope_229 : decode cX10_findsScope 229 = .ok (.iaload, 1) := by decide +kernel
theorem dX10_findsScope_230 : decode cX10_findsScope 230 = .ok (.iload_n 3, 1) := by decide +kernel
theorem dX10_findsScope_231 : decode cX10_findsScope 231 = .ok (.iload 4, 2) := by decide +kernel
theorem dX10_findsScope_233 : decode cX10_findsScope 233 = .ok (.ior, 1) := by decide +kernel
theorem dX10_findsScope_234 : decode cX10_findsScope 234 = .ok (.iload 5, 2) := by decide +kernel
theorem dX10_findsScope_236 : decode cX10_findsScope 236 = .ok (.invokestatic 89, 3) := by decide +kernel
theorem dX10_findsScope_239 : decode cX10_findsScope 239 = .ok (.ifCond .eq 9, 3) := by decide +kernel
theorem dX10_findsScope_242 : decode cX10_findsScope 242 = .ok (.iconst 1, 1) := by decide +kernel
theorem dX10_findsScope_243 : decode cX10_findsScope 243 = .ok (.iload_n 1, 1) := by decide +kernel
theorem dX10_findsScope_244 : decode cX10_findsScope 244 = .ok (.ishl, 1) := by decide +kernel
theorem dX10_findsScope_245 : decode cX10_findsScope 245 = .ok (.goto 4, 3) := by decide +kernel
theorem dX10_findsScope_248 : decode cX10_findsScope 248 = .ok (.iconst 0, 1) := by decide +kernel
theorem dX10_findsScope_249 : decode cX10_findsScope 249 = .ok (.ior, 1) := by decide +kernel
theorem dX10_findsScope_250 : decode cX10_findsScope 250 = .ok (.iastore, 1) := by decide +kernel
theorem dX10_findsScope_251 : decode cX10_findsScope 251 = .ok (.aload_n 0, 1) := by decide +kernel
theorem dX10_findsScope_252 : decode cX10_findsScope 252 = .ok (.getfield 34, 3) := by decide +kernel
theorem dX10_findsScope_255 : decode cX10_findsScope 255 = .ok (.iload 5, 2) := by decide +kernel
theorem dX10_findsScope_257 : decode cX10_findsScope 257 = .ok (.dup2, 1) := by decide +kernel
theorem dX10_findsScope_258 : decode cX10_findsScope 258 = .ok (.iaload, 1) := by decide +kernel
theorem dX10_findsScope_259 : decode cX10_findsScope 259 = .ok (.iload 4, 2) := by decide +kernel
theorem dX10_findsScope_261 : decode cX10_findsScope 261 = .ok (.iload 5, 2) := by decide +kernel
theorem dX10_findsScope_263 : decode cX10_findsScope 263 = .ok (.invokestatic 89, 3) := by decide +kernel
theorem dX10_findsScope_266 : decode cX10_findsScope 266 = .ok (.ifCond .eq 9, 3) := by decide +kernel
theorem dX10_findsScope_269 : decode cX10_findsScope 269 = .ok (.iconst 1, 1) := by decide +kernel
theorem dX10_findsScope_270 : decode cX10_findsScope 270 = .ok (.iload_n 1, 1) := by decide +kernel
theorem dX10_findsScope_271 : decode cX10_findsScope 271 = .ok (.ishl, 1) := by decide +kernel
theorem dX10_findsScope_272 : decode cX10_findsScope 272 = .ok (.goto 4, 3) := by decide +kernel
theorem dX10_findsScope_275 : decode cX10_findsScope 275 = .ok (.iconst 0, 1) := by decide +kernel
theorem dX10_findsScope_276 : decode cX10_findsScope 276 = .ok (.ior, 1) := by decide +kernel
theorem dX10_findsScope_277 : decode cX10_findsScope 277 = .ok (.iastore, 1) := by decide +kernel
theorem dX10_findsScope_278 : decode cX10_findsScope 278 = .ok (.iinc 5 1, 3) := by decide +kernel
theorem dX10_findsScope_281 : decode cX10_findsScope 281 = .ok (.goto (-68), 3) := by decide +kernel
theorem dX10_findsScope_284 : decode cX10_findsScope 284 = .ok (.return_, 1) := by decide +kernel
def f_X10_findsScope_L48 (p1 : Int32) (s0 : sh_S) (v2 : Int32) (v12 : Int32) (v13 : Int32) (v14 : Int32) : Option ((Int32 × Int32 × Int32) ⊕ (Int32 × Int32)) := (if (s0 0 0) ≤ v14 then some (.inr (v12, v13)) else ob (f_X10_kills v14 p1 s0) (fun v17 => ob (if v17 = 0 then ob (f_X10_nextOf v14 s0) (fun v19 => some (v19 &&& v2)) else some (0 : Int32)) (fun v18 => ob (f_X10_goesBy v14 s0) (fun v20 => ob (f_X10_kind p1 s0) (fun v21 => ob (if v21 = (5 : Int32) then (if v20 = (-1 : Int32) then some (0 : Int32) else ob (if 0 ≤ v20 then some v20 else some (0 : Int32)) (fun v23 => gu (inb (((8 : Int32) * v14) + v23) 192) (ob (f_X10_isIn (s0 7 (ix (((8 : Int32) * v14) + v23))) p1) (fun v25 => (if v25 = 0 then some (0 : Int32) else some (1 : Int32)))))) else some (0 : Int32)) (fun v22 => ob (f_X10_isIn v13 v14) (fun v26 => ob (if v26 = 0 then ob (f_X10_isIn v12 v14) (fun v28 => (if v28 = 0 then some (0 : Int32) else (if v22 = 0 then some (0 : Int32) else some v18))) else some v18) (fun v27 => lb ((v13 ||| v27)) (fun v29 => ob (f_X10_isIn v12 v14) (fun v30 => ob (if v30 = 0 then some (0 : Int32) else (if v22 = 0 then some v18 else some (0 : Int32))) (fun v31 => lb ((v12 ||| v31)) (fun v32 => lb (v14 + (1 : Int32)) (fun v33 => some (.inl (v32, v29, v33)))))))))))))))
def f_X10_findsScope_L38 (p1 : Int32) (s0 : sh_S) (v2 : Int32) (v7 : Int32) (v8 : Int32) (v9 : Int32) : Option ((Int32 × Int32 × Int32) ⊕ (Int32 × Int32)) := (if (48 : Int32) ≤ v9 then some (.inr (v7, v8)) else ob2 (lp (fun q => f_X10_findsScope_L48 p1 s0 v2 q.1 q.2.1 q.2.2) FU (v7, v8, (0 : Int32))) (fun v15 v16 => lb (v9 + (1 : Int32)) (fun v34 => some (.inl (v15, v16, v34)))))
def f_X10_findsScope_L213 (p1 : Int32) (v10 : Int32) (v11 : Int32) (v35 : Int32) (s36 : sh_S) : Option ((Int32 × sh_S) ⊕ (sh_S)) := (if (s36 0 0) ≤ v35 then some (.inr s36) else gu (inb v35 24) (ob (f_X10_isIn (v10 ||| v11) v35) (fun v39 => ob (if v39 = 0 then some (0 : Int32) else some ((1 : Int32) <<< (p1 &&& 31))) (fun v40 => gu (inb v35 24) (lb (ur s36 8 (upd (s36 8) (ix v35) ((s36 8 (ix v35)) ||| v40))) (fun s42 => gu (inb v35 24) (ob (f_X10_isIn v11 v35) (fun v44 => ob (if v44 = 0 then some (0 : Int32) else some ((1 : Int32) <<< (p1 &&& 31))) (fun v45 => gu (inb v35 24) (lb (ur s42 9 (upd (s42 9) (ix v35) ((s42 9 (ix v35)) ||| v45))) (fun s47 => lb (v35 + (1 : Int32)) (fun v48 => some (.inl (v48, s47))))))))))))))
def f_X10_findsScope (p1 : Int32) (s0 : sh_S) : Option (sh_S) := ob (f_X10_isNever p1 s0) (fun v1 => ob (if v1 = 0 then gu (inb p1 24) (gu (inb (s0 2 (ix p1)) 8) (some (s0 6 (ix (s0 2 (ix p1)))))) else some (0 : Int32)) (fun v2 => ob (f_X10_nextOf p1 s0) (fun v5 => lb ((v5 &&& v2)) (fun v6 => ob2 (lp (fun q => f_X10_findsScope_L38 p1 s0 v2 q.1 q.2.1 q.2.2) FU (v6, (0 : Int32), (0 : Int32))) (fun v10 v11 => ob (lp (fun q => f_X10_findsScope_L213 p1 v10 v11 q.1 q.2) FU ((0 : Int32), s0)) (fun s37 => some s37))))))
set_option maxRecDepth 100000 in
set_option maxHeartbeats 4000000 in
theorem c_X10_findsScope (p1 : Int32) (s0 : sh_S) (s9x : sh_S) (hf : f_X10_findsScope p1 s0 = some s9x) : Ctr yX10_findsScope cX10_findsScope 10 none ({ frames := 4, cells := 0, slots := 0, locals := 88 } : Room) shM [.ref 0, .int p1] s0 none s9x := by
  refine Ctr.mk (ri := .return_) (by decide) (Nat.le_of_ble_eq_true rfl) (Rt_v) ?_
  intro G h hL hR hret
  refine k_drop (lv' := [(0, .ref 0), (1, .int p1)]) [0, 1] rfl ?_
  unfold f_X10_findsScope at hf
  refine k_aload_n (pc := 0) h dX10_findsScope_0 rfl 0 rfl ?_
  refine k_iload_n (pc := 1) h dX10_findsScope_1 rfl 1 rfl ?_
  obtain ⟨v1, cv1, hf⟩ := ob_s hf
  refine k_callV0 (pc := 2) h cv_RX10_165 (c_X10_isNever p1 s0 v1 cv1) rfl rfl rfl (st1 := [.int v1]) rfl ⟨rfl, rfl⟩ (rk hR (Nat.le_of_ble_eq_true rfl) (Nat.le_of_ble_eq_true rfl)) (Nat.le_of_ble_eq_true rfl) dX10_findsScope_2 ?_
  obtain ⟨v2, hj, hf⟩ := ob_s hf
  have kj5 : sh_K G shM 23 [(0, .ref 0), (1, .int p1)] [.int v2] s0 := by
    refine k_istore_n (pc := 23) h dX10_findsScope_23 rfl (nk hL (by decide)) (lv' := [(0, .ref 0), (1, .int p1), (2, .int v2)]) rfl ?_
    refine k_aload_n (pc := 24) h dX10_findsScope_24 rfl 0 rfl ?_
    refine k_iload_n (pc := 25) h dX10_findsScope_25 rfl 1 rfl ?_
    obtain ⟨v5, cv5, hf⟩ := ob_s hf
    refine k_callV0 (pc := 26) h cv_RX10_140 (c_X10_nextOf p1 s0 v5 cv5) rfl rfl rfl (st1 := [.int v5]) rfl ⟨rfl, rfl⟩ (rk hR (Nat.le_of_ble_eq_true rfl) (Nat.le_of_ble_eq_true rfl)) (Nat.le_of_ble_eq_true rfl) dX10_findsScope_26 ?_
    refine k_iload_n (pc := 29) h dX10_findsScope_29 rfl 2 rfl ?_
    refine k_iand (pc := 30) h dX10_findsScope_30 ?_
    obtain ⟨v6, ev6, hf⟩ := lb_s hf
    refine k_top ev6 ?_
    refine k_istore_n (pc := 31) h dX10_findsScope_31 rfl (nk hL (by decide)) (lv' := [(0, .ref 0), (1, .int p1), (2, .int v2), (3, .int v6)]) rfl ?_
    refine k_iconst (pc := 32) h dX10_findsScope_32 kc_iconst_0 ?_
    refine k_istore (pc := 33) h dX10_findsScope_33 (nk hL (by decide)) (lv' := [(0, .ref 0), (1, .int p1), (2, .int v2), (3, .int v6), (4, .int (0 : Int32))]) rfl ?_
    refine k_iconst (pc := 35) h dX10_findsScope_35 kc_iconst_0 ?_
    refine k_istore (pc := 36) h dX10_findsScope_36 (nk hL (by decide)) (lv' := [(0, .ref 0), (1, .int p1), (2, .int v2), (3, .int v6), (4, .int (0 : Int32)), (5, .int (0 : Int32))]) rfl ?_
    obtain ⟨v10, v11, hl, hf⟩ := ob2_s hf
    refine k_drop (lv' := [(0, .ref 0), (1, .int p1), (2, .int v2), (3, .int v6), (4, .int (0 : Int32)), (5, .int (0 : Int32))]) [0, 1, 2, 3, 4, 5] rfl ?_
    refine lp_s (P := (fun q : Int32 × Int32 × Int32 => sh_K G shM 38 [(0, .ref 0), (1, .int p1), (2, .int v2), (3, .int q.1), (4, .int q.2.1), (5, .int q.2.2)] [] s0)) (Q := (fun q : Int32 × Int32 => sh_K G shM 210 [(0, .ref 0), (1, .int p1), (3, .int q.1), (4, .int q.2)] [] s0)) (s := (v6, (0 : Int32), (0 : Int32))) ?_ hl ?_
    · clear hf hl
      intro q rr hf kc38
      obtain ⟨v7, v8, v9⟩ := q
      have hf : f_X10_findsScope_L38 p1 s0 v2 v7 v8 v9 = some rr := hf
      unfold f_X10_findsScope_L38 at hf
      refine k_iload (pc := 38) h dX10_findsScope_38 5 rfl ?_
      refine k_bipush (pc := 40) h dX10_findsScope_40 kc_bipush_48 ?_
      refine k_icmp_ge (pc := 42) (tgt := 210) h dX10_findsScope_42 rfl (fun hc => ?_) (fun hc => ?_)
      · have hf := it_p hc hf
        obtain rfl := so1 hf
        exact k_drop [0, 1, 3, 4] rfl kc38
      · have hf := it_n hc hf
        refine k_iconst (pc := 45) h dX10_findsScope_45 kc_iconst_0 ?_
        refine k_istore (pc := 46) h dX10_findsScope_46 (nk hL (by decide)) (lv' := [(0, .ref 0), (1, .int p1), (2, .int v2), (3, .int v7), (4, .int v8), (5, .int v9), (6, .int (0 : Int32))]) rfl ?_
        obtain ⟨v15, v16, hl, hf⟩ := ob2_s hf
        refine k_drop (lv' := [(0, .ref 0), (1, .int p1), (2, .int v2), (3, .int v7), (4, .int v8), (5, .int v9), (6, .int (0 : Int32))]) [0, 1, 2, 3, 4, 5, 6] rfl ?_
        refine lp_s (P := (fun q : Int32 × Int32 × Int32 => sh_K G shM 48 [(0, .ref 0), (1, .int p1), (2, .int v2), (3, .int q.1), (4, .int q.2.1), (5, .int v9), (6, .int q.2.2)] [] s0)) (Q := (fun q : Int32 × Int32 => sh_K G shM 204 [(0, .ref 0), (1, .int p1), (2, .int v2), (3, .int q.1), (4, .int q.2), (5, .int v9)] [] s0)) (s := (v7, v8, (0 : Int32))) ?_ hl ?_
        · clear hf hl
          intro q rr hf kc48
          obtain ⟨v12, v13, v14⟩ := q
          have hf : f_X10_findsScope_L48 p1 s0 v2 v12 v13 v14 = some rr := hf
          unfold f_X10_findsScope_L48 at hf
          refine k_iload (pc := 48) h dX10_findsScope_48 6 rfl ?_
          refine k_aload_n (pc := 50) h dX10_findsScope_50 rfl 0 rfl ?_
          refine k_getI (pc := 51) h fl_RX10_101 rfl rfl dX10_findsScope_51 ?_
          refine k_icmp_ge (pc := 54) (tgt := 204) h dX10_findsScope_54 rfl (fun hc => ?_) (fun hc => ?_)
          · have hf := it_p hc hf
            obtain rfl := so1 hf
            exact k_drop [0, 1, 2, 3, 4, 5] rfl kc48
          · have hf := it_n hc hf
            refine k_aload_n (pc := 57) h dX10_findsScope_57 rfl 0 rfl ?_
            refine k_iload (pc := 58) h dX10_findsScope_58 6 rfl ?_
            refine k_iload_n (pc := 60) h dX10_findsScope_60 rfl 1 rfl ?_
            obtain ⟨v17, cv17, hf⟩ := ob_s hf
            refine k_callV0 (pc := 61) h cv_RX10_168 (c_X10_kills v14 p1 s0 v17 cv17) rfl rfl rfl (st1 := [.int v17]) rfl ⟨rfl, rfl⟩ (rk hR (Nat.le_of_ble_eq_true rfl) (Nat.le_of_ble_eq_true rfl)) (Nat.le_of_ble_eq_true rfl) dX10_findsScope_61 ?_
            obtain ⟨v18, hj, hf⟩ := ob_s hf
            have kj64 : sh_K G shM 79 [(0, .ref 0), (1, .int p1), (2, .int v2), (3, .int v12), (4, .int v13), (5, .int v9), (6, .int v14)] [.int v18] s0 := by
              refine k_istore (pc := 79) h dX10_findsScope_79 (nk hL (by decide)) (lv' := [(0, .ref 0), (1, .int p1), (2, .int v2), (3, .int v12), (4, .int v13), (5, .int v9), (6, .int v14), (7, .int v18)]) rfl ?_
              refine k_aload_n (pc := 81) h dX10_findsScope_81 rfl 0 rfl ?_
              refine k_iload (pc := 82) h dX10_findsScope_82 6 rfl ?_
              obtain ⟨v20, cv20, hf⟩ := ob_s hf
              refine k_callV0 (pc := 84) h cv_RX10_171 (c_X10_goesBy v14 s0 v20 cv20) rfl rfl rfl (st1 := [.int v20]) rfl ⟨rfl, rfl⟩ (rk hR (Nat.le_of_ble_eq_true rfl) (Nat.le_of_ble_eq_true rfl)) (Nat.le_of_ble_eq_true rfl) dX10_findsScope_84 ?_
              refine k_istore (pc := 87) h dX10_findsScope_87 (nk hL (by decide)) (lv' := [(0, .ref 0), (1, .int p1), (2, .int v2), (3, .int v12), (4, .int v13), (5, .int v9), (6, .int v14), (7, .int v18), (8, .int v20)]) rfl ?_
              refine k_aload_n (pc := 89) h dX10_findsScope_89 rfl 0 rfl ?_
              refine k_iload_n (pc := 90) h dX10_findsScope_90 rfl 1 rfl ?_
              obtain ⟨v21, cv21, hf⟩ := ob_s hf
              refine k_callV0 (pc := 91) h cv_RX10_174 (c_X10_kind p1 s0 v21 cv21) rfl rfl rfl (st1 := [.int v21]) rfl ⟨rfl, rfl⟩ (rk hR (Nat.le_of_ble_eq_true rfl) (Nat.le_of_ble_eq_true rfl)) (Nat.le_of_ble_eq_true rfl) dX10_findsScope_91 ?_
              refine k_iconst (pc := 94) h dX10_findsScope_94 kc_iconst_5 ?_
              obtain ⟨v22, hj, hf⟩ := ob_s hf
              have kj95 : sh_K G shM 138 [(0, .ref 0), (1, .int p1), (2, .int v2), (3, .int v12), (4, .int v13), (5, .int v9), (6, .int v14), (7, .int v18)] [.int v22] s0 := by
                refine k_istore (pc := 138) h dX10_findsScope_138 (nk hL (by decide)) (lv' := [(0, .ref 0), (1, .int p1), (2, .int v2), (3, .int v12), (4, .int v13), (5, .int v9), (6, .int v14), (7, .int v18), (9, .int v22)]) rfl ?_
                refine k_iload (pc := 140) h dX10_findsScope_140 4 rfl ?_
                refine k_iload (pc := 142) h dX10_findsScope_142 4 rfl ?_
                refine k_iload (pc := 144) h dX10_findsScope_144 6 rfl ?_
                obtain ⟨v26, cv26, hf⟩ := ob_s hf
                refine k_callSp (pc := 146) h cs_RX10_89 (c_X10_isIn v13 v14 _ v26 cv26) rfl rfl (st1 := [.int v26, .int v13]) rfl ⟨rfl, rfl⟩ (rk hR (Nat.le_of_ble_eq_true rfl) (Nat.le_of_ble_eq_true rfl)) (Nat.le_of_ble_eq_true rfl) dX10_findsScope_146 ?_
                obtain ⟨v27, hj, hf⟩ := ob_s hf
                have kj149 : sh_K G shM 172 [(0, .ref 0), (1, .int p1), (2, .int v2), (3, .int v12), (5, .int v9), (6, .int v14), (7, .int v18), (9, .int v22)] [.int v27, .int v13] s0 := by
                  refine k_ior (pc := 172) h dX10_findsScope_172 ?_
                  obtain ⟨v29, ev29, hf⟩ := lb_s hf
                  refine k_top ev29 ?_
                  refine k_istore (pc := 173) h dX10_findsScope_173 (nk hL (by decide)) (lv' := [(0, .ref 0), (1, .int p1), (2, .int v2), (3, .int v12), (4, .int v29), (5, .int v9), (6, .int v14), (7, .int v18), (9, .int v22)]) rfl ?_
                  refine k_iload_n (pc := 175) h dX10_findsScope_175 rfl 3 rfl ?_
                  refine k_iload_n (pc := 176) h dX10_findsScope_176 rfl 3 rfl ?_
                  refine k_iload (pc := 177) h dX10_findsScope_177 6 rfl ?_
                  obtain ⟨v30, cv30, hf⟩ := ob_s hf
                  refine k_callSp (pc := 179) h cs_RX10_89 (c_X10_isIn v12 v14 _ v30 cv30) rfl rfl (st1 := [.int v30, .int v12]) rfl ⟨rfl, rfl⟩ (rk hR (Nat.le_of_ble_eq_true rfl) (Nat.le_of_ble_eq_true rfl)) (Nat.le_of_ble_eq_true rfl) dX10_findsScope_179 ?_
                  obtain ⟨v31, hj, hf⟩ := ob_s hf
                  have kj182 : sh_K G shM 196 [(0, .ref 0), (1, .int p1), (2, .int v2), (4, .int v29), (5, .int v9), (6, .int v14)] [.int v31, .int v12] s0 := by
                    refine k_ior (pc := 196) h dX10_findsScope_196 ?_
                    obtain ⟨v32, ev32, hf⟩ := lb_s hf
                    refine k_top ev32 ?_
                    refine k_istore_n (pc := 197) h dX10_findsScope_197 rfl (nk hL (by decide)) (lv' := [(0, .ref 0), (1, .int p1), (2, .int v2), (3, .int v32), (4, .int v29), (5, .int v9), (6, .int v14)]) rfl ?_
                    obtain ⟨v33, ev33, hf⟩ := lb_s hf
                    refine k_iinc (pc := 198) h dX10_findsScope_198 6 rfl ((congrArg (_ + ·) kc_iconst_1).trans ev33.symm) (nk hL (by decide)) (lv' := [(0, .ref 0), (1, .int p1), (2, .int v2), (3, .int v32), (4, .int v29), (5, .int v9), (6, .int v33)]) rfl ?_
                    refine k_goto (pc := 201) (tgt := 48) h dX10_findsScope_201 rfl ?_
                    obtain rfl := so1 hf
                    exact k_drop [0, 1, 2, 3, 4, 5, 6] rfl kc48
                  clear hf
                  have hf := hj
                  clear hj
                  refine k_if_eq (pc := 182) (tgt := 195) h dX10_findsScope_182 rfl (fun hc => ?_) (fun hc => ?_)
                  · have hf := it_p hc hf
                    refine k_iconst (pc := 195) h dX10_findsScope_195 kc_iconst_0 ?_
                    obtain rfl := so1 hf
                    exact k_drop [0, 1, 2, 4, 5, 6] rfl kj182
                  · have hf := it_n hc hf
                    refine k_iload (pc := 185) h dX10_findsScope_185 8 rfl ?_
                    refine k_if_ne (pc := 187) (tgt := 195) h dX10_findsScope_187 rfl (fun hc => ?_) (fun hc => ?_)
                    · have hf := it_n hc hf
                      refine k_iconst (pc := 195) h dX10_findsScope_195 kc_iconst_0 ?_
                      obtain rfl := so1 hf
                      exact k_drop [0, 1, 2, 4, 5, 6] rfl kj182
                    · have hf := it_p hc hf
                      refine k_iload (pc := 190) h dX10_findsScope_190 7 rfl ?_
                      refine k_goto (pc := 192) (tgt := 196) h dX10_findsScope_192 rfl ?_
                      obtain rfl := so1 hf
                      exact k_drop [0, 1, 2, 4, 5, 6] rfl kj182
                clear hf
                have hf := hj
                clear hj
                refine k_if_ne (pc := 149) (tgt := 166) h dX10_findsScope_149 rfl (fun hc => ?_) (fun hc => ?_)
                · have hf := it_n hc hf
                  refine k_iload (pc := 166) h dX10_findsScope_166 7 rfl ?_
                  refine k_goto (pc := 168) (tgt := 172) h dX10_findsScope_168 rfl ?_
                  obtain rfl := so1 hf
                  exact k_drop [0, 1, 2, 3, 5, 6, 7, 8] rfl kj149
                · have hf := it_p hc hf
                  refine k_iload_n (pc := 152) h dX10_findsScope_152 rfl 3 rfl ?_
                  refine k_iload (pc := 153) h dX10_findsScope_153 6 rfl ?_
                  obtain ⟨v28, cv28, hf⟩ := ob_s hf
                  refine k_callSp (pc := 155) h cs_RX10_89 (c_X10_isIn v12 v14 _ v28 cv28) rfl rfl (st1 := [.int v28, .int v13]) rfl ⟨rfl, rfl⟩ (rk hR (Nat.le_of_ble_eq_true rfl) (Nat.le_of_ble_eq_true rfl)) (Nat.le_of_ble_eq_true rfl) dX10_findsScope_155 ?_
                  refine k_if_eq (pc := 158) (tgt := 171) h dX10_findsScope_158 rfl (fun hc => ?_) (fun hc => ?_)
                  · have hf := it_p hc hf
                    refine k_iconst (pc := 171) h dX10_findsScope_171 kc_iconst_0 ?_
                    obtain rfl := so1 hf
                    exact k_drop [0, 1, 2, 3, 5, 6, 7, 8] rfl kj149
                  · have hf := it_n hc hf
                    refine k_iload (pc := 161) h dX10_findsScope_161 8 rfl ?_
                    refine k_if_eq (pc := 163) (tgt := 171) h dX10_findsScope_163 rfl (fun hc => ?_) (fun hc => ?_)
                    · have hf := it_p hc hf
                      refine k_iconst (pc := 171) h dX10_findsScope_171 kc_iconst_0 ?_
                      obtain rfl := so1 hf
                      exact k_drop [0, 1, 2, 3, 5, 6, 7, 8] rfl kj149
                    · have hf := it_n hc hf
                      refine k_iload (pc := 166) h dX10_findsScope_166 7 rfl ?_
                      refine k_goto (pc := 168) (tgt := 172) h dX10_findsScope_168 rfl ?_
                      obtain rfl := so1 hf
                      exact k_drop [0, 1, 2, 3, 5, 6, 7, 8] rfl kj149
              clear hf
              have hf := hj
              clear hj
              refine k_icmp_ne (pc := 95) (tgt := 137) h dX10_findsScope_95 rfl (fun hc => ?_) (fun hc => ?_)
              · have hf := it_n hc hf
                refine k_iconst (pc := 137) h dX10_findsScope_137 kc_iconst_0 ?_
                obtain rfl := so1 hf
                exact k_drop [0, 1, 2, 3, 4, 5, 6, 7] rfl kj95
              · have hf := it_p hc hf
                refine k_iload (pc := 98) h dX10_findsScope_98 8 rfl ?_
                refine k_iconst (pc := 100) h dX10_findsScope_100 kc_iconst_m1 ?_
                refine k_icmp_eq (pc := 101) (tgt := 137) h dX10_findsScope_101 rfl (fun hc => ?_) (fun hc => ?_)
                · have hf := it_p hc hf
                  refine k_iconst (pc := 137) h dX10_findsScope_137 kc_iconst_0 ?_
                  obtain rfl := so1 hf
                  exact k_drop [0, 1, 2, 3, 4, 5, 6, 7] rfl kj95
                · have hf := it_n hc hf
                  refine k_aload_n (pc := 104) h dX10_findsScope_104 rfl 0 rfl ?_
                  refine k_getR (pc := 105) h fl_RX10_28 rfl rfl dX10_findsScope_105 ?_
                  refine k_bipush (pc := 108) h dX10_findsScope_108 kc_bipush_8 ?_
                  refine k_iload (pc := 110) h dX10_findsScope_110 6 rfl ?_
                  refine k_imul (pc := 112) h dX10_findsScope_112 ?_
                  refine k_iload (pc := 113) h dX10_findsScope_113 8 rfl ?_
                  obtain ⟨v23, hj, hf⟩ := ob_s hf
                  have kj115 : sh_K G shM 124 [(0, .ref 0), (1, .int p1), (2, .int v2), (3, .int v12), (4, .int v13), (5, .int v9), (6, .int v14), (7, .int v18)] [.int v23, .int ((8 : Int32) * v14), .ref 7] s0 := by
                    refine k_iadd (pc := 124) h dX10_findsScope_124 ?_
                    obtain ⟨g24, hf⟩ := gu_s hf
                    refine k_iald (pc := 125) (n := 192) h rfl g24 dX10_findsScope_125 ?_
                    refine k_iload_n (pc := 126) h dX10_findsScope_126 rfl 1 rfl ?_
                    obtain ⟨v25, cv25, hf⟩ := ob_s hf
                    refine k_callSp (pc := 127) h cs_RX10_89 (c_X10_isIn (s0 7 (ix (((8 : Int32) * v14) + v23))) p1 _ v25 cv25) rfl rfl (st1 := [.int v25]) rfl ⟨rfl, rfl⟩ (rk hR (Nat.le_of_ble_eq_true rfl) (Nat.le_of_ble_eq_true rfl)) (Nat.le_of_ble_eq_true rfl) dX10_findsScope_127 ?_
                    refine k_if_eq (pc := 130) (tgt := 137) h dX10_findsScope_130 rfl (fun hc => ?_) (fun hc => ?_)
                    · have hf := it_p hc hf
                      refine k_iconst (pc := 137) h dX10_findsScope_137 kc_iconst_0 ?_
                      obtain rfl := so1 hf
                      exact k_drop [0, 1, 2, 3, 4, 5, 6, 7] rfl kj95
                    · have hf := it_n hc hf
                      refine k_iconst (pc := 133) h dX10_findsScope_133 kc_iconst_1 ?_
                      refine k_goto (pc := 134) (tgt := 138) h dX10_findsScope_134 rfl ?_
                      obtain rfl := so1 hf
                      exact k_drop [0, 1, 2, 3, 4, 5, 6, 7] rfl kj95
                  clear hf
                  have hf := hj
                  clear hj
                  refine k_if_ge (pc := 115) (tgt := 122) h dX10_findsScope_115 rfl (fun hc => ?_) (fun hc => ?_)
                  · have hf := it_p hc hf
                    refine k_iload (pc := 122) h dX10_findsScope_122 8 rfl ?_
                    obtain rfl := so1 hf
                    exact k_drop [0, 1, 2, 3, 4, 5, 6, 7] rfl kj115
                  · have hf := it_n hc hf
                    refine k_iconst (pc := 118) h dX10_findsScope_118 kc_iconst_0 ?_
                    refine k_goto (pc := 119) (tgt := 124) h dX10_findsScope_119 rfl ?_
                    obtain rfl := so1 hf
                    exact k_drop [0, 1, 2, 3, 4, 5, 6, 7] rfl kj115
            clear hf
            have hf := hj
            clear hj
            refine k_if_eq (pc := 64) (tgt := 71) h dX10_findsScope_64 rfl (fun hc => ?_) (fun hc => ?_)
            · have hf := it_p hc hf
              refine k_aload_n (pc := 71) h dX10_findsScope_71 rfl 0 rfl ?_
              refine k_iload (pc := 72) h dX10_findsScope_72 6 rfl ?_
              obtain ⟨v19, cv19, hf⟩ := ob_s hf
              refine k_callV0 (pc := 74) h cv_RX10_140 (c_X10_nextOf v14 s0 v19 cv19) rfl rfl rfl (st1 := [.int v19]) rfl ⟨rfl, rfl⟩ (rk hR (Nat.le_of_ble_eq_true rfl) (Nat.le_of_ble_eq_true rfl)) (Nat.le_of_ble_eq_true rfl) dX10_findsScope_74 ?_
              refine k_iload_n (pc := 77) h dX10_findsScope_77 rfl 2 rfl ?_
              refine k_iand (pc := 78) h dX10_findsScope_78 ?_
              obtain rfl := so1 hf
              exact k_drop [0, 1, 2, 3, 4, 5, 6] rfl kj64
            · have hf := it_n hc hf
              refine k_iconst (pc := 67) h dX10_findsScope_67 kc_iconst_0 ?_
              refine k_goto (pc := 68) (tgt := 79) h dX10_findsScope_68 rfl ?_
              obtain rfl := so1 hf
              exact k_drop [0, 1, 2, 3, 4, 5, 6] rfl kj64
        · obtain ⟨v34, ev34, hf⟩ := lb_s hf
          refine k_iinc (pc := 204) h dX10_findsScope_204 5 rfl ((congrArg (_ + ·) kc_iconst_1).trans ev34.symm) (nk hL (by decide)) (lv' := [(0, .ref 0), (1, .int p1), (2, .int v2), (3, .int v15), (4, .int v16), (5, .int v34)]) rfl ?_
          refine k_goto (pc := 207) (tgt := 38) h dX10_findsScope_207 rfl ?_
          obtain rfl := so1 hf
          exact k_drop [0, 1, 2, 3, 4, 5] rfl kc38
    · refine k_iconst (pc := 210) h dX10_findsScope_210 kc_iconst_0 ?_
      refine k_istore (pc := 211) h dX10_findsScope_211 (nk hL (by decide)) (lv' := [(0, .ref 0), (1, .int p1), (3, .int v10), (4, .int v11), (5, .int (0 : Int32))]) rfl ?_
      obtain ⟨s37, hl, hf⟩ := ob_s hf
      refine k_drop (lv' := [(0, .ref 0), (1, .int p1), (3, .int v10), (4, .int v11), (5, .int (0 : Int32))]) [0, 1, 2, 3, 4] rfl ?_
      refine lp_s (P := (fun q : Int32 × sh_S => sh_K G shM 213 [(0, .ref 0), (1, .int p1), (3, .int v10), (4, .int v11), (5, .int q.1)] [] q.2)) (Q := (fun q : sh_S => sh_K G shM 284 [] [] q)) (s := ((0 : Int32), s0)) ?_ hl ?_
      · clear hf hl
        intro q rr hf kc213
        obtain ⟨v35, s36⟩ := q
        have hf : f_X10_findsScope_L213 p1 v10 v11 v35 s36 = some rr := hf
        unfold f_X10_findsScope_L213 at hf
        refine k_iload (pc := 213) h dX10_findsScope_213 4 rfl ?_
        refine k_aload_n (pc := 215) h dX10_findsScope_215 rfl 0 rfl ?_
        refine k_getI (pc := 216) h fl_RX10_101 rfl rfl dX10_findsScope_216 ?_
        refine k_icmp_ge (pc := 219) (tgt := 284) h dX10_findsScope_219 rfl (fun hc => ?_) (fun hc => ?_)
        · have hf := it_p hc hf
          obtain rfl := so1 hf
          exact k_drop [] rfl kc213
        · have hf := it_n hc hf
          refine k_aload_n (pc := 222) h dX10_findsScope_222 rfl 0 rfl ?_
          refine k_getR (pc := 223) h fl_RX10_31 rfl rfl dX10_findsScope_223 ?_
          refine k_iload (pc := 226) h dX10_findsScope_226 4 rfl ?_
          refine k_dup2 (pc := 228) h dX10_findsScope_228 rfl rfl ?_
          obtain ⟨g38, hf⟩ := gu_s hf
          refine k_iald (pc := 229) (n := 24) h rfl g38 dX10_findsScope_229 ?_
          refine k_iload_n (pc := 230) h dX10_findsScope_230 rfl 2 rfl ?_
          refine k_iload (pc := 231) h dX10_findsScope_231 3 rfl ?_
          refine k_ior (pc := 233) h dX10_findsScope_233 ?_
          refine k_iload (pc := 234) h dX10_findsScope_234 4 rfl ?_
          obtain ⟨v39, cv39, hf⟩ := ob_s hf
          refine k_callSp (pc := 236) h cs_RX10_89 (c_X10_isIn (v10 ||| v11) v35 _ v39 cv39) rfl rfl (st1 := [.int v39, .int (s36 8 (ix v35)), .int v35, .ref 8]) rfl ⟨rfl, rfl⟩ (rk hR (Nat.le_of_ble_eq_true rfl) (Nat.le_of_ble_eq_true rfl)) (Nat.le_of_ble_eq_true rfl) dX10_findsScope_236 ?_
          obtain ⟨v40, hj, hf⟩ := ob_s hf
          have kj239 : sh_K G shM 249 [(0, .ref 0), (1, .int p1), (3, .int v10), (4, .int v11), (5, .int v35)] [.int v40, .int (s36 8 (ix v35)), .int v35, .ref 8] s36 := by
            refine k_ior (pc := 249) h dX10_findsScope_249 ?_
            obtain ⟨g41, hf⟩ := gu_s hf
            obtain ⟨s42, es42, hf⟩ := lb_s hf
            refine k_iast (pc := 250) (n := 24) h rfl g41 dX10_findsScope_250 ?_
            refine k_heap es42 ?_
            refine k_aload_n (pc := 251) h dX10_findsScope_251 rfl 0 rfl ?_
            refine k_getR (pc := 252) h fl_RX10_34 rfl rfl dX10_findsScope_252 ?_
            refine k_iload (pc := 255) h dX10_findsScope_255 4 rfl ?_
            refine k_dup2 (pc := 257) h dX10_findsScope_257 rfl rfl ?_
            obtain ⟨g43, hf⟩ := gu_s hf
            refine k_iald (pc := 258) (n := 24) h rfl g43 dX10_findsScope_258 ?_
            refine k_iload (pc := 259) h dX10_findsScope_259 3 rfl ?_
            refine k_iload (pc := 261) h dX10_findsScope_261 4 rfl ?_
            obtain ⟨v44, cv44, hf⟩ := ob_s hf
            refine k_callSp (pc := 263) h cs_RX10_89 (c_X10_isIn v11 v35 _ v44 cv44) rfl rfl (st1 := [.int v44, .int (s42 9 (ix v35)), .int v35, .ref 9]) rfl ⟨rfl, rfl⟩ (rk hR (Nat.le_of_ble_eq_true rfl) (Nat.le_of_ble_eq_true rfl)) (Nat.le_of_ble_eq_true rfl) dX10_findsScope_263 ?_
            obtain ⟨v45, hj, hf⟩ := ob_s hf
            have kj266 : sh_K G shM 276 [(0, .ref 0), (1, .int p1), (3, .int v10), (4, .int v11), (5, .int v35)] [.int v45, .int (s42 9 (ix v35)), .int v35, .ref 9] s42 := by
              refine k_ior (pc := 276) h dX10_findsScope_276 ?_
              obtain ⟨g46, hf⟩ := gu_s hf
              obtain ⟨s47, es47, hf⟩ := lb_s hf
              refine k_iast (pc := 277) (n := 24) h rfl g46 dX10_findsScope_277 ?_
              refine k_heap es47 ?_
              obtain ⟨v48, ev48, hf⟩ := lb_s hf
              refine k_iinc (pc := 278) h dX10_findsScope_278 4 rfl ((congrArg (_ + ·) kc_iconst_1).trans ev48.symm) (nk hL (by decide)) (lv' := [(0, .ref 0), (1, .int p1), (3, .int v10), (4, .int v11), (5, .int v48)]) rfl ?_
              refine k_goto (pc := 281) (tgt := 213) h dX10_findsScope_281 rfl ?_
              obtain rfl := so1 hf
              exact k_drop [0, 1, 2, 3, 4] rfl kc213
            clear hf
            have hf := hj
            clear hj
            refine k_if_eq (pc := 266) (tgt := 275) h dX10_findsScope_266 rfl (fun hc => ?_) (fun hc => ?_)
            · have hf := it_p hc hf
              refine k_iconst (pc := 275) h dX10_findsScope_275 kc_iconst_0 ?_
              obtain rfl := so1 hf
              exact k_drop [0, 1, 2, 3, 4] rfl kj266
            · have hf := it_n hc hf
              refine k_iconst (pc := 269) h dX10_findsScope_269 kc_iconst_1 ?_
              refine k_iload_n (pc := 270) h dX10_findsScope_270 rfl 1 rfl ?_
              refine k_ishl (pc := 271) h dX10_findsScope_271 ?_
              refine k_goto (pc := 272) (tgt := 276) h dX10_findsScope_272 rfl ?_
              obtain rfl := so1 hf
              exact k_drop [0, 1, 2, 3, 4] rfl kj266
          clear hf
          have hf := hj
          clear hj
          refine k_if_eq (pc := 239) (tgt := 248) h dX10_findsScope_239 rfl (fun hc => ?_) (fun hc => ?_)
          · have hf := it_p hc hf
            refine k_iconst (pc := 248) h dX10_findsScope_248 kc_iconst_0 ?_
            obtain rfl := so1 hf
            exact k_drop [0, 1, 2, 3, 4] rfl kj239
          · have hf := it_n hc hf
            refine k_iconst (pc := 242) h dX10_findsScope_242 kc_iconst_1 ?_
            refine k_iload_n (pc := 243) h dX10_findsScope_243 rfl 1 rfl ?_
            refine k_ishl (pc := 244) h dX10_findsScope_244 ?_
            refine k_goto (pc := 245) (tgt := 249) h dX10_findsScope_245 rfl ?_
            obtain rfl := so1 hf
            exact k_drop [0, 1, 2, 3, 4] rfl kj239
      · obtain rfl := so1 hf
        exact hret 284 _ dX10_findsScope_284 trivial
  clear hf
  have hf := hj
  clear hj
  refine k_if_eq (pc := 5) (tgt := 12) h dX10_findsScope_5 rfl (fun hc => ?_) (fun hc => ?_)
  · have hf := it_p hc hf
    refine k_aload_n (pc := 12) h dX10_findsScope_12 rfl 0 rfl ?_
    refine k_getR (pc := 13) h fl_RX10_25 rfl rfl dX10_findsScope_13 ?_
    refine k_aload_n (pc := 16) h dX10_findsScope_16 rfl 0 rfl ?_
    refine k_getR (pc := 17) h fl_RX10_13 rfl rfl dX10_findsScope_17 ?_
    refine k_iload_n (pc := 20) h dX10_findsScope_20 rfl 1 rfl ?_
    obtain ⟨g3, hf⟩ := gu_s hf
    refine k_iald (pc := 21) (n := 24) h rfl g3 dX10_findsScope_21 ?_
    obtain ⟨g4, hf⟩ := gu_s hf
    refine k_iald (pc := 22) (n := 8) h rfl g4 dX10_findsScope_22 ?_
    obtain rfl := so1 hf
    exact k_drop [0, 1] rfl kj5
  · have hf := it_n hc hf
    refine k_iconst (pc := 8) h dX10_findsScope_8 kc_iconst_0 ?_
    refine k_goto (pc := 9) (tgt := 23) h dX10_findsScope_9 rfl ?_
    obtain rfl := so1 hf
    exact k_drop [0, 1] rfl kj5
theorem dX10_findsAll_0 : decode cX10_findsAll 0 = .ok (.aload_n 0, 1) := by decide +kernel
theorem dX10_findsAll_1 : decode cX10_findsAll 1 = .ok (.invokevirtual 177, 3) := by decide +kernel
theorem dX10_findsAll_4 : decode cX10_findsAll 4 = .ok (.aload_n 0, 1) := by decide +kernel
theorem dX10_findsAll_5 : decode cX10_findsAll 5 = .ok (.invokevirtual 180, 3) := by decide +kernel
theorem dX10_findsAll_8 : decode cX10_findsAll 8 = .ok (.aload_n 0, 1) := by decide +kernel
theorem dX10_findsAll_9 : decode cX10_findsAll 9 = .ok (.invokevirtual 183, 3) := by decide +kernel
theorem dX10_findsAll_12 : decode cX10_findsAll 12 = .ok (.aload_n 0, 1) := by decide +kernel
theorem dX10_findsAll_13 : decode cX10_findsAll 13 = .ok (.invokevirtual 186, 3) := by decide +kernel
theorem dX10_findsAll_16 : decode cX10_findsAll 16 = .ok (.iconst 0, 1) := by decide +kernel
theorem dX10_findsAll_17 : decode cX10_findsAll 17 = .ok (.istore_n 1, 1) := by decide +kernel
theorem dX10_findsAll_18 : decode cX10_findsAll 18 = .ok (.iload_n 1, 1) := by decide +kernel
theorem dX10_findsAll_19 : decode cX10_findsAll 19 = .ok (.bipush 24, 2) := by decide +kernel
theorem dX10_findsAll_21 : decode cX10_findsAll 21 = .ok (.if_icmp .ge 23, 3) := by decide +kernel
theorem dX10_findsAll_24 : decode cX10_findsAll 24 = .ok (.aload_n 0, 1) := by decide +kernel
theorem dX10_findsAll_25 : decode cX10_findsAll 25 = .ok (.getfield 31, 3) := by decide +kernel
theorem dX10_findsAll_28 : decode cX10_findsAll 28 = .ok (.iload_n 1, 1) := by decide +kernel
theorem dX10_findsAll_29 : decode cX10_findsAll 29 = .ok (.iconst 0, 1) := by decide +kernel
theorem dX10_findsAll_30 : decode cX10_findsAll 30 = .ok (.iastore, 1) := by decide +kernel
theorem dX10_findsAll_31 : decode cX10_findsAll 31 = .ok (.aload_n 0, 1) := by decide +kernel
theorem dX10_findsAll_32 : decode cX10_findsAll 32 = .ok (.getfield 34, 3) := by decide +kernel
theorem dX10_findsAll_35 : decode cX10_findsAll 35 = .ok (.iload_n 1, 1) := by decide +kernel
theorem dX10_findsAll_36 : decode cX10_findsAll 36 = .ok (.iconst 0, 1) := by decide +kernel
theorem dX10_findsAll_37 : decode cX10_findsAll 37 = .ok (.iastore, 1) := by decide +kernel
theorem dX10_findsAll_38 : decode cX10_findsAll 38 = .ok (.iinc 1 1, 3) := by decide +kernel
theorem dX10_findsAll_41 : decode cX10_findsAll 41 = .ok (.goto (-23), 3) := by decide +kernel
theorem dX10_findsAll_44 : decode cX10_findsAll 44 = .ok (.iconst 0, 1) := by decide +kernel
theorem dX10_findsAll_45 : decode cX10_findsAll 45 = .ok (.istore_n 1, 1) := by decide +kernel
theorem dX10_findsAll_46 : decode cX10_findsAll 46 = .ok (.iload_n 1, 1) := by decide +kernel
theorem dX10_findsAll_47 : decode cX10_findsAll 47 = .ok (.aload_n 0, 1) := by decide +kernel
theorem dX10_findsAll_48 : decode cX10_findsAll 48 = .ok (.getfield 101, 3) := by decide +kernel
theorem dX10_findsAll_51 : decode cX10_findsAll 51 = .ok (.if_icmp .ge 25, 3) := by decide +kernel
theorem dX10_findsAll_54 : decode cX10_findsAll 54 = .ok (.aload_n 0, 1) := by decide +kernel
theorem dX10_findsAll_55 : decode cX10_findsAll 55 = .ok (.getfield 149, 3) := by decide +kernel
theorem dX10_findsAll_58 : decode cX10_findsAll 58 = .ok (.iload_n 1, 1) := by decide +kernel
theorem dX10_findsAll_59 : decode cX10_findsAll 59 = .ok (.invokestatic 89, 3) := by decide +kernel
theorem dX10_findsAll_62 : decode cX10_findsAll 62 = .ok (.ifCond .eq 8, 3) := by decide +kernel
theorem dX10_findsAll_65 : decode cX10_findsAll 65 = .ok (.aload_n 0, 1) := by decide +kernel
theorem dX10_findsAll_66 : decode cX10_findsAll 66 = .ok (.iload_n 1, 1) := by decide +kernel
theorem dX10_findsAll_67 : decode cX10_findsAll 67 = .ok (.invokevirtual 189, 3) := by decide +kernel
theorem dX10_findsAll_70 : decode cX10_findsAll 70 = .ok (.iinc 1 1, 3) := by decide +kernel
theorem dX10_findsAll_73 : decode cX10_findsAll 73 = .ok (.goto (-27), 3) := by decide +kernel
theorem dX10_findsAll_76 : decode cX10_findsAll 76 = .ok (.return_, 1) := by decide +kernel
def f_X10_findsAll_L18 (v5 : Int32) (s6 : sh_S) : Option ((Int32 × sh_S) ⊕ (sh_S)) := (if (24 : Int32) ≤ v5 then some (.inr s6) else gu (inb v5 24) (lb (ur s6 8 (upd (s6 8) (ix v5) (0 : Int32))) (fun s9 => gu (inb v5 24) (lb (ur s9 9 (upd (s9 9) (ix v5) (0 : Int32))) (fun s11 => lb (v5 + (1 : Int32)) (fun v12 => some (.inl (v12, s11))))))))
def f_X10_findsAll_L46 (v13 : Int32) (s14 : sh_S) : Option ((Int32 × sh_S) ⊕ (sh_S)) := (if (s14 0 0) ≤ v13 then some (.inr s14) else ob (f_X10_isIn (s14 0 6) v13) (fun v16 => ob (if v16 = 0 then some s14 else ob (f_X10_findsScope v13 s14) (fun s18 => some s18)) (fun s17 => lb (v13 + (1 : Int32)) (fun v19 => some (.inl (v19, s17))))))
def f_X10_findsAll  (s0 : sh_S) : Option (sh_S) := ob (f_X10_findsReached  s0) (fun s1 => ob (f_X10_findsLive  s1) (fun s2 => ob (f_X10_findsRegions  s2) (fun s3 => ob (f_X10_findsHolding  s3) (fun s4 => ob (lp (fun q => f_X10_findsAll_L18 q.1 q.2) FU ((0 : Int32), s4)) (fun s7 => ob (lp (fun q => f_X10_findsAll_L46 q.1 q.2) FU ((0 : Int32), s7)) (fun s15 => some s15))))))
set_option maxRecDepth 100000 in
set_option maxHeartbeats 4000000 in
theorem c_X10_findsAll  (s0 : sh_S) (s9x : sh_S) (hf : f_X10_findsAll  s0 = some s9x) : Ctr yX10_findsAll cX10_findsAll 2 none ({ frames := 6, cells := 0, slots := 0, locals := 136 } : Room) shM [.ref 0] s0 none s9x := by
  refine Ctr.mk (ri := .return_) (by decide) (Nat.le_of_ble_eq_true rfl) (Rt_v) ?_
  intro G h hL hR hret
  refine k_drop (lv' := [(0, .ref 0)]) [0] rfl ?_
  unfold f_X10_findsAll at hf
  refine k_aload_n (pc := 0) h dX10_findsAll_0 rfl 0 rfl ?_
  obtain ⟨s1, cs1, hf⟩ := ob_s hf
  refine k_callV0 (pc := 1) h cv_RX10_177 (c_X10_findsReached  s0 s1 cs1) rfl rfl rfl (st1 := []) rfl ⟨rfl, rfl⟩ (rk hR (Nat.le_of_ble_eq_true rfl) (Nat.le_of_ble_eq_true rfl)) (Nat.le_of_ble_eq_true rfl) dX10_findsAll_1 ?_
  refine k_aload_n (pc := 4) h dX10_findsAll_4 rfl 0 rfl ?_
  obtain ⟨s2, cs2, hf⟩ := ob_s hf
  refine k_callV0 (pc := 5) h cv_RX10_180 (c_X10_findsLive  s1 s2 cs2) rfl rfl rfl (st1 := []) rfl ⟨rfl, rfl⟩ (rk hR (Nat.le_of_ble_eq_true rfl) (Nat.le_of_ble_eq_true rfl)) (Nat.le_of_ble_eq_true rfl) dX10_findsAll_5 ?_
  refine k_aload_n (pc := 8) h dX10_findsAll_8 rfl 0 rfl ?_
  obtain ⟨s3, cs3, hf⟩ := ob_s hf
  refine k_callV0 (pc := 9) h cv_RX10_183 (c_X10_findsRegions  s2 s3 cs3) rfl rfl rfl (st1 := []) rfl ⟨rfl, rfl⟩ (rk hR (Nat.le_of_ble_eq_true rfl) (Nat.le_of_ble_eq_true rfl)) (Nat.le_of_ble_eq_true rfl) dX10_findsAll_9 ?_
  refine k_aload_n (pc := 12) h dX10_findsAll_12 rfl 0 rfl ?_
  obtain ⟨s4, cs4, hf⟩ := ob_s hf
  refine k_callV0 (pc := 13) h cv_RX10_186 (c_X10_findsHolding  s3 s4 cs4) rfl rfl rfl (st1 := []) rfl ⟨rfl, rfl⟩ (rk hR (Nat.le_of_ble_eq_true rfl) (Nat.le_of_ble_eq_true rfl)) (Nat.le_of_ble_eq_true rfl) dX10_findsAll_13 ?_
  refine k_iconst (pc := 16) h dX10_findsAll_16 kc_iconst_0 ?_
  refine k_istore_n (pc := 17) h dX10_findsAll_17 rfl (nk hL (by decide)) (lv' := [(0, .ref 0), (1, .int (0 : Int32))]) rfl ?_
  obtain ⟨s7, hl, hf⟩ := ob_s hf
  refine k_drop (lv' := [(0, .ref 0), (1, .int (0 : Int32))]) [0, 1] rfl ?_
  refine lp_s (P := (fun q : Int32 × sh_S => sh_K G shM 18 [(0, .ref 0), (1, .int q.1)] [] q.2)) (Q := (fun q : sh_S => sh_K G shM 44 [(0, .ref 0)] [] q)) (s := ((0 : Int32), s4)) ?_ hl ?_
  · clear hf hl
    intro q rr hf kc18
    obtain ⟨v5, s6⟩ := q
    have hf : f_X10_findsAll_L18 v5 s6 = some rr := hf
    unfold f_X10_findsAll_L18 at hf
    refine k_iload_n (pc := 18) h dX10_findsAll_18 rfl 1 rfl ?_
    refine k_bipush (pc := 19) h dX10_findsAll_19 kc_bipush_24 ?_
    refine k_icmp_ge (pc := 21) (tgt := 44) h dX10_findsAll_21 rfl (fun hc => ?_) (fun hc => ?_)
    · have hf := it_p hc hf
      obtain rfl := so1 hf
      exact k_drop [0] rfl kc18
    · have hf := it_n hc hf
      refine k_aload_n (pc := 24) h dX10_findsAll_24 rfl 0 rfl ?_
      refine k_getR (pc := 25) h fl_RX10_31 rfl rfl dX10_findsAll_25 ?_
      refine k_iload_n (pc := 28) h dX10_findsAll_28 rfl 1 rfl ?_
      refine k_iconst (pc := 29) h dX10_findsAll_29 kc_iconst_0 ?_
      obtain ⟨g8, hf⟩ := gu_s hf
      obtain ⟨s9, es9, hf⟩ := lb_s hf
      refine k_iast (pc := 30) (n := 24) h rfl g8 dX10_findsAll_30 ?_
      refine k_heap es9 ?_
      refine k_aload_n (pc := 31) h dX10_findsAll_31 rfl 0 rfl ?_
      refine k_getR (pc := 32) h fl_RX10_34 rfl rfl dX10_findsAll_32 ?_
      refine k_iload_n (pc := 35) h dX10_findsAll_35 rfl 1 rfl ?_
      refine k_iconst (pc := 36) h dX10_findsAll_36 kc_iconst_0 ?_
      obtain ⟨g10, hf⟩ := gu_s hf
      obtain ⟨s11, es11, hf⟩ := lb_s hf
      refine k_iast (pc := 37) (n := 24) h rfl g10 dX10_findsAll_37 ?_
      refine k_heap es11 ?_
      obtain ⟨v12, ev12, hf⟩ := lb_s hf
      refine k_iinc (pc := 38) h dX10_findsAll_38 1 rfl ((congrArg (_ + ·) kc_iconst_1).trans ev12.symm) (nk hL (by decide)) (lv' := [(0, .ref 0), (1, .int v12)]) rfl ?_
      refine k_goto (pc := 41) (tgt := 18) h dX10_findsAll_41 rfl ?_
      obtain rfl := so1 hf
      exact k_drop [0, 1] rfl kc18
  · refine k_iconst (pc := 44) h dX10_findsAll_44 kc_iconst_0 ?_
    refine k_istore_n (pc := 45) h dX10_findsAll_45 rfl (nk hL (by decide)) (lv' := [(0, .ref 0), (1, .int (0 : Int32))]) rfl ?_
    obtain ⟨s15, hl, hf⟩ := ob_s hf
    refine k_drop (lv' := [(0, .ref 0), (1, .int (0 : Int32))]) [0, 1] rfl ?_
    refine lp_s (P := (fun q : Int32 × sh_S => sh_K G shM 46 [(0, .ref 0), (1, .int q.1)] [] q.2)) (Q := (fun q : sh_S => sh_K G shM 76 [] [] q)) (s := ((0 : Int32), s7)) ?_ hl ?_
    · clear hf hl
      intro q rr hf kc46
      obtain ⟨v13, s14⟩ := q
      have hf : f_X10_findsAll_L46 v13 s14 = some rr := hf
      unfold f_X10_findsAll_L46 at hf
      refine k_iload_n (pc := 46) h dX10_findsAll_46 rfl 1 rfl ?_
      refine k_aload_n (pc := 47) h dX10_findsAll_47 rfl 0 rfl ?_
      refine k_getI (pc := 48) h fl_RX10_101 rfl rfl dX10_findsAll_48 ?_
      refine k_icmp_ge (pc := 51) (tgt := 76) h dX10_findsAll_51 rfl (fun hc => ?_) (fun hc => ?_)
      · have hf := it_p hc hf
        obtain rfl := so1 hf
        exact k_drop [] rfl kc46
      · have hf := it_n hc hf
        refine k_aload_n (pc := 54) h dX10_findsAll_54 rfl 0 rfl ?_
        refine k_getI (pc := 55) h fl_RX10_149 rfl rfl dX10_findsAll_55 ?_
        refine k_iload_n (pc := 58) h dX10_findsAll_58 rfl 1 rfl ?_
        obtain ⟨v16, cv16, hf⟩ := ob_s hf
        refine k_callSp (pc := 59) h cs_RX10_89 (c_X10_isIn (s14 0 6) v13 _ v16 cv16) rfl rfl (st1 := [.int v16]) rfl ⟨rfl, rfl⟩ (rk hR (Nat.le_of_ble_eq_true rfl) (Nat.le_of_ble_eq_true rfl)) (Nat.le_of_ble_eq_true rfl) dX10_findsAll_59 ?_
        obtain ⟨s17, hj, hf⟩ := ob_s hf
        have kj62 : sh_K G shM 70 [(0, .ref 0), (1, .int v13)] [] s17 := by
          obtain ⟨v19, ev19, hf⟩ := lb_s hf
          refine k_iinc (pc := 70) h dX10_findsAll_70 1 rfl ((congrArg (_ + ·) kc_iconst_1).trans ev19.symm) (nk hL (by decide)) (lv' := [(0, .ref 0), (1, .int v19)]) rfl ?_
          refine k_goto (pc := 73) (tgt := 46) h dX10_findsAll_73 rfl ?_
          obtain rfl := so1 hf
          exact k_drop [0, 1] rfl kc46
        clear hf
        have hf := hj
        clear hj
        refine k_if_eq (pc := 62) (tgt := 70) h dX10_findsAll_62 rfl (fun hc => ?_) (fun hc => ?_)
        · have hf := it_p hc hf
          obtain rfl := so1 hf
          exact k_drop [0, 1] rfl kj62
        · have hf := it_n hc hf
          refine k_aload_n (pc := 65) h dX10_findsAll_65 rfl 0 rfl ?_
          refine k_iload_n (pc := 66) h dX10_findsAll_66 rfl 1 rfl ?_
          obtain ⟨s18, cs18, hf⟩ := ob_s hf
          refine k_callV0 (pc := 67) h cv_RX10_189 (c_X10_findsScope v13 s14 s18 cs18) rfl rfl rfl (st1 := []) rfl ⟨rfl, rfl⟩ (rk hR (Nat.le_of_ble_eq_true rfl) (Nat.le_of_ble_eq_true rfl)) (Nat.le_of_ble_eq_true rfl) dX10_findsAll_67 ?_
          obtain rfl := so1 hf
          exact k_drop [0, 1] rfl kj62
    · obtain rfl := so1 hf
      exact hret 76 _ dX10_findsAll_76 trivial
theorem dX10_reachedOf_0 : decode cX10_reachedOf 0 = .ok (.aload_n 0, 1) := by decide +kernel
theorem dX10_reachedOf_1 : decode cX10_reachedOf 1 = .ok (.invokevirtual 193, 3) := by decide +kernel
theorem dX10_reachedOf_4 : decode cX10_reachedOf 4 = .ok (.aload_n 0, 1) := by decide +kernel
theorem dX10_reachedOf_5 : decode cX10_reachedOf 5 = .ok (.getfield 146, 3) := by decide +kernel
theorem dX10_reachedOf_8 : decode cX10_reachedOf 8 = .ok (.ireturn, 1) := by decide +kernel
def f_X10_reachedOf  (s0 : sh_S) : Option (Int32 × sh_S) := ob (f_X10_findsAll  s0) (fun s1 => some ((s1 0 5), s1))
set_option maxRecDepth 100000 in
set_option maxHeartbeats 4000000 in
theorem c_X10_reachedOf  (s0 : sh_S) (r : Int32) (s9x : sh_S) (hf : f_X10_reachedOf  s0 = some (r, s9x)) : Ctr yX10_reachedOf cX10_reachedOf 1 (some .int) ({ frames := 7, cells := 0, slots := 0, locals := 157 } : Room) shM [.ref 0] s0 (some (.int r)) s9x := by
  refine Ctr.mk (ri := .ireturn) (by decide) (Nat.le_of_ble_eq_true rfl) (Rt_i r) ?_
  intro G h hL hR hret
  refine k_drop (lv' := [(0, .ref 0)]) [0] rfl ?_
  unfold f_X10_reachedOf at hf
  refine k_aload_n (pc := 0) h dX10_reachedOf_0 rfl 0 rfl ?_
  obtain ⟨s1, cs1, hf⟩ := ob_s hf
  refine k_callV0 (pc := 1) h cv_RX10_193 (c_X10_findsAll  s0 s1 cs1) rfl rfl rfl (st1 := []) rfl ⟨rfl, rfl⟩ (rk hR (Nat.le_of_ble_eq_true rfl) (Nat.le_of_ble_eq_true rfl)) (Nat.le_of_ble_eq_true rfl) dX10_reachedOf_1 ?_
  refine k_aload_n (pc := 4) h dX10_reachedOf_4 rfl 0 rfl ?_
  refine k_getI (pc := 5) h fl_RX10_146 rfl rfl dX10_reachedOf_5 ?_
  obtain ⟨rfl, rfl⟩ := so2 hf
  exact hret 8 _ dX10_reachedOf_8 trivial
theorem dX10_reached_0 : decode cX10_reached 0 = .ok (.aload_n 0, 1) := by decide +kernel
theorem dX10_reached_1 : decode cX10_reached 1 = .ok (.invokevirtual 196, 3) := by decide +kernel
theorem dX10_reached_4 : decode cX10_reached 4 = .ok (.ireturn, 1) := by decide +kernel
def f_X10_reached  (s0 : sh_S) : Option (Int32 × sh_S) := ob2 (f_X10_reachedOf  s0) (fun v1 s2 => some (v1, s2))
set_option maxRecDepth 100000 in
set_option maxHeartbeats 4000000 in
theorem c_X10_reached  (s0 : sh_S) (r : Int32) (s9x : sh_S) (hf : f_X10_reached  s0 = some (r, s9x)) : Ctr yX10_reached cX10_reached 1 (some .int) ({ frames := 8, cells := 0, slots := 0, locals := 177 } : Room) shM [.ref 0] s0 (some (.int r)) s9x := by
  refine Ctr.mk (ri := .ireturn) (by decide) (Nat.le_of_ble_eq_true rfl) (Rt_i r) ?_
  intro G h hL hR hret
  refine k_drop (lv' := [(0, .ref 0)]) [0] rfl ?_
  unfold f_X10_reached at hf
  refine k_aload_n (pc := 0) h dX10_reached_0 rfl 0 rfl ?_
  obtain ⟨v1, s2, cv1, hf⟩ := ob2_s hf
  refine k_callV0 (pc := 1) h cv_RX10_196 (c_X10_reachedOf  s0 v1 s2 cv1) rfl rfl rfl (st1 := [.int v1]) rfl ⟨rfl, rfl⟩ (rk hR (Nat.le_of_ble_eq_true rfl) (Nat.le_of_ble_eq_true rfl)) (Nat.le_of_ble_eq_true rfl) dX10_reached_1 ?_
  obtain ⟨rfl, rfl⟩ := so2 hf
  exact hret 4 _ dX10_reached_4 trivial
theorem dX10_liveOf_0 : decode cX10_liveOf 0 = .ok (.aload_n 0, 1) := by decide +kernel
theorem dX10_liveOf_1 : decode cX10_liveOf 1 = .ok (.invokevirtual 193, 3) := by decide +kernel
theorem dX10_liveOf_4 : decode cX10_liveOf 4 = .ok (.aload_n 0, 1) := by decide +kernel
theorem dX10_liveOf_5 : decode cX10_liveOf 5 = .ok (.getfield 22, 3) := by decide +kernel
theorem dX10_liveOf_8 : decode cX10_liveOf 8 = .ok (.iload_n 1, 1) := by decide +kernel
theorem dX10_liveOf_9 : decode cX10_liveOf 9 = .ok (.iaload, 1) := by decide +kernel
theorem dX10_liveOf_10 : decode cX10_liveOf 10 = .ok (.ireturn, 1) := by decide +kernel
def f_X10_liveOf (p1 : Int32) (s0 : sh_S) : Option (Int32 × sh_S) := ob (f_X10_findsAll  s0) (fun s1 => gu (inb p1 8) (some ((s1 5 (ix p1)), s1)))
set_option maxRecDepth 100000 in
set_option maxHeartbeats 4000000 in
theorem c_X10_liveOf (p1 : Int32) (s0 : sh_S) (r : Int32) (s9x : sh_S) (hf : f_X10_liveOf p1 s0 = some (r, s9x)) : Ctr yX10_liveOf cX10_liveOf 2 (some .int) ({ frames := 7, cells := 0, slots := 0, locals := 157 } : Room) shM [.ref 0, .int p1] s0 (some (.int r)) s9x := by
  refine Ctr.mk (ri := .ireturn) (by decide) (Nat.le_of_ble_eq_true rfl) (Rt_i r) ?_
  intro G h hL hR hret
  refine k_drop (lv' := [(0, .ref 0), (1, .int p1)]) [0, 1] rfl ?_
  unfold f_X10_liveOf at hf
  refine k_aload_n (pc := 0) h dX10_liveOf_0 rfl 0 rfl ?_
  obtain ⟨s1, cs1, hf⟩ := ob_s hf
  refine k_callV0 (pc := 1) h cv_RX10_193 (c_X10_findsAll  s0 s1 cs1) rfl rfl rfl (st1 := []) rfl ⟨rfl, rfl⟩ (rk hR (Nat.le_of_ble_eq_true rfl) (Nat.le_of_ble_eq_true rfl)) (Nat.le_of_ble_eq_true rfl) dX10_liveOf_1 ?_
  refine k_aload_n (pc := 4) h dX10_liveOf_4 rfl 0 rfl ?_
  refine k_getR (pc := 5) h fl_RX10_22 rfl rfl dX10_liveOf_5 ?_
  refine k_iload_n (pc := 8) h dX10_liveOf_8 rfl 1 rfl ?_
  obtain ⟨g2, hf⟩ := gu_s hf
  refine k_iald (pc := 9) (n := 8) h rfl g2 dX10_liveOf_9 ?_
  obtain ⟨rfl, rfl⟩ := so2 hf
  exact hret 10 _ dX10_liveOf_10 trivial
theorem dX10_live_0 : decode cX10_live 0 = .ok (.iload_n 1, 1) := by decide +kernel
theorem dX10_live_1 : decode cX10_live 1 = .ok (.iconst 0, 1) := by decide +kernel
theorem dX10_live_2 : decode cX10_live 2 = .ok (.bipush 7, 2) := by decide +kernel
theorem dX10_live_4 : decode cX10_live 4 = .ok (.invokestatic 93, 3) := by decide +kernel
theorem dX10_live_7 : decode cX10_live 7 = .ok (.ifCond .eq 11, 3) := by decide +kernel
theorem dX10_live_10 : decode cX10_live 10 = .ok (.aload_n 0, 1) := by decide +kernel
theorem dX10_live_11 : decode cX10_live 11 = .ok (.iload_n 1, 1) := by decide +kernel
theorem dX10_live_12 : decode cX10_live 12 = .ok (.invokevirtual 200, 3) := by decide +kernel
theorem dX10_live_15 : decode cX10_live 15 = .ok (.goto 5, 3) := by decide +kernel
theorem dX10_live_18 : decode cX10_live 18 = .ok (.bipush (-2), 2) := by decide +kernel
theorem dX10_live_20 : decode cX10_live 20 = .ok (.ireturn, 1) := by decide +kernel
def f_X10_live (p1 : Int32) (s0 : sh_S) : Option (Int32 × sh_S) := ob (f_X10_in p1 (0 : Int32) (7 : Int32)) (fun v1 => ob2 (if v1 = 0 then some ((-2 : Int32), s0) else ob2 (f_X10_liveOf p1 s0) (fun v4 s5 => some (v4, s5))) (fun v2 s3 => some (v2, s3)))
set_option maxRecDepth 100000 in
set_option maxHeartbeats 4000000 in
theorem c_X10_live (p1 : Int32) (s0 : sh_S) (r : Int32) (s9x : sh_S) (hf : f_X10_live p1 s0 = some (r, s9x)) : Ctr yX10_live cX10_live 2 (some .int) ({ frames := 8, cells := 0, slots := 0, locals := 178 } : Room) shM [.ref 0, .int p1] s0 (some (.int r)) s9x := by
  refine Ctr.mk (ri := .ireturn) (by decide) (Nat.le_of_ble_eq_true rfl) (Rt_i r) ?_
  intro G h hL hR hret
  refine k_drop (lv' := [(0, .ref 0), (1, .int p1)]) [0, 1] rfl ?_
  unfold f_X10_live at hf
  refine k_iload_n (pc := 0) h dX10_live_0 rfl 1 rfl ?_
  refine k_iconst (pc := 1) h dX10_live_1 kc_iconst_0 ?_
  refine k_bipush (pc := 2) h dX10_live_2 kc_bipush_7 ?_
  obtain ⟨v1, cv1, hf⟩ := ob_s hf
  refine k_callSp (pc := 4) h cs_RX10_93 (c_X10_in p1 (0 : Int32) (7 : Int32) _ v1 cv1) rfl rfl (st1 := [.int v1]) rfl ⟨rfl, rfl⟩ (rk hR (Nat.le_of_ble_eq_true rfl) (Nat.le_of_ble_eq_true rfl)) (Nat.le_of_ble_eq_true rfl) dX10_live_4 ?_
  obtain ⟨v2, s3, hj, hf⟩ := ob2_s hf
  have kj7 : sh_K G shM 20 [] [.int v2] s3 := by
    obtain ⟨rfl, rfl⟩ := so2 hf
    exact hret 20 _ dX10_live_20 trivial
  clear hf
  have hf := hj
  clear hj
  refine k_if_eq (pc := 7) (tgt := 18) h dX10_live_7 rfl (fun hc => ?_) (fun hc => ?_)
  · have hf := it_p hc hf
    refine k_bipush (pc := 18) h dX10_live_18 kc_bipush_m2 ?_
    obtain ⟨rfl, rfl⟩ := so2 hf
    exact k_drop [] rfl kj7
  · have hf := it_n hc hf
    refine k_aload_n (pc := 10) h dX10_live_10 rfl 0 rfl ?_
    refine k_iload_n (pc := 11) h dX10_live_11 rfl 1 rfl ?_
    obtain ⟨v4, s5, cv4, hf⟩ := ob2_s hf
    refine k_callV0 (pc := 12) h cv_RX10_200 (c_X10_liveOf p1 s0 v4 s5 cv4) rfl rfl rfl (st1 := [.int v4]) rfl ⟨rfl, rfl⟩ (rk hR (Nat.le_of_ble_eq_true rfl) (Nat.le_of_ble_eq_true rfl)) (Nat.le_of_ble_eq_true rfl) dX10_live_12 ?_
    refine k_goto (pc := 15) (tgt := 20) h dX10_live_15 rfl ?_
    obtain ⟨rfl, rfl⟩ := so2 hf
    exact k_drop [] rfl kj7
theorem dX10_regionOf_0 : decode cX10_regionOf 0 = .ok (.aload_n 0, 1) := by decide +kernel
theorem dX10_regionOf_1 : decode cX10_regionOf 1 = .ok (.invokevirtual 193, 3) := by decide +kernel
theorem dX10_regionOf_4 : decode cX10_regionOf 4 = .ok (.aload_n 0, 1) := by decide +kernel
theorem dX10_regionOf_5 : decode cX10_regionOf 5 = .ok (.getfield 25, 3) := by decide +kernel
theorem dX10_regionOf_8 : decode cX10_regionOf 8 = .ok (.iload_n 1, 1) := by decide +kernel
theorem dX10_regionOf_9 : decode cX10_regionOf 9 = .ok (.iaload, 1) := by decide +kernel
theorem dX10_regionOf_10 : decode cX10_regionOf 10 = .ok (.ireturn, 1) := by decide +kernel
def f_X10_regionOf (p1 : Int32) (s0 : sh_S) : Option (Int32 × sh_S) := ob (f_X10_findsAll  s0) (fun s1 => gu (inb p1 8) (some ((s1 6 (ix p1)), s1)))
set_option maxRecDepth 100000 in
set_option maxHeartbeats 4000000 in
theorem c_X10_regionOf (p1 : Int32) (s0 : sh_S) (r : Int32) (s9x : sh_S) (hf : f_X10_regionOf p1 s0 = some (r, s9x)) : Ctr yX10_regionOf cX10_regionOf 2 (some .int) ({ frames := 7, cells := 0, slots := 0, locals := 157 } : Room) shM [.ref 0, .int p1] s0 (some (.int r)) s9x := by
  refine Ctr.mk (ri := .ireturn) (by decide) (Nat.le_of_ble_eq_true rfl) (Rt_i r) ?_
  intro G h hL hR hret
  refine k_drop (lv' := [(0, .ref 0), (1, .int p1)]) [0, 1] rfl ?_
  unfold f_X10_regionOf at hf
  refine k_aload_n (pc := 0) h dX10_regionOf_0 rfl 0 rfl ?_
  obtain ⟨s1, cs1, hf⟩ := ob_s hf
  refine k_callV0 (pc := 1) h cv_RX10_193 (c_X10_findsAll  s0 s1 cs1) rfl rfl rfl (st1 := []) rfl ⟨rfl, rfl⟩ (rk hR (Nat.le_of_ble_eq_true rfl) (Nat.le_of_ble_eq_true rfl)) (Nat.le_of_ble_eq_true rfl) dX10_regionOf_1 ?_
  refine k_aload_n (pc := 4) h dX10_regionOf_4 rfl 0 rfl ?_
  refine k_getR (pc := 5) h fl_RX10_25 rfl rfl dX10_regionOf_5 ?_
  refine k_iload_n (pc := 8) h dX10_regionOf_8 rfl 1 rfl ?_
  obtain ⟨g2, hf⟩ := gu_s hf
  refine k_iald (pc := 9) (n := 8) h rfl g2 dX10_regionOf_9 ?_
  obtain ⟨rfl, rfl⟩ := so2 hf
  exact hret 10 _ dX10_regionOf_10 trivial
theorem dX10_region_0 : decode cX10_region 0 = .ok (.iload_n 1, 1) := by decide +kernel
theorem dX10_region_1 : decode cX10_region 1 = .ok (.iconst 0, 1) := by decide +kernel
theorem dX10_region_2 : decode cX10_region 2 = .ok (.bipush 7, 2) := by decide +kernel
theorem dX10_region_4 : decode cX10_region 4 = .ok (.invokestatic 93, 3) := by decide +kernel
theorem dX10_region_7 : decode cX10_region 7 = .ok (.ifCond .eq 11, 3) := by decide +kernel
theorem dX10_region_10 : decode cX10_region 10 = .ok (.aload_n 0, 1) := by decide +kernel
theorem dX10_region_11 : decode cX10_region 11 = .ok (.iload_n 1, 1) := by decide +kernel
theorem dX10_region_12 : decode cX10_region 12 = .ok (.invokevirtual 203, 3) := by decide +kernel
theorem dX10_region_15 : decode cX10_region 15 = .ok (.goto 5, 3) := by decide +kernel
theorem dX10_region_18 : decode cX10_region 18 = .ok (.bipush (-2), 2) := by decide +kernel
theorem dX10_region_20 : decode cX10_region 20 = .ok (.ireturn, 1) := by decide +kernel
def f_X10_region (p1 : Int32) (s0 : sh_S) : Option (Int32 × sh_S) := ob (f_X10_in p1 (0 : Int32) (7 : Int32)) (fun v1 => ob2 (if v1 = 0 then some ((-2 : Int32), s0) else ob2 (f_X10_regionOf p1 s0) (fun v4 s5 => some (v4, s5))) (fun v2 s3 => some (v2, s3)))
set_option maxRecDepth 100000 in
set_option maxHeartbeats 4000000 in
theorem c_X10_region (p1 : Int32) (s0 : sh_S) (r : Int32) (s9x : sh_S) (hf : f_X10_region p1 s0 = some (r, s9x)) : Ctr yX10_region cX10_region 2 (some .int) ({ frames := 8, cells := 0, slots := 0, locals := 178 } : Room) shM [.ref 0, .int p1] s0 (some (.int r)) s9x := by
  refine Ctr.mk (ri := .ireturn) (by decide) (Nat.le_of_ble_eq_true rfl) (Rt_i r) ?_
  intro G h hL hR hret
  refine k_drop (lv' := [(0, .ref 0), (1, .int p1)]) [0, 1] rfl ?_
  unfold f_X10_region at hf
  refine k_iload_n (pc := 0) h dX10_region_0 rfl 1 rfl ?_
  refine k_iconst (pc := 1) h dX10_region_1 kc_iconst_0 ?_
  refine k_bipush (pc := 2) h dX10_region_2 kc_bipush_7 ?_
  obtain ⟨v1, cv1, hf⟩ := ob_s hf
  refine k_callSp (pc := 4) h cs_RX10_93 (c_X10_in p1 (0 : Int32) (7 : Int32) _ v1 cv1) rfl rfl (st1 := [.int v1]) rfl ⟨rfl, rfl⟩ (rk hR (Nat.le_of_ble_eq_true rfl) (Nat.le_of_ble_eq_true rfl)) (Nat.le_of_ble_eq_true rfl) dX10_region_4 ?_
  obtain ⟨v2, s3, hj, hf⟩ := ob2_s hf
  have kj7 : sh_K G shM 20 [] [.int v2] s3 := by
    obtain ⟨rfl, rfl⟩ := so2 hf
    exact hret 20 _ dX10_region_20 trivial
  clear hf
  have hf := hj
  clear hj
  refine k_if_eq (pc := 7) (tgt := 18) h dX10_region_7 rfl (fun hc => ?_) (fun hc => ?_)
  · have hf := it_p hc hf
    refine k_bipush (pc := 18) h dX10_region_18 kc_bipush_m2 ?_
    obtain ⟨rfl, rfl⟩ := so2 hf
    exact k_drop [] rfl kj7
  · have hf := it_n hc hf
    refine k_aload_n (pc := 10) h dX10_region_10 rfl 0 rfl ?_
    refine k_iload_n (pc := 11) h dX10_region_11 rfl 1 rfl ?_
    obtain ⟨v4, s5, cv4, hf⟩ := ob2_s hf
    refine k_callV0 (pc := 12) h cv_RX10_203 (c_X10_regionOf p1 s0 v4 s5 cv4) rfl rfl rfl (st1 := [.int v4]) rfl ⟨rfl, rfl⟩ (rk hR (Nat.le_of_ble_eq_true rfl) (Nat.le_of_ble_eq_true rfl)) (Nat.le_of_ble_eq_true rfl) dX10_region_12 ?_
    refine k_goto (pc := 15) (tgt := 20) h dX10_region_15 rfl ?_
    obtain ⟨rfl, rfl⟩ := so2 hf
    exact k_drop [] rfl kj7
theorem dX10_holdsOf_0 : decode cX10_holdsOf 0 = .ok (.aload_n 0, 1) := by decide +kernel
theorem dX10_holdsOf_1 : decode cX10_holdsOf 1 = .ok (.invokevirtual 193, 3) := by decide +kernel
theorem dX10_holdsOf_4 : decode cX10_holdsOf 4 = .ok (.aload_n 0, 1) := by decide +kernel
theorem dX10_holdsOf_5 : decode cX10_holdsOf 5 = .ok (.getfield 146, 3) := by decide +kernel
theorem dX10_holdsOf_8 : decode cX10_holdsOf 8 = .ok (.iload_n 1, 1) := by decide +kernel
theorem dX10_holdsOf_9 : decode cX10_holdsOf 9 = .ok (.invokestatic 89, 3) := by decide +kernel
theorem dX10_holdsOf_12 : decode cX10_holdsOf 12 = .ok (.ifCond .eq 17, 3) := by decide +kernel
theorem dX10_holdsOf_15 : decode cX10_holdsOf 15 = .ok (.aload_n 0, 1) := by decide +kernel
theorem dX10_holdsOf_16 : decode cX10_holdsOf 16 = .ok (.getfield 28, 3) := by decide +kernel
theorem dX10_holdsOf_19 : decode cX10_holdsOf 19 = .ok (.bipush 8, 2) := by decide +kernel
theorem dX10_holdsOf_21 : decode cX10_holdsOf 21 = .ok (.iload_n 1, 1) := by decide +kernel
theorem dX10_holdsOf_22 : decode cX10_holdsOf 22 = .ok (.imul, 1) := by decide +kernel
theorem dX10_holdsOf_23 : decode cX10_holdsOf 23 = .ok (.iload_n 2, 1) := by decide +kernel
theorem dX10_holdsOf_24 : decode cX10_holdsOf 24 = .ok (.iadd, 1) := by decide +kernel
theorem dX10_holdsOf_25 : decode cX10_holdsOf 25 = .ok (.iaload, 1) := by decide +kernel
theorem dX10_holdsOf_26 : decode cX10_holdsOf 26 = .ok (.goto 4, 3) := by decide +kernel
theorem dX10_holdsOf_29 : decode cX10_holdsOf 29 = .ok (.iconst 0, 1) := by decide +kernel
theorem dX10_holdsOf_30 : decode cX10_holdsOf 30 = .ok (.ireturn, 1) := by decide +kernel
def f_X10_holdsOf (p1 : Int32) (p2 : Int32) (s0 : sh_S) : Option (Int32 × sh_S) := ob (f_X10_findsAll  s0) (fun s1 => ob (f_X10_isIn (s1 0 5) p1) (fun v2 => ob (if v2 = 0 then some (0 : Int32) else gu (inb (((8 : Int32) * p1) + p2) 192) (some (s1 7 (ix (((8 : Int32) * p1) + p2))))) (fun v3 => some (v3, s1))))
set_option maxRecDepth 100000 in
set_option maxHeartbeats 4000000 in
theorem c_X10_holdsOf (p1 : Int32) (p2 : Int32) (s0 : sh_S) (r : Int32) (s9x : sh_S) (hf : f_X10_holdsOf p1 p2 s0 = some (r, s9x)) : Ctr yX10_holdsOf cX10_holdsOf 3 (some .int) ({ frames := 7, cells := 0, slots := 0, locals := 157 } : Room) shM [.ref 0, .int p1, .int p2] s0 (some (.int r)) s9x := by
  refine Ctr.mk (ri := .ireturn) (by decide) (Nat.le_of_ble_eq_true rfl) (Rt_i r) ?_
  intro G h hL hR hret
  refine k_drop (lv' := [(0, .ref 0), (1, .int p1), (2, .int p2)]) [0, 1, 2] rfl ?_
  unfold f_X10_holdsOf at hf
  refine k_aload_n (pc := 0) h dX10_holdsOf_0 rfl 0 rfl ?_
  obtain ⟨s1, cs1, hf⟩ := ob_s hf
  refine k_callV0 (pc := 1) h cv_RX10_193 (c_X10_findsAll  s0 s1 cs1) rfl rfl rfl (st1 := []) rfl ⟨rfl, rfl⟩ (rk hR (Nat.le_of_ble_eq_true rfl) (Nat.le_of_ble_eq_true rfl)) (Nat.le_of_ble_eq_true rfl) dX10_holdsOf_1 ?_
  refine k_aload_n (pc := 4) h dX10_holdsOf_4 rfl 0 rfl ?_
  refine k_getI (pc := 5) h fl_RX10_146 rfl rfl dX10_holdsOf_5 ?_
  refine k_iload_n (pc := 8) h dX10_holdsOf_8 rfl 1 rfl ?_
  obtain ⟨v2, cv2, hf⟩ := ob_s hf
  refine k_callSp (pc := 9) h cs_RX10_89 (c_X10_isIn (s1 0 5) p1 _ v2 cv2) rfl rfl (st1 := [.int v2]) rfl ⟨rfl, rfl⟩ (rk hR (Nat.le_of_ble_eq_true rfl) (Nat.le_of_ble_eq_true rfl)) (Nat.le_of_ble_eq_true rfl) dX10_holdsOf_9 ?_
  obtain ⟨v3, hj, hf⟩ := ob_s hf
  have kj12 : sh_K G shM 30 [] [.int v3] s1 := by
    obtain ⟨rfl, rfl⟩ := so2 hf
    exact hret 30 _ dX10_holdsOf_30 trivial
  clear hf
  have hf := hj
  clear hj
  refine k_if_eq (pc := 12) (tgt := 29) h dX10_holdsOf_12 rfl (fun hc => ?_) (fun hc => ?_)
  · have hf := it_p hc hf
    refine k_iconst (pc := 29) h dX10_holdsOf_29 kc_iconst_0 ?_
    obtain rfl := so1 hf
    exact k_drop [] rfl kj12
  · have hf := it_n hc hf
    refine k_aload_n (pc := 15) h dX10_holdsOf_15 rfl 0 rfl ?_
    refine k_getR (pc := 16) h fl_RX10_28 rfl rfl dX10_holdsOf_16 ?_
    refine k_bipush (pc := 19) h dX10_holdsOf_19 kc_bipush_8 ?_
    refine k_iload_n (pc := 21) h dX10_holdsOf_21 rfl 1 rfl ?_
    refine k_imul (pc := 22) h dX10_holdsOf_22 ?_
    refine k_iload_n (pc := 23) h dX10_holdsOf_23 rfl 2 rfl ?_
    refine k_iadd (pc := 24) h dX10_holdsOf_24 ?_
    obtain ⟨g4, hf⟩ := gu_s hf
    refine k_iald (pc := 25) (n := 192) h rfl g4 dX10_holdsOf_25 ?_
    refine k_goto (pc := 26) (tgt := 30) h dX10_holdsOf_26 rfl ?_
    obtain rfl := so1 hf
    exact k_drop [] rfl kj12
theorem dX10_holds_0 : decode cX10_holds 0 = .ok (.aload_n 0, 1) := by decide +kernel
theorem dX10_holds_1 : decode cX10_holds 1 = .ok (.iload_n 1, 1) := by decide +kernel
theorem dX10_holds_2 : decode cX10_holds 2 = .ok (.invokevirtual 109, 3) := by decide +kernel
theorem dX10_holds_5 : decode cX10_holds 5 = .ok (.ifCond .eq 22, 3) := by decide +kernel
theorem dX10_holds_8 : decode cX10_holds 8 = .ok (.iload_n 2, 1) := by decide +kernel
theorem dX10_holds_9 : decode cX10_holds 9 = .ok (.iconst 0, 1) := by decide +kernel
theorem dX10_holds_10 : decode cX10_holds 10 = .ok (.bipush 7, 2) := by decide +kernel
theorem dX10_holds_12 : decode cX10_holds 12 = .ok (.invokestatic 93, 3) := by decide +kernel
theorem dX10_holds_15 : decode cX10_holds 15 = .ok (.ifCond .eq 12, 3) := by decide +kernel
theorem dX10_holds_18 : decode cX10_holds 18 = .ok (.aload_n 0, 1) := by decide +kernel
theorem dX10_holds_19 : decode cX10_holds 19 = .ok (.iload_n 1, 1) := by decide +kernel
theorem dX10_holds_20 : decode cX10_holds 20 = .ok (.iload_n 2, 1) := by decide +kernel
theorem dX10_holds_21 : decode cX10_holds 21 = .ok (.invokevirtual 206, 3) := by decide +kernel
theorem dX10_holds_24 : decode cX10_holds 24 = .ok (.goto 5, 3) := by decide +kernel
theorem dX10_holds_27 : decode cX10_holds 27 = .ok (.bipush (-2), 2) := by decide +kernel
theorem dX10_holds_29 : decode cX10_holds 29 = .ok (.ireturn, 1) := by decide +kernel
def f_X10_holds (p1 : Int32) (p2 : Int32) (s0 : sh_S) : Option (Int32 × sh_S) := ob (f_X10_isPoint p1 s0) (fun v1 => ob2 (if v1 = 0 then some ((-2 : Int32), s0) else ob (f_X10_in p2 (0 : Int32) (7 : Int32)) (fun v4 => (if v4 = 0 then some ((-2 : Int32), s0) else ob2 (f_X10_holdsOf p1 p2 s0) (fun v5 s6 => some (v5, s6))))) (fun v2 s3 => some (v2, s3)))
set_option maxRecDepth 100000 in
set_option maxHeartbeats 4000000 in
theorem c_X10_holds (p1 : Int32) (p2 : Int32) (s0 : sh_S) (r : Int32) (s9x : sh_S) (hf : f_X10_holds p1 p2 s0 = some (r, s9x)) : Ctr yX10_holds cX10_holds 3 (some .int) ({ frames := 8, cells := 0, slots := 0, locals := 179 } : Room) shM [.ref 0, .int p1, .int p2] s0 (some (.int r)) s9x := by
  refine Ctr.mk (ri := .ireturn) (by decide) (Nat.le_of_ble_eq_true rfl) (Rt_i r) ?_
  intro G h hL hR hret
  refine k_drop (lv' := [(0, .ref 0), (1, .int p1), (2, .int p2)]) [0, 1, 2] rfl ?_
  unfold f_X10_holds at hf
  refine k_aload_n (pc := 0) h dX10_holds_0 rfl 0 rfl ?_
  refine k_iload_n (pc := 1) h dX10_holds_1 rfl 1 rfl ?_
  obtain ⟨v1, cv1, hf⟩ := ob_s hf
  refine k_callV0 (pc := 2) h cv_RX10_109 (c_X10_isPoint p1 s0 v1 cv1) rfl rfl rfl (st1 := [.int v1]) rfl ⟨rfl, rfl⟩ (rk hR (Nat.le_of_ble_eq_true rfl) (Nat.le_of_ble_eq_true rfl)) (Nat.le_of_ble_eq_true rfl) dX10_holds_2 ?_
  obtain ⟨v2, s3, hj, hf⟩ := ob2_s hf
  have kj5 : sh_K G shM 29 [] [.int v2] s3 := by
    obtain ⟨rfl, rfl⟩ := so2 hf
    exact hret 29 _ dX10_holds_29 trivial
  clear hf
  have hf := hj
  clear hj
  refine k_if_eq (pc := 5) (tgt := 27) h dX10_holds_5 rfl (fun hc => ?_) (fun hc => ?_)
  · have hf := it_p hc hf
    refine k_bipush (pc := 27) h dX10_holds_27 kc_bipush_m2 ?_
    obtain ⟨rfl, rfl⟩ := so2 hf
    exact k_drop [] rfl kj5
  · have hf := it_n hc hf
    refine k_iload_n (pc := 8) h dX10_holds_8 rfl 2 rfl ?_
    refine k_iconst (pc := 9) h dX10_holds_9 kc_iconst_0 ?_
    refine k_bipush (pc := 10) h dX10_holds_10 kc_bipush_7 ?_
    obtain ⟨v4, cv4, hf⟩ := ob_s hf
    refine k_callSp (pc := 12) h cs_RX10_93 (c_X10_in p2 (0 : Int32) (7 : Int32) _ v4 cv4) rfl rfl (st1 := [.int v4]) rfl ⟨rfl, rfl⟩ (rk hR (Nat.le_of_ble_eq_true rfl) (Nat.le_of_ble_eq_true rfl)) (Nat.le_of_ble_eq_true rfl) dX10_holds_12 ?_
    refine k_if_eq (pc := 15) (tgt := 27) h dX10_holds_15 rfl (fun hc => ?_) (fun hc => ?_)
    · have hf := it_p hc hf
      refine k_bipush (pc := 27) h dX10_holds_27 kc_bipush_m2 ?_
      obtain ⟨rfl, rfl⟩ := so2 hf
      exact k_drop [] rfl kj5
    · have hf := it_n hc hf
      refine k_aload_n (pc := 18) h dX10_holds_18 rfl 0 rfl ?_
      refine k_iload_n (pc := 19) h dX10_holds_19 rfl 1 rfl ?_
      refine k_iload_n (pc := 20) h dX10_holds_20 rfl 2 rfl ?_
      obtain ⟨v5, s6, cv5, hf⟩ := ob2_s hf
      refine k_callV0 (pc := 21) h cv_RX10_206 (c_X10_holdsOf p1 p2 s0 v5 s6 cv5) rfl rfl rfl (st1 := [.int v5]) rfl ⟨rfl, rfl⟩ (rk hR (Nat.le_of_ble_eq_true rfl) (Nat.le_of_ble_eq_true rfl)) (Nat.le_of_ble_eq_true rfl) dX10_holds_21 ?_
      refine k_goto (pc := 24) (tgt := 29) h dX10_holds_24 rfl ?_
      obtain ⟨rfl, rfl⟩ := so2 hf
      exact k_drop [] rfl kj5
theorem dX10_loansOf_0 : decode cX10_loansOf 0 = .ok (.aload_n 0, 1) := by decide +kernel
theorem dX10_loansOf_1 : decode cX10_loansOf 1 = .ok (.invokevirtual 193, 3) := by decide +kernel
theorem dX10_loansOf_4 : decode cX10_loansOf 4 = .ok (.aload_n 0, 1) := by decide +kernel
theorem dX10_loansOf_5 : decode cX10_loansOf 5 = .ok (.getfield 149, 3) := by decide +kernel
theorem dX10_loansOf_8 : decode cX10_loansOf 8 = .ok (.ireturn, 1) := by decide +kernel
def f_X10_loansOf  (s0 : sh_S) : Option (Int32 × sh_S) := ob (f_X10_findsAll  s0) (fun s1 => some ((s1 0 6), s1))
set_option maxRecDepth 100000 in
set_option maxHeartbeats 4000000 in
theorem c_X10_loansOf  (s0 : sh_S) (r : Int32) (s9x : sh_S) (hf : f_X10_loansOf  s0 = some (r, s9x)) : Ctr yX10_loansOf cX10_loansOf 1 (some .int) ({ frames := 7, cells := 0, slots := 0, locals := 157 } : Room) shM [.ref 0] s0 (some (.int r)) s9x := by
  refine Ctr.mk (ri := .ireturn) (by decide) (Nat.le_of_ble_eq_true rfl) (Rt_i r) ?_
  intro G h hL hR hret
  refine k_drop (lv' := [(0, .ref 0)]) [0] rfl ?_
  unfold f_X10_loansOf at hf
  refine k_aload_n (pc := 0) h dX10_loansOf_0 rfl 0 rfl ?_
  obtain ⟨s1, cs1, hf⟩ := ob_s hf
  refine k_callV0 (pc := 1) h cv_RX10_193 (c_X10_findsAll  s0 s1 cs1) rfl rfl rfl (st1 := []) rfl ⟨rfl, rfl⟩ (rk hR (Nat.le_of_ble_eq_true rfl) (Nat.le_of_ble_eq_true rfl)) (Nat.le_of_ble_eq_true rfl) dX10_loansOf_1 ?_
  refine k_aload_n (pc := 4) h dX10_loansOf_4 rfl 0 rfl ?_
  refine k_getI (pc := 5) h fl_RX10_149 rfl rfl dX10_loansOf_5 ?_
  obtain ⟨rfl, rfl⟩ := so2 hf
  exact hret 8 _ dX10_loansOf_8 trivial
theorem dX10_loans_0 : decode cX10_loans 0 = .ok (.aload_n 0, 1) := by decide +kernel
theorem dX10_loans_1 : decode cX10_loans 1 = .ok (.invokevirtual 209, 3) := by decide +kernel
theorem dX10_loans_4 : decode cX10_loans 4 = .ok (.ireturn, 1) := by decide +kernel
def f_X10_loans  (s0 : sh_S) : Option (Int32 × sh_S) := ob2 (f_X10_loansOf  s0) (fun v1 s2 => some (v1, s2))
set_option maxRecDepth 100000 in
set_option maxHeartbeats 4000000 in
theorem c_X10_loans  (s0 : sh_S) (r : Int32) (s9x : sh_S) (hf : f_X10_loans  s0 = some (r, s9x)) : Ctr yX10_loans cX10_loans 1 (some .int) ({ frames := 8, cells := 0, slots := 0, locals := 177 } : Room) shM [.ref 0] s0 (some (.int r)) s9x := by
  refine Ctr.mk (ri := .ireturn) (by decide) (Nat.le_of_ble_eq_true rfl) (Rt_i r) ?_
  intro G h hL hR hret
  refine k_drop (lv' := [(0, .ref 0)]) [0] rfl ?_
  unfold f_X10_loans at hf
  refine k_aload_n (pc := 0) h dX10_loans_0 rfl 0 rfl ?_
  obtain ⟨v1, s2, cv1, hf⟩ := ob2_s hf
  refine k_callV0 (pc := 1) h cv_RX10_209 (c_X10_loansOf  s0 v1 s2 cv1) rfl rfl rfl (st1 := [.int v1]) rfl ⟨rfl, rfl⟩ (rk hR (Nat.le_of_ble_eq_true rfl) (Nat.le_of_ble_eq_true rfl)) (Nat.le_of_ble_eq_true rfl) dX10_loans_1 ?_
  obtain ⟨rfl, rfl⟩ := so2 hf
  exact hret 4 _ dX10_loans_4 trivial
theorem dX10_scopeOf_0 : decode cX10_scopeOf 0 = .ok (.aload_n 0, 1) := by decide +kernel
theorem dX10_scopeOf_1 : decode cX10_scopeOf 1 = .ok (.invokevirtual 193, 3) := by decide +kernel
theorem dX10_scopeOf_4 : decode cX10_scopeOf 4 = .ok (.aload_n 0, 1) := by decide +kernel
theorem dX10_scopeOf_5 : decode cX10_scopeOf 5 = .ok (.getfield 31, 3) := by decide +kernel
theorem dX10_scopeOf_8 : decode cX10_scopeOf 8 = .ok (.iload_n 1, 1) := by decide +kernel
theorem dX10_scopeOf_9 : decode cX10_scopeOf 9 = .ok (.iaload, 1) := by decide +kernel
theorem dX10_scopeOf_10 : decode cX10_scopeOf 10 = .ok (.ireturn, 1) := by decide +kernel
def f_X10_scopeOf (p1 : Int32) (s0 : sh_S) : Option (Int32 × sh_S) := ob (f_X10_findsAll  s0) (fun s1 => gu (inb p1 24) (some ((s1 8 (ix p1)), s1)))
set_option maxRecDepth 100000 in
set_option maxHeartbeats 4000000 in
theorem c_X10_scopeOf (p1 : Int32) (s0 : sh_S) (r : Int32) (s9x : sh_S) (hf : f_X10_scopeOf p1 s0 = some (r, s9x)) : Ctr yX10_scopeOf cX10_scopeOf 2 (some .int) ({ frames := 7, cells := 0, slots := 0, locals := 157 } : Room) shM [.ref 0, .int p1] s0 (some (.int r)) s9x := by
  refine Ctr.mk (ri := .ireturn) (by decide) (Nat.le_of_ble_eq_true rfl) (Rt_i r) ?_
  intro G h hL hR hret
  refine k_drop (lv' := [(0, .ref 0), (1, .int p1)]) [0, 1] rfl ?_
  unfold f_X10_scopeOf at hf
  refine k_aload_n (pc := 0) h dX10_scopeOf_0 rfl 0 rfl ?_
  obtain ⟨s1, cs1, hf⟩ := ob_s hf
  refine k_callV0 (pc := 1) h cv_RX10_193 (c_X10_findsAll  s0 s1 cs1) rfl rfl rfl (st1 := []) rfl ⟨rfl, rfl⟩ (rk hR (Nat.le_of_ble_eq_true rfl) (Nat.le_of_ble_eq_true rfl)) (Nat.le_of_ble_eq_true rfl) dX10_scopeOf_1 ?_
  refine k_aload_n (pc := 4) h dX10_scopeOf_4 rfl 0 rfl ?_
  refine k_getR (pc := 5) h fl_RX10_31 rfl rfl dX10_scopeOf_5 ?_
  refine k_iload_n (pc := 8) h dX10_scopeOf_8 rfl 1 rfl ?_
  obtain ⟨g2, hf⟩ := gu_s hf
  refine k_iald (pc := 9) (n := 24) h rfl g2 dX10_scopeOf_9 ?_
  obtain ⟨rfl, rfl⟩ := so2 hf
  exact hret 10 _ dX10_scopeOf_10 trivial
theorem dX10_scope_0 : decode cX10_scope 0 = .ok (.aload_n 0, 1) := by decide +kernel
theorem dX10_scope_1 : decode cX10_scope 1 = .ok (.iload_n 1, 1) := by decide +kernel
theorem dX10_scope_2 : decode cX10_scope 2 = .ok (.invokevirtual 109, 3) := by decide +kernel
theorem dX10_scope_5 : decode cX10_scope 5 = .ok (.ifCond .eq 11, 3) := by decide +kernel
theorem dX10_scope_8 : decode cX10_scope 8 = .ok (.aload_n 0, 1) := by decide +kernel
theorem dX10_scope_9 : decode cX10_scope 9 = .ok (.iload_n 1, 1) := by decide +kernel
theorem dX10_scope_10 : decode cX10_scope 10 = .ok (.invokevirtual 212, 3) := by decide +kernel
theorem dX10_scope_13 : decode cX10_scope 13 = .ok (.goto 5, 3) := by decide +kernel
theorem dX10_scope_16 : decode cX10_scope 16 = .ok (.bipush (-2), 2) := by decide +kernel
theorem dX10_scope_18 : decode cX10_scope 18 = .ok (.ireturn, 1) := by decide +kernel
def f_X10_scope (p1 : Int32) (s0 : sh_S) : Option (Int32 × sh_S) := ob (f_X10_isPoint p1 s0) (fun v1 => ob2 (if v1 = 0 then some ((-2 : Int32), s0) else ob2 (f_X10_scopeOf p1 s0) (fun v4 s5 => some (v4, s5))) (fun v2 s3 => some (v2, s3)))
set_option maxRecDepth 100000 in
set_option maxHeartbeats 4000000 in
theorem c_X10_scope (p1 : Int32) (s0 : sh_S) (r : Int32) (s9x : sh_S) (hf : f_X10_scope p1 s0 = some (r, s9x)) : Ctr yX10_scope cX10_scope 2 (some .int) ({ frames := 8, cells := 0, slots := 0, locals := 178 } : Room) shM [.ref 0, .int p1] s0 (some (.int r)) s9x := by
  refine Ctr.mk (ri := .ireturn) (by decide) (Nat.le_of_ble_eq_true rfl) (Rt_i r) ?_
  intro G h hL hR hret
  refine k_drop (lv' := [(0, .ref 0), (1, .int p1)]) [0, 1] rfl ?_
  unfold f_X10_scope at hf
  refine k_aload_n (pc := 0) h dX10_scope_0 rfl 0 rfl ?_
  refine k_iload_n (pc := 1) h dX10_scope_1 rfl 1 rfl ?_
  obtain ⟨v1, cv1, hf⟩ := ob_s hf
  refine k_callV0 (pc := 2) h cv_RX10_109 (c_X10_isPoint p1 s0 v1 cv1) rfl rfl rfl (st1 := [.int v1]) rfl ⟨rfl, rfl⟩ (rk hR (Nat.le_of_ble_eq_true rfl) (Nat.le_of_ble_eq_true rfl)) (Nat.le_of_ble_eq_true rfl) dX10_scope_2 ?_
  obtain ⟨v2, s3, hj, hf⟩ := ob2_s hf
  have kj5 : sh_K G shM 18 [] [.int v2] s3 := by
    obtain ⟨rfl, rfl⟩ := so2 hf
    exact hret 18 _ dX10_scope_18 trivial
  clear hf
  have hf := hj
  clear hj
  refine k_if_eq (pc := 5) (tgt := 16) h dX10_scope_5 rfl (fun hc => ?_) (fun hc => ?_)
  · have hf := it_p hc hf
    refine k_bipush (pc := 16) h dX10_scope_16 kc_bipush_m2 ?_
    obtain ⟨rfl, rfl⟩ := so2 hf
    exact k_drop [] rfl kj5
  · have hf := it_n hc hf
    refine k_aload_n (pc := 8) h dX10_scope_8 rfl 0 rfl ?_
    refine k_iload_n (pc := 9) h dX10_scope_9 rfl 1 rfl ?_
    obtain ⟨v4, s5, cv4, hf⟩ := ob2_s hf
    refine k_callV0 (pc := 10) h cv_RX10_212 (c_X10_scopeOf p1 s0 v4 s5 cv4) rfl rfl rfl (st1 := [.int v4]) rfl ⟨rfl, rfl⟩ (rk hR (Nat.le_of_ble_eq_true rfl) (Nat.le_of_ble_eq_true rfl)) (Nat.le_of_ble_eq_true rfl) dX10_scope_10 ?_
    refine k_goto (pc := 13) (tgt := 18) h dX10_scope_13 rfl ?_
    obtain ⟨rfl, rfl⟩ := so2 hf
    exact k_drop [] rfl kj5
theorem dX10_activeOf_0 : decode cX10_activeOf 0 = .ok (.aload_n 0, 1) := by decide +kernel
theorem dX10_activeOf_1 : decode cX10_activeOf 1 = .ok (.invokevirtual 193, 3) := by decide +kernel
theorem dX10_activeOf_4 : decode cX10_activeOf 4 = .ok (.aload_n 0, 1) := by decide +kernel
theorem dX10_activeOf_5 : decode cX10_activeOf 5 = .ok (.getfield 34, 3) := by decide +kernel
theorem dX10_activeOf_8 : decode cX10_activeOf 8 = .ok (.iload_n 1, 1) := by decide +kernel
theorem dX10_activeOf_9 : decode cX10_activeOf 9 = .ok (.iaload, 1) := by decide +kernel
theorem dX10_activeOf_10 : decode cX10_activeOf 10 = .ok (.ireturn, 1) := by decide +kernel
def f_X10_activeOf (p1 : Int32) (s0 : sh_S) : Option (Int32 × sh_S) := ob (f_X10_findsAll  s0) (fun s1 => gu (inb p1 24) (some ((s1 9 (ix p1)), s1)))
set_option maxRecDepth 100000 in
set_option maxHeartbeats 4000000 in
theorem c_X10_activeOf (p1 : Int32) (s0 : sh_S) (r : Int32) (s9x : sh_S) (hf : f_X10_activeOf p1 s0 = some (r, s9x)) : Ctr yX10_activeOf cX10_activeOf 2 (some .int) ({ frames := 7, cells := 0, slots := 0, locals := 157 } : Room) shM [.ref 0, .int p1] s0 (some (.int r)) s9x := by
  refine Ctr.mk (ri := .ireturn) (by decide) (Nat.le_of_ble_eq_true rfl) (Rt_i r) ?_
  intro G h hL hR hret
  refine k_drop (lv' := [(0, .ref 0), (1, .int p1)]) [0, 1] rfl ?_
  unfold f_X10_activeOf at hf
  refine k_aload_n (pc := 0) h dX10_activeOf_0 rfl 0 rfl ?_
  obtain ⟨s1, cs1, hf⟩ := ob_s hf
  refine k_callV0 (pc := 1) h cv_RX10_193 (c_X10_findsAll  s0 s1 cs1) rfl rfl rfl (st1 := []) rfl ⟨rfl, rfl⟩ (rk hR (Nat.le_of_ble_eq_true rfl) (Nat.le_of_ble_eq_true rfl)) (Nat.le_of_ble_eq_true rfl) dX10_activeOf_1 ?_
  refine k_aload_n (pc := 4) h dX10_activeOf_4 rfl 0 rfl ?_
  refine k_getR (pc := 5) h fl_RX10_34 rfl rfl dX10_activeOf_5 ?_
  refine k_iload_n (pc := 8) h dX10_activeOf_8 rfl 1 rfl ?_
  obtain ⟨g2, hf⟩ := gu_s hf
  refine k_iald (pc := 9) (n := 24) h rfl g2 dX10_activeOf_9 ?_
  obtain ⟨rfl, rfl⟩ := so2 hf
  exact hret 10 _ dX10_activeOf_10 trivial
theorem dX10_active_0 : decode cX10_active 0 = .ok (.aload_n 0, 1) := by decide +kernel
theorem dX10_active_1 : decode cX10_active 1 = .ok (.iload_n 1, 1) := by decide +kernel
theorem dX10_active_2 : decode cX10_active 2 = .ok (.invokevirtual 109, 3) := by decide +kernel
theorem dX10_active_5 : decode cX10_active 5 = .ok (.ifCond .eq 11, 3) := by decide +kernel
theorem dX10_active_8 : decode cX10_active 8 = .ok (.aload_n 0, 1) := by decide +kernel
theorem dX10_active_9 : decode cX10_active 9 = .ok (.iload_n 1, 1) := by decide +kernel
theorem dX10_active_10 : decode cX10_active 10 = .ok (.invokevirtual 215, 3) := by decide +kernel
theorem dX10_active_13 : decode cX10_active 13 = .ok (.goto 5, 3) := by decide +kernel
theorem dX10_active_16 : decode cX10_active 16 = .ok (.bipush (-2), 2) := by decide +kernel
theorem dX10_active_18 : decode cX10_active 18 = .ok (.ireturn, 1) := by decide +kernel
def f_X10_active (p1 : Int32) (s0 : sh_S) : Option (Int32 × sh_S) := ob (f_X10_isPoint p1 s0) (fun v1 => ob2 (if v1 = 0 then some ((-2 : Int32), s0) else ob2 (f_X10_activeOf p1 s0) (fun v4 s5 => some (v4, s5))) (fun v2 s3 => some (v2, s3)))
set_option maxRecDepth 100000 in
set_option maxHeartbeats 4000000 in
theorem c_X10_active (p1 : Int32) (s0 : sh_S) (r : Int32) (s9x : sh_S) (hf : f_X10_active p1 s0 = some (r, s9x)) : Ctr yX10_active cX10_active 2 (some .int) ({ frames := 8, cells := 0, slots := 0, locals := 178 } : Room) shM [.ref 0, .int p1] s0 (some (.int r)) s9x := by
  refine Ctr.mk (ri := .ireturn) (by decide) (Nat.le_of_ble_eq_true rfl) (Rt_i r) ?_
  intro G h hL hR hret
  refine k_drop (lv' := [(0, .ref 0), (1, .int p1)]) [0, 1] rfl ?_
  unfold f_X10_active at hf
  refine k_aload_n (pc := 0) h dX10_active_0 rfl 0 rfl ?_
  refine k_iload_n (pc := 1) h dX10_active_1 rfl 1 rfl ?_
  obtain ⟨v1, cv1, hf⟩ := ob_s hf
  refine k_callV0 (pc := 2) h cv_RX10_109 (c_X10_isPoint p1 s0 v1 cv1) rfl rfl rfl (st1 := [.int v1]) rfl ⟨rfl, rfl⟩ (rk hR (Nat.le_of_ble_eq_true rfl) (Nat.le_of_ble_eq_true rfl)) (Nat.le_of_ble_eq_true rfl) dX10_active_2 ?_
  obtain ⟨v2, s3, hj, hf⟩ := ob2_s hf
  have kj5 : sh_K G shM 18 [] [.int v2] s3 := by
    obtain ⟨rfl, rfl⟩ := so2 hf
    exact hret 18 _ dX10_active_18 trivial
  clear hf
  have hf := hj
  clear hj
  refine k_if_eq (pc := 5) (tgt := 16) h dX10_active_5 rfl (fun hc => ?_) (fun hc => ?_)
  · have hf := it_p hc hf
    refine k_bipush (pc := 16) h dX10_active_16 kc_bipush_m2 ?_
    obtain ⟨rfl, rfl⟩ := so2 hf
    exact k_drop [] rfl kj5
  · have hf := it_n hc hf
    refine k_aload_n (pc := 8) h dX10_active_8 rfl 0 rfl ?_
    refine k_iload_n (pc := 9) h dX10_active_9 rfl 1 rfl ?_
    obtain ⟨v4, s5, cv4, hf⟩ := ob2_s hf
    refine k_callV0 (pc := 10) h cv_RX10_215 (c_X10_activeOf p1 s0 v4 s5 cv4) rfl rfl rfl (st1 := [.int v4]) rfl ⟨rfl, rfl⟩ (rk hR (Nat.le_of_ble_eq_true rfl) (Nat.le_of_ble_eq_true rfl)) (Nat.le_of_ble_eq_true rfl) dX10_active_10 ?_
    refine k_goto (pc := 13) (tgt := 18) h dX10_active_13 rfl ?_
    obtain ⟨rfl, rfl⟩ := so2 hf
    exact k_drop [] rfl kj5
theorem dX10_bearing_0 : decode cX10_bearing 0 = .ok (.iconst 1, 1) := by decide +kernel
theorem dX10_bearing_1 : decode cX10_bearing 1 = .ok (.aload_n 0, 1) := by decide +kernel
theorem dX10_bearing_2 : decode cX10_bearing 2 = .ok (.getfield 13, 3) := by decide +kernel
theorem dX10_bearing_5 : decode cX10_bearing 5 = .ok (.iload_n 1, 1) := by decide +kernel
theorem dX10_bearing_6 : decode cX10_bearing 6 = .ok (.iaload, 1) := by decide +kernel
theorem dX10_bearing_7 : decode cX10_bearing 7 = .ok (.ishl, 1) := by decide +kernel
theorem dX10_bearing_8 : decode cX10_bearing 8 = .ok (.istore_n 2, 1) := by decide +kernel
theorem dX10_bearing_9 : decode cX10_bearing 9 = .ok (.iconst 0, 1) := by decide +kernel
theorem dX10_bearing_10 : decode cX10_bearing 10 = .ok (.istore_n 3, 1) := by decide +kernel
theorem dX10_bearing_11 : decode cX10_bearing 11 = .ok (.iload_n 3, 1) := by decide +kernel
theorem dX10_bearing_12 : decode cX10_bearing 12 = .ok (.bipush 8, 2) := by decide +kernel
theorem dX10_bearing_14 : decode cX10_bearing 14 = .ok (.if_icmp .ge 118, 3) := by decide +kernel
theorem dX10_bearing_17 : decode cX10_bearing 17 = .ok (.iconst 0, 1) := by decide +kernel
theorem dX10_bearing_18 : decode cX10_bearing 18 = .ok (.istore 4, 2) := by decide +kernel
theorem dX10_bearing_20 : decode cX10_bearing 20 = .ok (.iload 4, 2) := by decide +kernel
theorem dX10_bearing_22 : decode cX10_bearing 22 = .ok (.aload_n 0, 1) := by decide +kernel
theorem dX10_bearing_23 : decode cX10_bearing 23 = .ok (.getfield 101, 3) := by decide +kernel
theorem dX10_bearing_26 : decode cX10_bearing 26 = .ok (.if_icmp .ge 100, 3) := by decide +kernel
theorem dX10_bearing_29 : decode cX10_bearing 29 = .ok (.aload_n 0, 1) := by decide +kernel
theorem dX10_bearing_30 : decode cX10_bearing 30 = .ok (.getfield 7, 3) := by decide +kernel
theorem dX10_bearing_33 : decode cX10_bearing 33 = .ok (.iload 4, 2) := by decide +kernel
theorem dX10_bearing_35 : decode cX10_bearing 35 = .ok (.iaload, 1) := by decide +kernel
theorem dX10_bearing_36 : decode cX10_bearing 36 = .ok (.bipush 6, 2) := by decide +kernel
theorem dX10_bearing_38 : decode cX10_bearing 38 = .ok (.if_icmp .eq 25, 3) := by decide +kernel
theorem dX10_bearing_41 : decode cX10_bearing 41 = .ok (.aload_n 0, 1) := by decide +kernel
theorem dX10_bearing_42 : decode cX10_bearing 42 = .ok (.iload 4, 2) := by decide +kernel
theorem dX10_bearing_44 : decode cX10_bearing 44 = .ok (.invokevirtual 143, 3) := by decide +kernel
theorem dX10_bearing_47 : decode cX10_bearing 47 = .ok (.ifCond .eq 20, 3) := by decide +kernel
theorem dX10_bearing_50 : decode cX10_bearing 50 = .ok (.aload_n 0, 1) := by decide +kernel
theorem dX10_bearing_51 : decode cX10_bearing 51 = .ok (.getfield 16, 3) := by decide +kernel
theorem dX10_bearing_54 : decode cX10_bearing 54 = .ok (.iload 4, 2) := by decide +kernel
theorem dX10_bearing_56 : decode cX10_bearing 56 = .ok (.iaload, 1) := by decide +kernel
theorem dX10_bearing_57 : decode cX10_bearing 57 = .ok (.invokestatic 134, 3) := by decide +kernel
theorem dX10_bearing_60 : decode cX10_bearing 60 = .ok (.ifCond .eq 7, 3) := by decide +kernel
theorem dX10_bearing_63 : decode cX10_bearing 63 = .ok (.iconst 1, 1) := by decide +kernel
theorem dX10_bearing_64 : decode cX10_bearing 64 = .ok (.goto 4, 3) := by decide +kernel
theorem dX10_bearing_67 : decode cX10_bearing 67 = .ok (.iconst 0, 1) := by decide +kernel
theorem dX10_bearing_68 : decode cX10_bearing 68 = .ok (.istore 5, 2) := by decide +kernel
theorem dX10_bearing_70 : decode cX10_bearing 70 = .ok (.iload_n 2, 1) := by decide +kernel
theorem dX10_bearing_71 : decode cX10_bearing 71 = .ok (.iload 5, 2) := by decide +kernel
theorem dX10_bearing_73 : decode cX10_bearing 73 = .ok (.ifCond .eq 44, 3) := by decide +kernel
theorem dX10_bearing_76 : decode cX10_bearing 76 = .ok (.aload_n 0, 1) := by decide +kernel
theorem dX10_bearing_77 : decode cX10_bearing 77 = .ok (.getfield 146, 3) := by decide +kernel
theorem dX10_bearing_80 : decode cX10_bearing 80 = .ok (.iload 4, 2) := by decide +kernel
theorem dX10_bearing_82 : decode cX10_bearing 82 = .ok (.invokestatic 89, 3) := by decide +kernel
theorem dX10_bearing_85 : decode cX10_bearing 85 = .ok (.ifCond .eq 32, 3) := by decide +kernel
theorem dX10_bearing_88 : decode cX10_bearing 88 = .ok (.iload_n 2, 1) := by decide +kernel
theorem dX10_bearing_89 : decode cX10_bearing 89 = .ok (.aload_n 0, 1) := by decide +kernel
theorem dX10_bearing_90 : decode cX10_bearing 90 = .ok (.getfield 16, 3) := by decide +kernel
theorem dX10_bearing_93 : decode cX10_bearing 93 = .ok (.iload 4, 2) := by decide +kernel
theorem dX10_bearing_95 : decode cX10_bearing 95 = .ok (.iaload, 1) := by decide +kernel
theorem dX10_bearing_96 : decode cX10_bearing 96 = .ok (.invokestatic 128, 3) := by decide +kernel
theorem dX10_bearing_99 : decode cX10_bearing 99 = .ok (.invokestatic 89, 3) := by decide +kernel
theorem dX10_bearing_102 : decode cX10_bearing 102 = .ok (.ifCond .eq 15, 3) := by decide +kernel
theorem dX10_bearing_105 : decode cX10_bearing 105 = .ok (.iconst 1, 1) := by decide +kernel
theorem dX10_bearing_106 : decode cX10_bearing 106 = .ok (.aload_n 0, 1) := by decide +kernel
theorem dX10_bearing_107 : decode cX10_bearing 107 = .ok (.getfield 13, 3) := by decide +kernel
theorem dX10_bearing_110 : decode cX10_bearing 110 = .ok (.iload 4, 2) := by decide +kernel
theorem dX10_bearing_112 : decode cX10_bearing 112 = .ok (.iaload, 1) := by decide +kernel
theorem dX10_bearing_113 : decode cX10_bearing 113 = .ok (.ishl, 1) := by decide +kernel
theorem dX10_bearing_114 : decode cX10_bearing 114 = .ok (.goto 4, 3) := by decide +kernel
theorem dX10_bearing_117 : decode cX10_bearing 117 = .ok (.iconst 0, 1) := by decide +kernel
theorem dX10_bearing_118 : decode cX10_bearing 118 = .ok (.ior, 1) := by decide +kernel
theorem dX10_bearing_119 : decode cX10_bearing 119 = .ok (.istore_n 2, 1) := by decide +kernel
theorem dX10_bearing_120 : decode cX10_bearing 120 = .ok (.iinc 4 1, 3) := by decide +kernel
theorem dX10_bearing_123 : decode cX10_bearing 123 = .ok (.goto (-103), 3) := by decide +kernel
theorem dX10_bearing_126 : decode cX10_bearing 126 = .ok (.iinc 3 1, 3) := by decide +kernel
theorem dX10_bearing_129 : decode cX10_bearing 129 = .ok (.goto (-118), 3) := by decide +kernel
theorem dX10_bearing_132 : decode cX10_bearing 132 = .ok (.iload_n 2, 1) := by decide +kernel
theorem dX10_bearing_133 : decode cX10_bearing 133 = .ok (.ireturn, 1) := by decide +kernel
def f_X10_bearing_L20 (s0 : sh_S) (v6 : Int32) (v7 : Int32) : Option ((Int32 × Int32) ⊕ (Int32)) := (if (s0 0 0) ≤ v7 then some (.inr v6) else gu (inb v7 24) (ob (if (s0 1 (ix v7)) = (6 : Int32) then some (1 : Int32) else ob (f_X10_lends v7 s0) (fun v11 => (if v11 = 0 then some (0 : Int32) else gu (inb v7 24) (ob (f_X10_through (s0 3 (ix v7))) (fun v13 => (if v13 = 0 then some (0 : Int32) else some (1 : Int32))))))) (fun v10 => ob (if v10 = 0 then some (0 : Int32) else ob (f_X10_isIn (s0 0 5) v7) (fun v15 => (if v15 = 0 then some (0 : Int32) else gu (inb v7 24) (ob (f_X10_variable (s0 3 (ix v7))) (fun v17 => ob (f_X10_isIn v6 v17) (fun v18 => (if v18 = 0 then some (0 : Int32) else gu (inb v7 24) (some ((1 : Int32) <<< ((s0 2 (ix v7)) &&& 31)))))))))) (fun v14 => lb ((v6 ||| v14)) (fun v20 => lb (v7 + (1 : Int32)) (fun v21 => some (.inl (v20, v21))))))))
def f_X10_bearing_L11 (s0 : sh_S) (v3 : Int32) (v4 : Int32) : Option ((Int32 × Int32) ⊕ (Int32)) := (if (8 : Int32) ≤ v4 then some (.inr v3) else ob (lp (fun q => f_X10_bearing_L20 s0 q.1 q.2) FU (v3, (0 : Int32))) (fun v8 => lb (v4 + (1 : Int32)) (fun v22 => some (.inl (v8, v22)))))
def f_X10_bearing (p1 : Int32) (s0 : sh_S) : Option (Int32) := gu (inb p1 24) (lb (((1 : Int32) <<< ((s0 2 (ix p1)) &&& 31))) (fun v2 => ob (lp (fun q => f_X10_bearing_L11 s0 q.1 q.2) FU (v2, (0 : Int32))) (fun v5 => some v5)))
set_option maxRecDepth 100000 in
set_option maxHeartbeats 4000000 in
theorem c_X10_bearing (p1 : Int32) (s0 : sh_S) (r : Int32) (hf : f_X10_bearing p1 s0 = some r) : Ctr yX10_bearing cX10_bearing 6 (some .int) ({ frames := 2, cells := 0, slots := 0, locals := 43 } : Room) shM [.ref 0, .int p1] s0 (some (.int r)) s0 := by
  refine Ctr.mk (ri := .ireturn) (by decide) (Nat.le_of_ble_eq_true rfl) (Rt_i r) ?_
  intro G h hL hR hret
  refine k_drop (lv' := [(0, .ref 0), (1, .int p1)]) [0, 1] rfl ?_
  unfold f_X10_bearing at hf
  refine k_iconst (pc := 0) h dX10_bearing_0 kc_iconst_1 ?_
  refine k_aload_n (pc := 1) h dX10_bearing_1 rfl 0 rfl ?_
  refine k_getR (pc := 2) h fl_RX10_13 rfl rfl dX10_bearing_2 ?_
  refine k_iload_n (pc := 5) h dX10_bearing_5 rfl 1 rfl ?_
  obtain ⟨g1, hf⟩ := gu_s hf
  refine k_iald (pc := 6) (n := 24) h rfl g1 dX10_bearing_6 ?_
  refine k_ishl (pc := 7) h dX10_bearing_7 ?_
  obtain ⟨v2, ev2, hf⟩ := lb_s hf
  refine k_top ev2 ?_
  refine k_istore_n (pc := 8) h dX10_bearing_8 rfl (nk hL (by decide)) (lv' := [(0, .ref 0), (1, .int p1), (2, .int v2)]) rfl ?_
  refine k_iconst (pc := 9) h dX10_bearing_9 kc_iconst_0 ?_
  refine k_istore_n (pc := 10) h dX10_bearing_10 rfl (nk hL (by decide)) (lv' := [(0, .ref 0), (1, .int p1), (2, .int v2), (3, .int (0 : Int32))]) rfl ?_
  obtain ⟨v5, hl, hf⟩ := ob_s hf
  refine k_drop (lv' := [(0, .ref 0), (2, .int v2), (3, .int (0 : Int32))]) [0, 2, 3] rfl ?_
  refine lp_s (P := (fun q : Int32 × Int32 => sh_K G shM 11 [(0, .ref 0), (2, .int q.1), (3, .int q.2)] [] s0)) (Q := (fun q : Int32 => sh_K G shM 132 [(2, .int q)] [] s0)) (s := (v2, (0 : Int32))) ?_ hl ?_
  · clear hf hl
    intro q rr hf kc11
    obtain ⟨v3, v4⟩ := q
    have hf : f_X10_bearing_L11 s0 v3 v4 = some rr := hf
    unfold f_X10_bearing_L11 at hf
    refine k_iload_n (pc := 11) h dX10_bearing_11 rfl 2 rfl ?_
    refine k_bipush (pc := 12) h dX10_bearing_12 kc_bipush_8 ?_
    refine k_icmp_ge (pc := 14) (tgt := 132) h dX10_bearing_14 rfl (fun hc => ?_) (fun hc => ?_)
    · have hf := it_p hc hf
      obtain rfl := so1 hf
      exact k_drop [1] rfl kc11
    · have hf := it_n hc hf
      refine k_iconst (pc := 17) h dX10_bearing_17 kc_iconst_0 ?_
      refine k_istore (pc := 18) h dX10_bearing_18 (nk hL (by decide)) (lv' := [(0, .ref 0), (2, .int v3), (3, .int v4), (4, .int (0 : Int32))]) rfl ?_
      obtain ⟨v8, hl, hf⟩ := ob_s hf
      refine k_drop (lv' := [(0, .ref 0), (2, .int v3), (3, .int v4), (4, .int (0 : Int32))]) [0, 1, 2, 3] rfl ?_
      refine lp_s (P := (fun q : Int32 × Int32 => sh_K G shM 20 [(0, .ref 0), (2, .int q.1), (3, .int v4), (4, .int q.2)] [] s0)) (Q := (fun q : Int32 => sh_K G shM 126 [(0, .ref 0), (2, .int q), (3, .int v4)] [] s0)) (s := (v3, (0 : Int32))) ?_ hl ?_
      · clear hf hl
        intro q rr hf kc20
        obtain ⟨v6, v7⟩ := q
        have hf : f_X10_bearing_L20 s0 v6 v7 = some rr := hf
        unfold f_X10_bearing_L20 at hf
        refine k_iload (pc := 20) h dX10_bearing_20 3 rfl ?_
        refine k_aload_n (pc := 22) h dX10_bearing_22 rfl 0 rfl ?_
        refine k_getI (pc := 23) h fl_RX10_101 rfl rfl dX10_bearing_23 ?_
        refine k_icmp_ge (pc := 26) (tgt := 126) h dX10_bearing_26 rfl (fun hc => ?_) (fun hc => ?_)
        · have hf := it_p hc hf
          obtain rfl := so1 hf
          exact k_drop [0, 1, 2] rfl kc20
        · have hf := it_n hc hf
          refine k_aload_n (pc := 29) h dX10_bearing_29 rfl 0 rfl ?_
          refine k_getR (pc := 30) h fl_RX10_7 rfl rfl dX10_bearing_30 ?_
          refine k_iload (pc := 33) h dX10_bearing_33 3 rfl ?_
          obtain ⟨g9, hf⟩ := gu_s hf
          refine k_iald (pc := 35) (n := 24) h rfl g9 dX10_bearing_35 ?_
          refine k_bipush (pc := 36) h dX10_bearing_36 kc_bipush_6 ?_
          obtain ⟨v10, hj, hf⟩ := ob_s hf
          have kj38 : sh_K G shM 68 [(0, .ref 0), (2, .int v6), (3, .int v4), (4, .int v7)] [.int v10] s0 := by
            refine k_istore (pc := 68) h dX10_bearing_68 (nk hL (by decide)) (lv' := [(0, .ref 0), (2, .int v6), (3, .int v4), (4, .int v7), (5, .int v10)]) rfl ?_
            refine k_iload_n (pc := 70) h dX10_bearing_70 rfl 1 rfl ?_
            refine k_iload (pc := 71) h dX10_bearing_71 4 rfl ?_
            obtain ⟨v14, hj, hf⟩ := ob_s hf
            have kj73 : sh_K G shM 118 [(0, .ref 0), (3, .int v4), (4, .int v7)] [.int v14, .int v6] s0 := by
              refine k_ior (pc := 118) h dX10_bearing_118 ?_
              obtain ⟨v20, ev20, hf⟩ := lb_s hf
              refine k_top ev20 ?_
              refine k_istore_n (pc := 119) h dX10_bearing_119 rfl (nk hL (by decide)) (lv' := [(0, .ref 0), (2, .int v20), (3, .int v4), (4, .int v7)]) rfl ?_
              obtain ⟨v21, ev21, hf⟩ := lb_s hf
              refine k_iinc (pc := 120) h dX10_bearing_120 3 rfl ((congrArg (_ + ·) kc_iconst_1).trans ev21.symm) (nk hL (by decide)) (lv' := [(0, .ref 0), (2, .int v20), (3, .int v4), (4, .int v21)]) rfl ?_
              refine k_goto (pc := 123) (tgt := 20) h dX10_bearing_123 rfl ?_
              obtain rfl := so1 hf
              exact k_drop [0, 1, 2, 3] rfl kc20
            clear hf
            have hf := hj
            clear hj
            refine k_if_eq (pc := 73) (tgt := 117) h dX10_bearing_73 rfl (fun hc => ?_) (fun hc => ?_)
            · have hf := it_p hc hf
              refine k_iconst (pc := 117) h dX10_bearing_117 kc_iconst_0 ?_
              obtain rfl := so1 hf
              exact k_drop [0, 2, 3] rfl kj73
            · have hf := it_n hc hf
              refine k_aload_n (pc := 76) h dX10_bearing_76 rfl 0 rfl ?_
              refine k_getI (pc := 77) h fl_RX10_146 rfl rfl dX10_bearing_77 ?_
              refine k_iload (pc := 80) h dX10_bearing_80 3 rfl ?_
              obtain ⟨v15, cv15, hf⟩ := ob_s hf
              refine k_callSp (pc := 82) h cs_RX10_89 (c_X10_isIn (s0 0 5) v7 _ v15 cv15) rfl rfl (st1 := [.int v15, .int v6]) rfl ⟨rfl, rfl⟩ (rk hR (Nat.le_of_ble_eq_true rfl) (Nat.le_of_ble_eq_true rfl)) (Nat.le_of_ble_eq_true rfl) dX10_bearing_82 ?_
              refine k_if_eq (pc := 85) (tgt := 117) h dX10_bearing_85 rfl (fun hc => ?_) (fun hc => ?_)
              · have hf := it_p hc hf
                refine k_iconst (pc := 117) h dX10_bearing_117 kc_iconst_0 ?_
                obtain rfl := so1 hf
                exact k_drop [0, 2, 3] rfl kj73
              · have hf := it_n hc hf
                refine k_iload_n (pc := 88) h dX10_bearing_88 rfl 1 rfl ?_
                refine k_aload_n (pc := 89) h dX10_bearing_89 rfl 0 rfl ?_
                refine k_getR (pc := 90) h fl_RX10_16 rfl rfl dX10_bearing_90 ?_
                refine k_iload (pc := 93) h dX10_bearing_93 3 rfl ?_
                obtain ⟨g16, hf⟩ := gu_s hf
                refine k_iald (pc := 95) (n := 24) h rfl g16 dX10_bearing_95 ?_
                obtain ⟨v17, cv17, hf⟩ := ob_s hf
                refine k_callSp (pc := 96) h cs_RX10_128 (c_X10_variable (s0 3 (ix v7)) _ v17 cv17) rfl rfl (st1 := [.int v17, .int v6, .int v6]) rfl ⟨rfl, rfl⟩ (rk hR (Nat.le_of_ble_eq_true rfl) (Nat.le_of_ble_eq_true rfl)) (Nat.le_of_ble_eq_true rfl) dX10_bearing_96 ?_
                obtain ⟨v18, cv18, hf⟩ := ob_s hf
                refine k_callSp (pc := 99) h cs_RX10_89 (c_X10_isIn v6 v17 _ v18 cv18) rfl rfl (st1 := [.int v18, .int v6]) rfl ⟨rfl, rfl⟩ (rk hR (Nat.le_of_ble_eq_true rfl) (Nat.le_of_ble_eq_true rfl)) (Nat.le_of_ble_eq_true rfl) dX10_bearing_99 ?_
                refine k_if_eq (pc := 102) (tgt := 117) h dX10_bearing_102 rfl (fun hc => ?_) (fun hc => ?_)
                · have hf := it_p hc hf
                  refine k_iconst (pc := 117) h dX10_bearing_117 kc_iconst_0 ?_
                  obtain rfl := so1 hf
                  exact k_drop [0, 2, 3] rfl kj73
                · have hf := it_n hc hf
                  refine k_iconst (pc := 105) h dX10_bearing_105 kc_iconst_1 ?_
                  refine k_aload_n (pc := 106) h dX10_bearing_106 rfl 0 rfl ?_
                  refine k_getR (pc := 107) h fl_RX10_13 rfl rfl dX10_bearing_107 ?_
                  refine k_iload (pc := 110) h dX10_bearing_110 3 rfl ?_
                  obtain ⟨g19, hf⟩ := gu_s hf
                  refine k_iald (pc := 112) (n := 24) h rfl g19 dX10_bearing_112 ?_
                  refine k_ishl (pc := 113) h dX10_bearing_113 ?_
                  refine k_goto (pc := 114) (tgt := 118) h dX10_bearing_114 rfl ?_
                  obtain rfl := so1 hf
                  exact k_drop [0, 2, 3] rfl kj73
          clear hf
          have hf := hj
          clear hj
          refine k_icmp_eq (pc := 38) (tgt := 63) h dX10_bearing_38 rfl (fun hc => ?_) (fun hc => ?_)
          · have hf := it_p hc hf
            refine k_iconst (pc := 63) h dX10_bearing_63 kc_iconst_1 ?_
            refine k_goto (pc := 64) (tgt := 68) h dX10_bearing_64 rfl ?_
            obtain rfl := so1 hf
            exact k_drop [0, 1, 2, 3] rfl kj38
          · have hf := it_n hc hf
            refine k_aload_n (pc := 41) h dX10_bearing_41 rfl 0 rfl ?_
            refine k_iload (pc := 42) h dX10_bearing_42 3 rfl ?_
            obtain ⟨v11, cv11, hf⟩ := ob_s hf
            refine k_callV0 (pc := 44) h cv_RX10_143 (c_X10_lends v7 s0 v11 cv11) rfl rfl rfl (st1 := [.int v11]) rfl ⟨rfl, rfl⟩ (rk hR (Nat.le_of_ble_eq_true rfl) (Nat.le_of_ble_eq_true rfl)) (Nat.le_of_ble_eq_true rfl) dX10_bearing_44 ?_
            refine k_if_eq (pc := 47) (tgt := 67) h dX10_bearing_47 rfl (fun hc => ?_) (fun hc => ?_)
            · have hf := it_p hc hf
              refine k_iconst (pc := 67) h dX10_bearing_67 kc_iconst_0 ?_
              obtain rfl := so1 hf
              exact k_drop [0, 1, 2, 3] rfl kj38
            · have hf := it_n hc hf
              refine k_aload_n (pc := 50) h dX10_bearing_50 rfl 0 rfl ?_
              refine k_getR (pc := 51) h fl_RX10_16 rfl rfl dX10_bearing_51 ?_
              refine k_iload (pc := 54) h dX10_bearing_54 3 rfl ?_
              obtain ⟨g12, hf⟩ := gu_s hf
              refine k_iald (pc := 56) (n := 24) h rfl g12 dX10_bearing_56 ?_
              obtain ⟨v13, cv13, hf⟩ := ob_s hf
              refine k_callSp (pc := 57) h cs_RX10_134 (c_X10_through (s0 3 (ix v7)) _ v13 cv13) rfl rfl (st1 := [.int v13]) rfl ⟨rfl, rfl⟩ (rk hR (Nat.le_of_ble_eq_true rfl) (Nat.le_of_ble_eq_true rfl)) (Nat.le_of_ble_eq_true rfl) dX10_bearing_57 ?_
              refine k_if_eq (pc := 60) (tgt := 67) h dX10_bearing_60 rfl (fun hc => ?_) (fun hc => ?_)
              · have hf := it_p hc hf
                refine k_iconst (pc := 67) h dX10_bearing_67 kc_iconst_0 ?_
                obtain rfl := so1 hf
                exact k_drop [0, 1, 2, 3] rfl kj38
              · have hf := it_n hc hf
                refine k_iconst (pc := 63) h dX10_bearing_63 kc_iconst_1 ?_
                refine k_goto (pc := 64) (tgt := 68) h dX10_bearing_64 rfl ?_
                obtain rfl := so1 hf
                exact k_drop [0, 1, 2, 3] rfl kj38
      · obtain ⟨v22, ev22, hf⟩ := lb_s hf
        refine k_iinc (pc := 126) h dX10_bearing_126 2 rfl ((congrArg (_ + ·) kc_iconst_1).trans ev22.symm) (nk hL (by decide)) (lv' := [(0, .ref 0), (2, .int v8), (3, .int v22)]) rfl ?_
        refine k_goto (pc := 129) (tgt := 11) h dX10_bearing_129 rfl ?_
        obtain rfl := so1 hf
        exact k_drop [0, 1, 2] rfl kc11
  · refine k_iload_n (pc := 132) h dX10_bearing_132 rfl 0 rfl ?_
    obtain rfl := so1 hf
    exact hret 133 _ dX10_bearing_133 trivial
theorem dX10_bearsOf_0 : decode cX10_bearsOf 0 = .ok (.aload_n 0, 1) := by decide +kernel
theorem dX10_bearsOf_1 : decode cX10_bearsOf 1 = .ok (.invokevirtual 193, 3) := by decide +kernel
theorem dX10_bearsOf_4 : decode cX10_bearsOf 4 = .ok (.aload_n 0, 1) := by decide +kernel
theorem dX10_bearsOf_5 : decode cX10_bearsOf 5 = .ok (.getfield 149, 3) := by decide +kernel
theorem dX10_bearsOf_8 : decode cX10_bearsOf 8 = .ok (.iload_n 1, 1) := by decide +kernel
theorem dX10_bearsOf_9 : decode cX10_bearsOf 9 = .ok (.invokestatic 89, 3) := by decide +kernel
theorem dX10_bearsOf_12 : decode cX10_bearsOf 12 = .ok (.ifCond .eq 11, 3) := by decide +kernel
theorem dX10_bearsOf_15 : decode cX10_bearsOf 15 = .ok (.aload_n 0, 1) := by decide +kernel
theorem dX10_bearsOf_16 : decode cX10_bearsOf 16 = .ok (.iload_n 1, 1) := by decide +kernel
theorem dX10_bearsOf_17 : decode cX10_bearsOf 17 = .ok (.invokevirtual 218, 3) := by decide +kernel
theorem dX10_bearsOf_20 : decode cX10_bearsOf 20 = .ok (.goto 5, 3) := by decide +kernel
theorem dX10_bearsOf_23 : decode cX10_bearsOf 23 = .ok (.bipush (-3), 2) := by decide +kernel
theorem dX10_bearsOf_25 : decode cX10_bearsOf 25 = .ok (.ireturn, 1) := by decide +kernel
def f_X10_bearsOf (p1 : Int32) (s0 : sh_S) : Option (Int32 × sh_S) := ob (f_X10_findsAll  s0) (fun s1 => ob (f_X10_isIn (s1 0 6) p1) (fun v2 => ob (if v2 = 0 then some (-3 : Int32) else ob (f_X10_bearing p1 s1) (fun v4 => some v4)) (fun v3 => some (v3, s1))))
set_option maxRecDepth 100000 in
set_option maxHeartbeats 4000000 in
theorem c_X10_bearsOf (p1 : Int32) (s0 : sh_S) (r : Int32) (s9x : sh_S) (hf : f_X10_bearsOf p1 s0 = some (r, s9x)) : Ctr yX10_bearsOf cX10_bearsOf 2 (some .int) ({ frames := 7, cells := 0, slots := 0, locals := 157 } : Room) shM [.ref 0, .int p1] s0 (some (.int r)) s9x := by
  refine Ctr.mk (ri := .ireturn) (by decide) (Nat.le_of_ble_eq_true rfl) (Rt_i r) ?_
  intro G h hL hR hret
  refine k_drop (lv' := [(0, .ref 0), (1, .int p1)]) [0, 1] rfl ?_
  unfold f_X10_bearsOf at hf
  refine k_aload_n (pc := 0) h dX10_bearsOf_0 rfl 0 rfl ?_
  obtain ⟨s1, cs1, hf⟩ := ob_s hf
  refine k_callV0 (pc := 1) h cv_RX10_193 (c_X10_findsAll  s0 s1 cs1) rfl rfl rfl (st1 := []) rfl ⟨rfl, rfl⟩ (rk hR (Nat.le_of_ble_eq_true rfl) (Nat.le_of_ble_eq_true rfl)) (Nat.le_of_ble_eq_true rfl) dX10_bearsOf_1 ?_
  refine k_aload_n (pc := 4) h dX10_bearsOf_4 rfl 0 rfl ?_
  refine k_getI (pc := 5) h fl_RX10_149 rfl rfl dX10_bearsOf_5 ?_
  refine k_iload_n (pc := 8) h dX10_bearsOf_8 rfl 1 rfl ?_
  obtain ⟨v2, cv2, hf⟩ := ob_s hf
  refine k_callSp (pc := 9) h cs_RX10_89 (c_X10_isIn (s1 0 6) p1 _ v2 cv2) rfl rfl (st1 := [.int v2]) rfl ⟨rfl, rfl⟩ (rk hR (Nat.le_of_ble_eq_true rfl) (Nat.le_of_ble_eq_true rfl)) (Nat.le_of_ble_eq_true rfl) dX10_bearsOf_9 ?_
  obtain ⟨v3, hj, hf⟩ := ob_s hf
  have kj12 : sh_K G shM 25 [] [.int v3] s1 := by
    obtain ⟨rfl, rfl⟩ := so2 hf
    exact hret 25 _ dX10_bearsOf_25 trivial
  clear hf
  have hf := hj
  clear hj
  refine k_if_eq (pc := 12) (tgt := 23) h dX10_bearsOf_12 rfl (fun hc => ?_) (fun hc => ?_)
  · have hf := it_p hc hf
    refine k_bipush (pc := 23) h dX10_bearsOf_23 kc_bipush_m3 ?_
    obtain rfl := so1 hf
    exact k_drop [] rfl kj12
  · have hf := it_n hc hf
    refine k_aload_n (pc := 15) h dX10_bearsOf_15 rfl 0 rfl ?_
    refine k_iload_n (pc := 16) h dX10_bearsOf_16 rfl 1 rfl ?_
    obtain ⟨v4, cv4, hf⟩ := ob_s hf
    refine k_callV0 (pc := 17) h cv_RX10_218 (c_X10_bearing p1 s1 v4 cv4) rfl rfl rfl (st1 := [.int v4]) rfl ⟨rfl, rfl⟩ (rk hR (Nat.le_of_ble_eq_true rfl) (Nat.le_of_ble_eq_true rfl)) (Nat.le_of_ble_eq_true rfl) dX10_bearsOf_17 ?_
    refine k_goto (pc := 20) (tgt := 25) h dX10_bearsOf_20 rfl ?_
    obtain rfl := so1 hf
    exact k_drop [] rfl kj12
theorem dX10_bears_0 : decode cX10_bears 0 = .ok (.aload_n 0, 1) := by decide +kernel
theorem dX10_bears_1 : decode cX10_bears 1 = .ok (.iload_n 1, 1) := by decide +kernel
theorem dX10_bears_2 : decode cX10_bears 2 = .ok (.invokevirtual 109, 3) := by decide +kernel
theorem dX10_bears_5 : decode cX10_bears 5 = .ok (.ifCond .eq 11, 3) := by decide +kernel
theorem dX10_bears_8 : decode cX10_bears 8 = .ok (.aload_n 0, 1) := by decide +kernel
theorem dX10_bears_9 : decode cX10_bears 9 = .ok (.iload_n 1, 1) := by decide +kernel
theorem dX10_bears_10 : decode cX10_bears 10 = .ok (.invokevirtual 221, 3) := by decide +kernel
theorem dX10_bears_13 : decode cX10_bears 13 = .ok (.goto 5, 3) := by decide +kernel
theorem dX10_bears_16 : decode cX10_bears 16 = .ok (.bipush (-2), 2) := by decide +kernel
theorem dX10_bears_18 : decode cX10_bears 18 = .ok (.ireturn, 1) := by decide +kernel
def f_X10_bears (p1 : Int32) (s0 : sh_S) : Option (Int32 × sh_S) := ob (f_X10_isPoint p1 s0) (fun v1 => ob2 (if v1 = 0 then some ((-2 : Int32), s0) else ob2 (f_X10_bearsOf p1 s0) (fun v4 s5 => some (v4, s5))) (fun v2 s3 => some (v2, s3)))
set_option maxRecDepth 100000 in
set_option maxHeartbeats 4000000 in
theorem c_X10_bears (p1 : Int32) (s0 : sh_S) (r : Int32) (s9x : sh_S) (hf : f_X10_bears p1 s0 = some (r, s9x)) : Ctr yX10_bears cX10_bears 2 (some .int) ({ frames := 8, cells := 0, slots := 0, locals := 178 } : Room) shM [.ref 0, .int p1] s0 (some (.int r)) s9x := by
  refine Ctr.mk (ri := .ireturn) (by decide) (Nat.le_of_ble_eq_true rfl) (Rt_i r) ?_
  intro G h hL hR hret
  refine k_drop (lv' := [(0, .ref 0), (1, .int p1)]) [0, 1] rfl ?_
  unfold f_X10_bears at hf
  refine k_aload_n (pc := 0) h dX10_bears_0 rfl 0 rfl ?_
  refine k_iload_n (pc := 1) h dX10_bears_1 rfl 1 rfl ?_
  obtain ⟨v1, cv1, hf⟩ := ob_s hf
  refine k_callV0 (pc := 2) h cv_RX10_109 (c_X10_isPoint p1 s0 v1 cv1) rfl rfl rfl (st1 := [.int v1]) rfl ⟨rfl, rfl⟩ (rk hR (Nat.le_of_ble_eq_true rfl) (Nat.le_of_ble_eq_true rfl)) (Nat.le_of_ble_eq_true rfl) dX10_bears_2 ?_
  obtain ⟨v2, s3, hj, hf⟩ := ob2_s hf
  have kj5 : sh_K G shM 18 [] [.int v2] s3 := by
    obtain ⟨rfl, rfl⟩ := so2 hf
    exact hret 18 _ dX10_bears_18 trivial
  clear hf
  have hf := hj
  clear hj
  refine k_if_eq (pc := 5) (tgt := 16) h dX10_bears_5 rfl (fun hc => ?_) (fun hc => ?_)
  · have hf := it_p hc hf
    refine k_bipush (pc := 16) h dX10_bears_16 kc_bipush_m2 ?_
    obtain ⟨rfl, rfl⟩ := so2 hf
    exact k_drop [] rfl kj5
  · have hf := it_n hc hf
    refine k_aload_n (pc := 8) h dX10_bears_8 rfl 0 rfl ?_
    refine k_iload_n (pc := 9) h dX10_bears_9 rfl 1 rfl ?_
    obtain ⟨v4, s5, cv4, hf⟩ := ob2_s hf
    refine k_callV0 (pc := 10) h cv_RX10_221 (c_X10_bearsOf p1 s0 v4 s5 cv4) rfl rfl rfl (st1 := [.int v4]) rfl ⟨rfl, rfl⟩ (rk hR (Nat.le_of_ble_eq_true rfl) (Nat.le_of_ble_eq_true rfl)) (Nat.le_of_ble_eq_true rfl) dX10_bears_10 ?_
    refine k_goto (pc := 13) (tgt := 18) h dX10_bears_13 rfl ?_
    obtain ⟨rfl, rfl⟩ := so2 hf
    exact k_drop [] rfl kj5
