theorem dX10_findsWay_0 : decode cX10_findsWay 0 = .ok (.aload_n 0, 1) := by decide +kernel
theorem dX10_findsWay_1 : decode cX10_findsWay 1 = .ok (.getfield 25, 3) := by decide +kernel
theorem dX10_findsWay_4 : decode cX10_findsWay 4 = .ok (.aload_n 0, 1) := by decide +kernel
theorem dX10_findsWay_5 : decode cX10_findsWay 5 = .ok (.getfield 13, 3) := by decide +kernel
theorem dX10_findsWay_8 : decode cX10_findsWay 8 = .ok (.iload_n 1, 1) := by decide +kernel
theorem dX10_findsWay_9 : decode cX10_findsWay 9 = .ok (.iaload, 1) := by decide +kernel
theorem dX10_findsWay_10 : decode cX10_findsWay 10 = .ok (.iaload, 1) := by decide +kernel
theorem dX10_findsWay_11 : decode cX10_findsWay 11 = .ok (.istore_n 3, 1) := by decide +kernel
theorem dX10_findsWay_12 : decode cX10_findsWay 12 = .ok (.iconst 0, 1) := by decide +kernel
theorem dX10_findsWay_13 : decode cX10_findsWay 13 = .ok (.istore 4, 2) := by decide +kernel
theorem dX10_findsWay_15 : decode cX10_findsWay 15 = .ok (.iconst 0, 1) := by decide +kernel
theorem dX10_findsWay_16 : decode cX10_findsWay 16 = .ok (.istore 5, 2) := by decide +kernel
theorem dX10_findsWay_18 : decode cX10_findsWay 18 = .ok (.iload 5, 2) := by decide +kernel
theorem dX10_findsWay_20 : decode cX10_findsWay 20 = .ok (.aload_n 0, 1) := by decide +kernel
theorem dX10_findsWay_21 : decode cX10_findsWay 21 = .ok (.getfield 101, 3) := by decide +kernel
theorem dX10_findsWay_24 : decode cX10_findsWay 24 = .ok (.if_icmp .ge 41, 3) := by decide +kernel
theorem dX10_findsWay_27 : decode cX10_findsWay 27 = .ok (.iload 4, 2) := by decide +kernel
theorem dX10_findsWay_29 : decode cX10_findsWay 29 = .ok (.iload_n 3, 1) := by decide +kernel
theorem dX10_findsWay_30 : decode cX10_findsWay 30 = .ok (.iload 5, 2) := by decide +kernel
theorem dX10_findsWay_32 : decode cX10_findsWay 32 = .ok (.invokestatic 89, 3) := by decide +kernel
theorem dX10_findsWay_35 : decode cX10_findsWay 35 = .ok (.ifCond .eq 20, 3) := by decide +kernel
theorem dX10_findsWay_38 : decode cX10_findsWay 38 = .ok (.aload_n 0, 1) := by decide +kernel
theorem dX10_findsWay_39 : decode cX10_findsWay 39 = .ok (.iload 5, 2) := by decide +kernel
theorem dX10_findsWay_41 : decode cX10_findsWay 41 = .ok (.iload_n 1, 1) := by decide +kernel
theorem dX10_findsWay_42 : decode cX10_findsWay 42 = .ok (.invokevirtual 168, 3) := by decide +kernel
theorem dX10_findsWay_45 : decode cX10_findsWay 45 = .ok (.ifCond .ne 10, 3) := by decide +kernel
theorem dX10_findsWay_48 : decode cX10_findsWay 48 = .ok (.iconst 1, 1) := by decide +kernel
theorem dX10_findsWay_49 : decode cX10_findsWay 49 = .ok (.iload 5, 2) := by decide +kernel
theorem dX10_findsWay_51 : decode cX10_findsWay 51 = .ok (.ishl, 1) := by decide +kernel
theorem dX10_findsWay_52 : decode cX10_findsWay 52 = .ok (.goto 4, 3) := by decide +kernel
theorem dX10_findsWay_55 : decode cX10_findsWay 55 = .ok (.iconst 0, 1) := by decide +kernel
theorem dX10_findsWay_56 : decode cX10_findsWay 56 = .ok (.ior, 1) := by decide +kernel
theorem dX10_findsWay_57 : decode cX10_findsWay 57 = .ok (.istore 4, 2) := by decide +kernel
theorem dX10_findsWay_59 : decode cX10_findsWay 59 = .ok (.iinc 5 1, 3) := by decide +kernel
theorem dX10_findsWay_62 : decode cX10_findsWay 62 = .ok (.goto (-44), 3) := by decide +kernel
theorem dX10_findsWay_65 : decode cX10_findsWay 65 = .ok (.aload_n 0, 1) := by decide +kernel
theorem dX10_findsWay_66 : decode cX10_findsWay 66 = .ok (.iconst 0, 1) := by decide +kernel
theorem dX10_findsWay_67 : decode cX10_findsWay 67 = .ok (.putfield 258, 3) := by decide +kernel
theorem dX10_findsWay_70 : decode cX10_findsWay 70 = .ok (.aload_n 0, 1) := by decide +kernel
theorem dX10_findsWay_71 : decode cX10_findsWay 71 = .ok (.iload_n 1, 1) := by decide +kernel
theorem dX10_findsWay_72 : decode cX10_findsWay 72 = .ok (.invokevirtual 264, 3) := by decide +kernel
theorem dX10_findsWay_75 : decode cX10_findsWay 75 = .ok (.aload_n 0, 1) := by decide +kernel
theorem dX10_findsWay_76 : decode cX10_findsWay 76 = .ok (.iconst 1, 1) := by decide +kernel
theorem dX10_findsWay_77 : decode cX10_findsWay 77 = .ok (.iload_n 2, 1) := by decide +kernel
theorem dX10_findsWay_78 : decode cX10_findsWay 78 = .ok (.ishl, 1) := by decide +kernel
theorem dX10_findsWay_79 : decode cX10_findsWay 79 = .ok (.iload 4, 2) := by decide +kernel
theorem dX10_findsWay_81 : decode cX10_findsWay 81 = .ok (.invokevirtual 267, 3) := by decide +kernel
theorem dX10_findsWay_84 : decode cX10_findsWay 84 = .ok (.aload_n 0, 1) := by decide +kernel
theorem dX10_findsWay_85 : decode cX10_findsWay 85 = .ok (.iload_n 1, 1) := by decide +kernel
theorem dX10_findsWay_86 : decode cX10_findsWay 86 = .ok (.invokevirtual 271, 3) := by decide +kernel
theorem dX10_findsWay_89 : decode cX10_findsWay 89 = .ok (.aload_n 0, 1) := by decide +kernel
theorem dX10_findsWay_90 : decode cX10_findsWay 90 = .ok (.iload_n 1, 1) := by decide +kernel
theorem dX10_findsWay_91 : decode cX10_findsWay 91 = .ok (.invokevirtual 218, 3) := by decide +kernel
theorem dX10_findsWay_94 : decode cX10_findsWay 94 = .ok (.istore 5, 2) := by decide +kernel
theorem dX10_findsWay_96 : decode cX10_findsWay 96 = .ok (.iconst 0, 1) := by decide +kernel
theorem dX10_findsWay_97 : decode cX10_findsWay 97 = .ok (.istore 6, 2) := by decide +kernel
theorem dX10_findsWay_99 : decode cX10_findsWay 99 = .ok (.iconst 0, 1) := by decide +kernel
theorem dX10_findsWay_100 : decode cX10_findsWay 100 = .ok (.istore 7, 2) := by decide +kernel
theorem dX10_findsWay_102 : decode cX10_findsWay 102 = .ok (.iload 7, 2) := by decide +kernel
theorem dX10_findsWay_104 : decode cX10_findsWay 104 = .ok (.aload_n 0, 1) := by decide +kernel
theorem dX10_findsWay_105 : decode cX10_findsWay 105 = .ok (.getfield 101, 3) := by decide +kernel
theorem dX10_findsWay_108 : decode cX10_findsWay 108 = .ok (.if_icmp .ge 34, 3) := by decide +kernel
theorem dX10_findsWay_111 : decode cX10_findsWay 111 = .ok (.iload 6, 2) := by decide +kernel
theorem dX10_findsWay_113 : decode cX10_findsWay 113 = .ok (.aload_n 0, 1) := by decide +kernel
theorem dX10_findsWay_114 : decode cX10_findsWay 114 = .ok (.iload 7, 2) := by decide +kernel
theorem dX10_findsWay_116 : decode cX10_findsWay 116 = .ok (.invokevirtual 152, 3) := by decide +kernel
theorem dX10_findsWay_119 : decode cX10_findsWay 119 = .ok (.iload 5, 2) := by decide +kernel
theorem dX10_findsWay_121 : decode cX10_findsWay 121 = .ok (.iand, 1) := by decide +kernel
theorem dX10_findsWay_122 : decode cX10_findsWay 122 = .ok (.ifCond .eq 10, 3) := by decide +kernel
theorem dX10_findsWay_125 : decode cX10_findsWay 125 = .ok (.iconst 1, 1) := by decide +kernel
theorem dX10_findsWay_126 : decode cX10_findsWay 126 = .ok (.iload 7, 2) := by decide +kernel
theorem dX10_findsWay_128 : decode cX10_findsWay 128 = .ok (.ishl, 1) := by decide +kernel
theorem dX10_findsWay_129 : decode cX10_findsWay 129 = .ok (.goto 4, 3) := by decide +kernel
theorem dX10_findsWay_132 : decode cX10_findsWay 132 = .ok (.iconst 0, 1) := by decide +kernel
theorem dX10_findsWay_133 : decode cX10_findsWay 133 = .ok (.ior, 1) := by decide +kernel
theorem dX10_findsWay_134 : decode cX10_findsWay 134 = .ok (.istore 6, 2) := by decide +kernel
theorem dX10_findsWay_136 : decode cX10_findsWay 136 = .ok (.iinc 7 1, 3) := by decide +kernel
theorem dX10_findsWay_139 : decode cX10_findsWay 139 = .ok (.goto (-37), 3) := by decide +kernel
theorem dX10_findsWay_142 : decode cX10_findsWay 142 = .ok (.aload_n 0, 1) := by decide +kernel
theorem dX10_findsWay_143 : decode cX10_findsWay 143 = .ok (.iload 6, 2) := by decide +kernel
theorem dX10_findsWay_145 : decode cX10_findsWay 145 = .ok (.iconst 1, 1) := by decide +kernel
theorem dX10_findsWay_146 : decode cX10_findsWay 146 = .ok (.aload_n 0, 1) := by decide +kernel
theorem dX10_findsWay_147 : decode cX10_findsWay 147 = .ok (.getfield 101, 3) := by decide +kernel
theorem dX10_findsWay_150 : decode cX10_findsWay 150 = .ok (.ishl, 1) := by decide +kernel
theorem dX10_findsWay_151 : decode cX10_findsWay 151 = .ok (.iconst 1, 1) := by decide +kernel
theorem dX10_findsWay_152 : decode cX10_findsWay 152 = .ok (.isub, 1) := by decide +kernel
theorem dX10_findsWay_153 : decode cX10_findsWay 153 = .ok (.invokevirtual 267, 3) := by decide +kernel
theorem dX10_findsWay_156 : decode cX10_findsWay 156 = .ok (.aload_n 0, 1) := by decide +kernel
theorem dX10_findsWay_157 : decode cX10_findsWay 157 = .ok (.iload_n 2, 1) := by decide +kernel
theorem dX10_findsWay_158 : decode cX10_findsWay 158 = .ok (.invokevirtual 271, 3) := by decide +kernel
theorem dX10_findsWay_161 : decode cX10_findsWay 161 = .ok (.return_, 1) := by decide +kernel
def f_X10_findsWay_L18 (p1 : Int32) (s0 : sh_S) (v3 : Int32) (v4 : Int32) (v5 : Int32) : Option ((Int32 × Int32) ⊕ (Int32)) := (if (s0 0 0) ≤ v5 then some (.inr v4) else ob (f_X10_isIn v3 v5) (fun v7 => ob (if v7 = 0 then some (0 : Int32) else ob (f_X10_kills v5 p1 s0) (fun v9 => (if v9 = 0 then some ((1 : Int32) <<< (v5 &&& 31)) else some (0 : Int32)))) (fun v8 => lb ((v4 ||| v8)) (fun v10 => lb (v5 + (1 : Int32)) (fun v11 => some (.inl (v10, v11)))))))
def f_X10_findsWay_L102 (s15 : sh_S) (v16 : Int32) (v17 : Int32) (v18 : Int32) : Option ((Int32 × Int32) ⊕ (Int32)) := (if (s15 0 0) ≤ v18 then some (.inr v17) else ob (f_X10_readsOf v18 s15) (fun v20 => ob (if (v20 &&& v16) = 0 then some (0 : Int32) else some ((1 : Int32) <<< (v18 &&& 31))) (fun v21 => lb ((v17 ||| v21)) (fun v22 => lb (v18 + (1 : Int32)) (fun v23 => some (.inl (v22, v23)))))))
def f_X10_findsWay (p1 : Int32) (p2 : Int32) (s0 : sh_S) : Option (sh_S) := gu (inb p1 24) (gu (inb (s0 2 (ix p1)) 8) (lb ((s0 6 (ix (s0 2 (ix p1))))) (fun v3 => ob (lp (fun q => f_X10_findsWay_L18 p1 s0 v3 q.1 q.2) FU ((0 : Int32), (0 : Int32))) (fun v6 => lb (ur s0 0 (upd (s0 0) 17 (0 : Int32))) (fun s12 => ob (f_X10_goesTo p1 s12) (fun s13 => ob (f_X10_measures ((1 : Int32) <<< (p2 &&& 31)) v6 s13) (fun s14 => ob (f_X10_walks p1 s14) (fun s15 => ob (f_X10_bearing p1 s15) (fun v16 => ob (lp (fun q => f_X10_findsWay_L102 s15 v16 q.1 q.2) FU ((0 : Int32), (0 : Int32))) (fun v19 => ob (f_X10_measures v19 (((1 : Int32) <<< ((s15 0 0) &&& 31)) - (1 : Int32)) s15) (fun s24 => ob (f_X10_walks p2 s24) (fun s25 => some s25))))))))))))
set_option maxRecDepth 100000 in
set_option maxHeartbeats 4000000 in
theorem c_X10_findsWay (p1 : Int32) (p2 : Int32) (s0 : sh_S) (s9x : sh_S) (hf : f_X10_findsWay p1 p2 s0 = some s9x) : Ctr yX10_findsWay cX10_findsWay 8 none ({ frames := 6, cells := 0, slots := 0, locals := 137 } : Room) shM [.ref 0, .int p1, .int p2] s0 none s9x := by
  refine Ctr.mk (ri := .return_) (by decide) (Nat.le_of_ble_eq_true rfl) (Rt_v) ?_
  intro G h hL hR hret
  refine k_drop (lv' := [(0, .ref 0), (1, .int p1), (2, .int p2)]) [0, 1, 2] rfl ?_
  unfold f_X10_findsWay at hf
  refine k_aload_n (pc := 0) h dX10_findsWay_0 rfl 0 rfl ?_
  refine k_getR (pc := 1) h fl_RX10_25 rfl rfl dX10_findsWay_1 ?_
  refine k_aload_n (pc := 4) h dX10_findsWay_4 rfl 0 rfl ?_
  refine k_getR (pc := 5) h fl_RX10_13 rfl rfl dX10_findsWay_5 ?_
  refine k_iload_n (pc := 8) h dX10_findsWay_8 rfl 1 rfl ?_
  obtain ⟨g1, hf⟩ := gu_s hf
  refine k_iald (pc := 9) (n := 24) h rfl g1 dX10_findsWay_9 ?_
  obtain ⟨g2, hf⟩ := gu_s hf
  refine k_iald (pc := 10) (n := 8) h rfl g2 dX10_findsWay_10 ?_
  obtain ⟨v3, ev3, hf⟩ := lb_s hf
  refine k_top ev3 ?_
  refine k_istore_n (pc := 11) h dX10_findsWay_11 rfl (nk hL (by decide)) (lv' := [(0, .ref 0), (1, .int p1), (2, .int p2), (3, .int v3)]) rfl ?_
  refine k_iconst (pc := 12) h dX10_findsWay_12 kc_iconst_0 ?_
  refine k_istore (pc := 13) h dX10_findsWay_13 (nk hL (by decide)) (lv' := [(0, .ref 0), (1, .int p1), (2, .int p2), (3, .int v3), (4, .int (0 : Int32))]) rfl ?_
  refine k_iconst (pc := 15) h dX10_findsWay_15 kc_iconst_0 ?_
  refine k_istore (pc := 16) h dX10_findsWay_16 (nk hL (by decide)) (lv' := [(0, .ref 0), (1, .int p1), (2, .int p2), (3, .int v3), (4, .int (0 : Int32)), (5, .int (0 : Int32))]) rfl ?_
  obtain ⟨v6, hl, hf⟩ := ob_s hf
  refine k_drop (lv' := [(0, .ref 0), (1, .int p1), (2, .int p2), (3, .int v3), (4, .int (0 : Int32)), (5, .int (0 : Int32))]) [0, 1, 2, 3, 4, 5] rfl ?_
  refine lp_s (P := (fun q : Int32 × Int32 => sh_K G shM 18 [(0, .ref 0), (1, .int p1), (2, .int p2), (3, .int v3), (4, .int q.1), (5, .int q.2)] [] s0)) (Q := (fun q : Int32 => sh_K G shM 65 [(0, .ref 0), (1, .int p1), (2, .int p2), (4, .int q)] [] s0)) (s := ((0 : Int32), (0 : Int32))) ?_ hl ?_
  · clear hf hl
    intro q rr hf kc18
    obtain ⟨v4, v5⟩ := q
    have hf : f_X10_findsWay_L18 p1 s0 v3 v4 v5 = some rr := hf
    unfold f_X10_findsWay_L18 at hf
    refine k_iload (pc := 18) h dX10_findsWay_18 5 rfl ?_
    refine k_aload_n (pc := 20) h dX10_findsWay_20 rfl 0 rfl ?_
    refine k_getI (pc := 21) h fl_RX10_101 rfl rfl dX10_findsWay_21 ?_
    refine k_icmp_ge (pc := 24) (tgt := 65) h dX10_findsWay_24 rfl (fun hc => ?_) (fun hc => ?_)
    · have hf := it_p hc hf
      obtain rfl := so1 hf
      exact k_drop [0, 1, 2, 4] rfl kc18
    · have hf := it_n hc hf
      refine k_iload (pc := 27) h dX10_findsWay_27 4 rfl ?_
      refine k_iload_n (pc := 29) h dX10_findsWay_29 rfl 3 rfl ?_
      refine k_iload (pc := 30) h dX10_findsWay_30 5 rfl ?_
      obtain ⟨v7, cv7, hf⟩ := ob_s hf
      refine k_callSp (pc := 32) h cs_RX10_89 (c_X10_isIn v3 v5 _ v7 cv7) rfl rfl (st1 := [.int v7, .int v4]) rfl ⟨rfl, rfl⟩ (rk hR (Nat.le_of_ble_eq_true rfl) (Nat.le_of_ble_eq_true rfl)) (Nat.le_of_ble_eq_true rfl) dX10_findsWay_32 ?_
      obtain ⟨v8, hj, hf⟩ := ob_s hf
      have kj35 : sh_K G shM 56 [(0, .ref 0), (1, .int p1), (2, .int p2), (3, .int v3), (5, .int v5)] [.int v8, .int v4] s0 := by
        refine k_ior (pc := 56) h dX10_findsWay_56 ?_
        obtain ⟨v10, ev10, hf⟩ := lb_s hf
        refine k_top ev10 ?_
        refine k_istore (pc := 57) h dX10_findsWay_57 (nk hL (by decide)) (lv' := [(0, .ref 0), (1, .int p1), (2, .int p2), (3, .int v3), (4, .int v10), (5, .int v5)]) rfl ?_
        obtain ⟨v11, ev11, hf⟩ := lb_s hf
        refine k_iinc (pc := 59) h dX10_findsWay_59 5 rfl ((congrArg (_ + ·) kc_iconst_1).trans ev11.symm) (nk hL (by decide)) (lv' := [(0, .ref 0), (1, .int p1), (2, .int p2), (3, .int v3), (4, .int v10), (5, .int v11)]) rfl ?_
        refine k_goto (pc := 62) (tgt := 18) h dX10_findsWay_62 rfl ?_
        obtain rfl := so1 hf
        exact k_drop [0, 1, 2, 3, 4, 5] rfl kc18
      clear hf
      have hf := hj
      clear hj
      refine k_if_eq (pc := 35) (tgt := 55) h dX10_findsWay_35 rfl (fun hc => ?_) (fun hc => ?_)
      · have hf := it_p hc hf
        refine k_iconst (pc := 55) h dX10_findsWay_55 kc_iconst_0 ?_
        obtain rfl := so1 hf
        exact k_drop [0, 1, 2, 3, 5] rfl kj35
      · have hf := it_n hc hf
        refine k_aload_n (pc := 38) h dX10_findsWay_38 rfl 0 rfl ?_
        refine k_iload (pc := 39) h dX10_findsWay_39 5 rfl ?_
        refine k_iload_n (pc := 41) h dX10_findsWay_41 rfl 1 rfl ?_
        obtain ⟨v9, cv9, hf⟩ := ob_s hf
        refine k_callV0 (pc := 42) h cv_RX10_168 (c_X10_kills v5 p1 s0 v9 cv9) rfl rfl rfl (st1 := [.int v9, .int v4]) rfl ⟨rfl, rfl⟩ (rk hR (Nat.le_of_ble_eq_true rfl) (Nat.le_of_ble_eq_true rfl)) (Nat.le_of_ble_eq_true rfl) dX10_findsWay_42 ?_
        refine k_if_ne (pc := 45) (tgt := 55) h dX10_findsWay_45 rfl (fun hc => ?_) (fun hc => ?_)
        · have hf := it_n hc hf
          refine k_iconst (pc := 55) h dX10_findsWay_55 kc_iconst_0 ?_
          obtain rfl := so1 hf
          exact k_drop [0, 1, 2, 3, 5] rfl kj35
        · have hf := it_p hc hf
          refine k_iconst (pc := 48) h dX10_findsWay_48 kc_iconst_1 ?_
          refine k_iload (pc := 49) h dX10_findsWay_49 5 rfl ?_
          refine k_ishl (pc := 51) h dX10_findsWay_51 ?_
          refine k_goto (pc := 52) (tgt := 56) h dX10_findsWay_52 rfl ?_
          obtain rfl := so1 hf
          exact k_drop [0, 1, 2, 3, 5] rfl kj35
  · refine k_aload_n (pc := 65) h dX10_findsWay_65 rfl 0 rfl ?_
    refine k_iconst (pc := 66) h dX10_findsWay_66 kc_iconst_0 ?_
    obtain ⟨s12, es12, hf⟩ := lb_s hf
    refine k_put (pc := 67) h fl_RX10_258 fp_X10_17 rfl rfl rfl rfl dX10_findsWay_67 ?_
    refine k_heap es12 ?_
    refine k_aload_n (pc := 70) h dX10_findsWay_70 rfl 0 rfl ?_
    refine k_iload_n (pc := 71) h dX10_findsWay_71 rfl 1 rfl ?_
    obtain ⟨s13, cs13, hf⟩ := ob_s hf
    refine k_callV0 (pc := 72) h cv_RX10_264 (c_X10_goesTo p1 s12 s13 cs13) rfl rfl rfl (st1 := []) rfl ⟨rfl, rfl⟩ (rk hR (Nat.le_of_ble_eq_true rfl) (Nat.le_of_ble_eq_true rfl)) (Nat.le_of_ble_eq_true rfl) dX10_findsWay_72 ?_
    refine k_aload_n (pc := 75) h dX10_findsWay_75 rfl 0 rfl ?_
    refine k_iconst (pc := 76) h dX10_findsWay_76 kc_iconst_1 ?_
    refine k_iload_n (pc := 77) h dX10_findsWay_77 rfl 2 rfl ?_
    refine k_ishl (pc := 78) h dX10_findsWay_78 ?_
    refine k_iload (pc := 79) h dX10_findsWay_79 3 rfl ?_
    obtain ⟨s14, cs14, hf⟩ := ob_s hf
    refine k_callV0 (pc := 81) h cv_RX10_267 (c_X10_measures ((1 : Int32) <<< (p2 &&& 31)) v6 s13 s14 cs14) rfl rfl rfl (st1 := []) rfl ⟨rfl, rfl⟩ (rk hR (Nat.le_of_ble_eq_true rfl) (Nat.le_of_ble_eq_true rfl)) (Nat.le_of_ble_eq_true rfl) dX10_findsWay_81 ?_
    refine k_aload_n (pc := 84) h dX10_findsWay_84 rfl 0 rfl ?_
    refine k_iload_n (pc := 85) h dX10_findsWay_85 rfl 1 rfl ?_
    obtain ⟨s15, cs15, hf⟩ := ob_s hf
    refine k_callV0 (pc := 86) h cv_RX10_271 (c_X10_walks p1 s14 s15 cs15) rfl rfl rfl (st1 := []) rfl ⟨rfl, rfl⟩ (rk hR (Nat.le_of_ble_eq_true rfl) (Nat.le_of_ble_eq_true rfl)) (Nat.le_of_ble_eq_true rfl) dX10_findsWay_86 ?_
    refine k_aload_n (pc := 89) h dX10_findsWay_89 rfl 0 rfl ?_
    refine k_iload_n (pc := 90) h dX10_findsWay_90 rfl 1 rfl ?_
    obtain ⟨v16, cv16, hf⟩ := ob_s hf
    refine k_callV0 (pc := 91) h cv_RX10_218 (c_X10_bearing p1 s15 v16 cv16) rfl rfl rfl (st1 := [.int v16]) rfl ⟨rfl, rfl⟩ (rk hR (Nat.le_of_ble_eq_true rfl) (Nat.le_of_ble_eq_true rfl)) (Nat.le_of_ble_eq_true rfl) dX10_findsWay_91 ?_
    refine k_istore (pc := 94) h dX10_findsWay_94 (nk hL (by decide)) (lv' := [(0, .ref 0), (1, .int p1), (2, .int p2), (4, .int v6), (5, .int v16)]) rfl ?_
    refine k_iconst (pc := 96) h dX10_findsWay_96 kc_iconst_0 ?_
    refine k_istore (pc := 97) h dX10_findsWay_97 (nk hL (by decide)) (lv' := [(0, .ref 0), (1, .int p1), (2, .int p2), (4, .int v6), (5, .int v16), (6, .int (0 : Int32))]) rfl ?_
    refine k_iconst (pc := 99) h dX10_findsWay_99 kc_iconst_0 ?_
    refine k_istore (pc := 100) h dX10_findsWay_100 (nk hL (by decide)) (lv' := [(0, .ref 0), (1, .int p1), (2, .int p2), (4, .int v6), (5, .int v16), (6, .int (0 : Int32)), (7, .int (0 : Int32))]) rfl ?_
    obtain ⟨v19, hl, hf⟩ := ob_s hf
    refine k_drop (lv' := [(0, .ref 0), (2, .int p2), (5, .int v16), (6, .int (0 : Int32)), (7, .int (0 : Int32))]) [0, 2, 4, 5, 6] rfl ?_
    refine lp_s (P := (fun q : Int32 × Int32 => sh_K G shM 102 [(0, .ref 0), (2, .int p2), (5, .int v16), (6, .int q.1), (7, .int q.2)] [] s15)) (Q := (fun q : Int32 => sh_K G shM 142 [(0, .ref 0), (2, .int p2), (6, .int q)] [] s15)) (s := ((0 : Int32), (0 : Int32))) ?_ hl ?_
    · clear hf hl
      intro q rr hf kc102
      obtain ⟨v17, v18⟩ := q
      have hf : f_X10_findsWay_L102 s15 v16 v17 v18 = some rr := hf
      unfold f_X10_findsWay_L102 at hf
      refine k_iload (pc := 102) h dX10_findsWay_102 4 rfl ?_
      refine k_aload_n (pc := 104) h dX10_findsWay_104 rfl 0 rfl ?_
      refine k_getI (pc := 105) h fl_RX10_101 rfl rfl dX10_findsWay_105 ?_
      refine k_icmp_ge (pc := 108) (tgt := 142) h dX10_findsWay_108 rfl (fun hc => ?_) (fun hc => ?_)
      · have hf := it_p hc hf
        obtain rfl := so1 hf
        exact k_drop [0, 1, 3] rfl kc102
      · have hf := it_n hc hf
        refine k_iload (pc := 111) h dX10_findsWay_111 3 rfl ?_
        refine k_aload_n (pc := 113) h dX10_findsWay_113 rfl 0 rfl ?_
        refine k_iload (pc := 114) h dX10_findsWay_114 4 rfl ?_
        obtain ⟨v20, cv20, hf⟩ := ob_s hf
        refine k_callV0 (pc := 116) h cv_RX10_152 (c_X10_readsOf v18 s15 v20 cv20) rfl rfl rfl (st1 := [.int v20, .int v17]) rfl ⟨rfl, rfl⟩ (rk hR (Nat.le_of_ble_eq_true rfl) (Nat.le_of_ble_eq_true rfl)) (Nat.le_of_ble_eq_true rfl) dX10_findsWay_116 ?_
        refine k_iload (pc := 119) h dX10_findsWay_119 2 rfl ?_
        refine k_iand (pc := 121) h dX10_findsWay_121 ?_
        obtain ⟨v21, hj, hf⟩ := ob_s hf
        have kj122 : sh_K G shM 133 [(0, .ref 0), (2, .int p2), (5, .int v16), (7, .int v18)] [.int v21, .int v17] s15 := by
          refine k_ior (pc := 133) h dX10_findsWay_133 ?_
          obtain ⟨v22, ev22, hf⟩ := lb_s hf
          refine k_top ev22 ?_
          refine k_istore (pc := 134) h dX10_findsWay_134 (nk hL (by decide)) (lv' := [(0, .ref 0), (2, .int p2), (5, .int v16), (6, .int v22), (7, .int v18)]) rfl ?_
          obtain ⟨v23, ev23, hf⟩ := lb_s hf
          refine k_iinc (pc := 136) h dX10_findsWay_136 4 rfl ((congrArg (_ + ·) kc_iconst_1).trans ev23.symm) (nk hL (by decide)) (lv' := [(0, .ref 0), (2, .int p2), (5, .int v16), (6, .int v22), (7, .int v23)]) rfl ?_
          refine k_goto (pc := 139) (tgt := 102) h dX10_findsWay_139 rfl ?_
          obtain rfl := so1 hf
          exact k_drop [0, 1, 2, 3, 4] rfl kc102
        clear hf
        have hf := hj
        clear hj
        refine k_if_eq (pc := 122) (tgt := 132) h dX10_findsWay_122 rfl (fun hc => ?_) (fun hc => ?_)
        · have hf := it_p hc hf
          refine k_iconst (pc := 132) h dX10_findsWay_132 kc_iconst_0 ?_
          obtain rfl := so1 hf
          exact k_drop [0, 1, 2, 4] rfl kj122
        · have hf := it_n hc hf
          refine k_iconst (pc := 125) h dX10_findsWay_125 kc_iconst_1 ?_
          refine k_iload (pc := 126) h dX10_findsWay_126 4 rfl ?_
          refine k_ishl (pc := 128) h dX10_findsWay_128 ?_
          refine k_goto (pc := 129) (tgt := 133) h dX10_findsWay_129 rfl ?_
          obtain rfl := so1 hf
          exact k_drop [0, 1, 2, 4] rfl kj122
    · refine k_aload_n (pc := 142) h dX10_findsWay_142 rfl 0 rfl ?_
      refine k_iload (pc := 143) h dX10_findsWay_143 2 rfl ?_
      refine k_iconst (pc := 145) h dX10_findsWay_145 kc_iconst_1 ?_
      refine k_aload_n (pc := 146) h dX10_findsWay_146 rfl 0 rfl ?_
      refine k_getI (pc := 147) h fl_RX10_101 rfl rfl dX10_findsWay_147 ?_
      refine k_ishl (pc := 150) h dX10_findsWay_150 ?_
      refine k_iconst (pc := 151) h dX10_findsWay_151 kc_iconst_1 ?_
      refine k_isub (pc := 152) h dX10_findsWay_152 ?_
      obtain ⟨s24, cs24, hf⟩ := ob_s hf
      refine k_callV0 (pc := 153) h cv_RX10_267 (c_X10_measures v19 (((1 : Int32) <<< ((s15 0 0) &&& 31)) - (1 : Int32)) s15 s24 cs24) rfl rfl rfl (st1 := []) rfl ⟨rfl, rfl⟩ (rk hR (Nat.le_of_ble_eq_true rfl) (Nat.le_of_ble_eq_true rfl)) (Nat.le_of_ble_eq_true rfl) dX10_findsWay_153 ?_
      refine k_aload_n (pc := 156) h dX10_findsWay_156 rfl 0 rfl ?_
      refine k_iload_n (pc := 157) h dX10_findsWay_157 rfl 1 rfl ?_
      obtain ⟨s25, cs25, hf⟩ := ob_s hf
      refine k_callV0 (pc := 158) h cv_RX10_271 (c_X10_walks p2 s24 s25 cs25) rfl rfl rfl (st1 := []) rfl ⟨rfl, rfl⟩ (rk hR (Nat.le_of_ble_eq_true rfl) (Nat.le_of_ble_eq_true rfl)) (Nat.le_of_ble_eq_true rfl) dX10_findsWay_158 ?_
      obtain rfl := so1 hf
      exact hret 161 _ dX10_findsWay_161 trivial
theorem dX10_witnessOf_0 : decode cX10_witnessOf 0 = .ok (.aload_n 0, 1) := by decide +kernel
theorem dX10_witnessOf_1 : decode cX10_witnessOf 1 = .ok (.invokevirtual 249, 3) := by decide +kernel
theorem dX10_witnessOf_4 : decode cX10_witnessOf 4 = .ok (.iload_n 1, 1) := by decide +kernel
theorem dX10_witnessOf_5 : decode cX10_witnessOf 5 = .ok (.aload_n 0, 1) := by decide +kernel
theorem dX10_witnessOf_6 : decode cX10_witnessOf 6 = .ok (.getfield 224, 3) := by decide +kernel
theorem dX10_witnessOf_9 : decode cX10_witnessOf 9 = .ok (.if_icmp .ge 12, 3) := by decide +kernel
theorem dX10_witnessOf_12 : decode cX10_witnessOf 12 = .ok (.aload_n 0, 1) := by decide +kernel
theorem dX10_witnessOf_13 : decode cX10_witnessOf 13 = .ok (.getfield 40, 3) := by decide +kernel
theorem dX10_witnessOf_16 : decode cX10_witnessOf 16 = .ok (.iload_n 1, 1) := by decide +kernel
theorem dX10_witnessOf_17 : decode cX10_witnessOf 17 = .ok (.iaload, 1) := by decide +kernel
theorem dX10_witnessOf_18 : decode cX10_witnessOf 18 = .ok (.ifCond .eq 6, 3) := by decide +kernel
theorem dX10_witnessOf_21 : decode cX10_witnessOf 21 = .ok (.bipush (-3), 2) := by decide +kernel
theorem dX10_witnessOf_23 : decode cX10_witnessOf 23 = .ok (.ireturn, 1) := by decide +kernel
theorem dX10_witnessOf_24 : decode cX10_witnessOf 24 = .ok (.aload_n 0, 1) := by decide +kernel
theorem dX10_witnessOf_25 : decode cX10_witnessOf 25 = .ok (.aload_n 0, 1) := by decide +kernel
theorem dX10_witnessOf_26 : decode cX10_witnessOf 26 = .ok (.getfield 43, 3) := by decide +kernel
theorem dX10_witnessOf_29 : decode cX10_witnessOf 29 = .ok (.iload_n 1, 1) := by decide +kernel
theorem dX10_witnessOf_30 : decode cX10_witnessOf 30 = .ok (.iaload, 1) := by decide +kernel
theorem dX10_witnessOf_31 : decode cX10_witnessOf 31 = .ok (.aload_n 0, 1) := by decide +kernel
theorem dX10_witnessOf_32 : decode cX10_witnessOf 32 = .ok (.getfield 37, 3) := by decide +kernel
theorem dX10_witnessOf_35 : decode cX10_witnessOf 35 = .ok (.iload_n 1, 1) := by decide +kernel
theorem dX10_witnessOf_36 : decode cX10_witnessOf 36 = .ok (.iaload, 1) := by decide +kernel
theorem dX10_witnessOf_37 : decode cX10_witnessOf 37 = .ok (.invokevirtual 274, 3) := by decide +kernel
theorem dX10_witnessOf_40 : decode cX10_witnessOf 40 = .ok (.iload_n 2, 1) := by decide +kernel
theorem dX10_witnessOf_41 : decode cX10_witnessOf 41 = .ok (.iconst (-1), 1) := by decide +kernel
theorem dX10_witnessOf_42 : decode cX10_witnessOf 42 = .ok (.if_icmp .ne 10, 3) := by decide +kernel
theorem dX10_witnessOf_45 : decode cX10_witnessOf 45 = .ok (.aload_n 0, 1) := by decide +kernel
theorem dX10_witnessOf_46 : decode cX10_witnessOf 46 = .ok (.getfield 258, 3) := by decide +kernel
theorem dX10_witnessOf_49 : decode cX10_witnessOf 49 = .ok (.goto 21, 3) := by decide +kernel
theorem dX10_witnessOf_52 : decode cX10_witnessOf 52 = .ok (.iload_n 2, 1) := by decide +kernel
theorem dX10_witnessOf_53 : decode cX10_witnessOf 53 = .ok (.aload_n 0, 1) := by decide +kernel
theorem dX10_witnessOf_54 : decode cX10_witnessOf 54 = .ok (.getfield 258, 3) := by decide +kernel
theorem dX10_witnessOf_57 : decode cX10_witnessOf 57 = .ok (.if_icmp .ge 12, 3) := by decide +kernel
theorem dX10_witnessOf_60 : decode cX10_witnessOf 60 = .ok (.aload_n 0, 1) := by decide +kernel
theorem dX10_witnessOf_61 : decode cX10_witnessOf 61 = .ok (.getfield 49, 3) := by decide +kernel
theorem dX10_witnessOf_64 : decode cX10_witnessOf 64 = .ok (.iload_n 2, 1) := by decide +kernel
theorem dX10_witnessOf_65 : decode cX10_witnessOf 65 = .ok (.iaload, 1) := by decide +kernel
theorem dX10_witnessOf_66 : decode cX10_witnessOf 66 = .ok (.goto 4, 3) := by decide +kernel
theorem dX10_witnessOf_69 : decode cX10_witnessOf 69 = .ok (.iconst (-1), 1) := by decide +kernel
theorem dX10_witnessOf_70 : decode cX10_witnessOf 70 = .ok (.ireturn, 1) := by decide +kernel
def f_X10_witnessOf (p1 : Int32) (p2 : Int32) (s0 : sh_S) : Option (Int32 × sh_S) := ob (f_X10_errsAll  s0) (fun s1 => (if (s1 0 12) ≤ p1 then some ((-3 : Int32), s1) else gu (inb p1 1300) ((if (s1 11 (ix p1)) = 0 then gu (inb p1 1300) (gu (inb p1 1300) (ob (f_X10_findsWay (s1 12 (ix p1)) (s1 10 (ix p1)) s1) (fun s5 => ob (if p2 = (-1 : Int32) then some (s5 0 17) else (if (s5 0 17) ≤ p2 then some (-1 : Int32) else gu (inb p2 60) (some (s5 14 (ix p2))))) (fun v6 => some (v6, s5))))) else some ((-3 : Int32), s1)))))
set_option maxRecDepth 100000 in
set_option maxHeartbeats 4000000 in
theorem c_X10_witnessOf (p1 : Int32) (p2 : Int32) (s0 : sh_S) (r : Int32) (s9x : sh_S) (hf : f_X10_witnessOf p1 p2 s0 = some (r, s9x)) : Ctr yX10_witnessOf cX10_witnessOf 3 (some .int) ({ frames := 8, cells := 0, slots := 0, locals := 178 } : Room) shM [.ref 0, .int p1, .int p2] s0 (some (.int r)) s9x := by
  refine Ctr.mk (ri := .ireturn) (by decide) (Nat.le_of_ble_eq_true rfl) (Rt_i r) ?_
  intro G h hL hR hret
  refine k_drop (lv' := [(0, .ref 0), (1, .int p1), (2, .int p2)]) [0, 1, 2] rfl ?_
  unfold f_X10_witnessOf at hf
  refine k_aload_n (pc := 0) h dX10_witnessOf_0 rfl 0 rfl ?_
  obtain ⟨s1, cs1, hf⟩ := ob_s hf
  refine k_callV0 (pc := 1) h cv_RX10_249 (c_X10_errsAll  s0 s1 cs1) rfl rfl rfl (st1 := []) rfl ⟨rfl, rfl⟩ (rk hR (Nat.le_of_ble_eq_true rfl) (Nat.le_of_ble_eq_true rfl)) (Nat.le_of_ble_eq_true rfl) dX10_witnessOf_1 ?_
  refine k_iload_n (pc := 4) h dX10_witnessOf_4 rfl 1 rfl ?_
  refine k_aload_n (pc := 5) h dX10_witnessOf_5 rfl 0 rfl ?_
  refine k_getI (pc := 6) h fl_RX10_224 rfl rfl dX10_witnessOf_6 ?_
  refine k_icmp_ge (pc := 9) (tgt := 21) h dX10_witnessOf_9 rfl (fun hc => ?_) (fun hc => ?_)
  · have hf := it_p hc hf
    refine k_bipush (pc := 21) h dX10_witnessOf_21 kc_bipush_m3 ?_
    obtain ⟨rfl, rfl⟩ := so2 hf
    exact hret 23 _ dX10_witnessOf_23 trivial
  · have hf := it_n hc hf
    refine k_aload_n (pc := 12) h dX10_witnessOf_12 rfl 0 rfl ?_
    refine k_getR (pc := 13) h fl_RX10_40 rfl rfl dX10_witnessOf_13 ?_
    refine k_iload_n (pc := 16) h dX10_witnessOf_16 rfl 1 rfl ?_
    obtain ⟨g2, hf⟩ := gu_s hf
    refine k_iald (pc := 17) (n := 1300) h rfl g2 dX10_witnessOf_17 ?_
    refine k_if_eq (pc := 18) (tgt := 24) h dX10_witnessOf_18 rfl (fun hc => ?_) (fun hc => ?_)
    · have hf := it_p hc hf
      refine k_aload_n (pc := 24) h dX10_witnessOf_24 rfl 0 rfl ?_
      refine k_aload_n (pc := 25) h dX10_witnessOf_25 rfl 0 rfl ?_
      refine k_getR (pc := 26) h fl_RX10_43 rfl rfl dX10_witnessOf_26 ?_
      refine k_iload_n (pc := 29) h dX10_witnessOf_29 rfl 1 rfl ?_
      obtain ⟨g3, hf⟩ := gu_s hf
      refine k_iald (pc := 30) (n := 1300) h rfl g3 dX10_witnessOf_30 ?_
      refine k_aload_n (pc := 31) h dX10_witnessOf_31 rfl 0 rfl ?_
      refine k_getR (pc := 32) h fl_RX10_37 rfl rfl dX10_witnessOf_32 ?_
      refine k_iload_n (pc := 35) h dX10_witnessOf_35 rfl 1 rfl ?_
      obtain ⟨g4, hf⟩ := gu_s hf
      refine k_iald (pc := 36) (n := 1300) h rfl g4 dX10_witnessOf_36 ?_
      obtain ⟨s5, cs5, hf⟩ := ob_s hf
      refine k_callV0 (pc := 37) h cv_RX10_274 (c_X10_findsWay (s1 12 (ix p1)) (s1 10 (ix p1)) s1 s5 cs5) rfl rfl rfl (st1 := []) rfl ⟨rfl, rfl⟩ (rk hR (Nat.le_of_ble_eq_true rfl) (Nat.le_of_ble_eq_true rfl)) (Nat.le_of_ble_eq_true rfl) dX10_witnessOf_37 ?_
      refine k_iload_n (pc := 40) h dX10_witnessOf_40 rfl 2 rfl ?_
      refine k_iconst (pc := 41) h dX10_witnessOf_41 kc_iconst_m1 ?_
      obtain ⟨v6, hj, hf⟩ := ob_s hf
      have kj42 : sh_K G shM 70 [] [.int v6] s5 := by
        obtain ⟨rfl, rfl⟩ := so2 hf
        exact hret 70 _ dX10_witnessOf_70 trivial
      clear hf
      have hf := hj
      clear hj
      refine k_icmp_ne (pc := 42) (tgt := 52) h dX10_witnessOf_42 rfl (fun hc => ?_) (fun hc => ?_)
      · have hf := it_n hc hf
        refine k_iload_n (pc := 52) h dX10_witnessOf_52 rfl 2 rfl ?_
        refine k_aload_n (pc := 53) h dX10_witnessOf_53 rfl 0 rfl ?_
        refine k_getI (pc := 54) h fl_RX10_258 rfl rfl dX10_witnessOf_54 ?_
        refine k_icmp_ge (pc := 57) (tgt := 69) h dX10_witnessOf_57 rfl (fun hc => ?_) (fun hc => ?_)
        · have hf := it_p hc hf
          refine k_iconst (pc := 69) h dX10_witnessOf_69 kc_iconst_m1 ?_
          obtain rfl := so1 hf
          exact k_drop [] rfl kj42
        · have hf := it_n hc hf
          refine k_aload_n (pc := 60) h dX10_witnessOf_60 rfl 0 rfl ?_
          refine k_getR (pc := 61) h fl_RX10_49 rfl rfl dX10_witnessOf_61 ?_
          refine k_iload_n (pc := 64) h dX10_witnessOf_64 rfl 2 rfl ?_
          obtain ⟨g7, hf⟩ := gu_s hf
          refine k_iald (pc := 65) (n := 60) h rfl g7 dX10_witnessOf_65 ?_
          refine k_goto (pc := 66) (tgt := 70) h dX10_witnessOf_66 rfl ?_
          obtain rfl := so1 hf
          exact k_drop [] rfl kj42
      · have hf := it_p hc hf
        refine k_aload_n (pc := 45) h dX10_witnessOf_45 rfl 0 rfl ?_
        refine k_getI (pc := 46) h fl_RX10_258 rfl rfl dX10_witnessOf_46 ?_
        refine k_goto (pc := 49) (tgt := 70) h dX10_witnessOf_49 rfl ?_
        obtain rfl := so1 hf
        exact k_drop [] rfl kj42
    · have hf := it_n hc hf
      refine k_bipush (pc := 21) h dX10_witnessOf_21 kc_bipush_m3 ?_
      obtain ⟨rfl, rfl⟩ := so2 hf
      exact hret 23 _ dX10_witnessOf_23 trivial
theorem dX10_witness_0 : decode cX10_witness 0 = .ok (.iload_n 1, 1) := by decide +kernel
theorem dX10_witness_1 : decode cX10_witness 1 = .ok (.iconst 0, 1) := by decide +kernel
theorem dX10_witness_2 : decode cX10_witness 2 = .ok (.sipush 999, 3) := by decide +kernel
theorem dX10_witness_5 : decode cX10_witness 5 = .ok (.invokestatic 93, 3) := by decide +kernel
theorem dX10_witness_8 : decode cX10_witness 8 = .ok (.ifCond .eq 22, 3) := by decide +kernel
theorem dX10_witness_11 : decode cX10_witness 11 = .ok (.iload_n 2, 1) := by decide +kernel
theorem dX10_witness_12 : decode cX10_witness 12 = .ok (.iconst (-1), 1) := by decide +kernel
theorem dX10_witness_13 : decode cX10_witness 13 = .ok (.bipush 59, 2) := by decide +kernel
theorem dX10_witness_15 : decode cX10_witness 15 = .ok (.invokestatic 93, 3) := by decide +kernel
theorem dX10_witness_18 : decode cX10_witness 18 = .ok (.ifCond .eq 12, 3) := by decide +kernel
theorem dX10_witness_21 : decode cX10_witness 21 = .ok (.aload_n 0, 1) := by decide +kernel
theorem dX10_witness_22 : decode cX10_witness 22 = .ok (.iload_n 1, 1) := by decide +kernel
theorem dX10_witness_23 : decode cX10_witness 23 = .ok (.iload_n 2, 1) := by decide +kernel
theorem dX10_witness_24 : decode cX10_witness 24 = .ok (.invokevirtual 277, 3) := by decide +kernel
theorem dX10_witness_27 : decode cX10_witness 27 = .ok (.goto 5, 3) := by decide +kernel
theorem dX10_witness_30 : decode cX10_witness 30 = .ok (.bipush (-2), 2) := by decide +kernel
theorem dX10_witness_32 : decode cX10_witness 32 = .ok (.ireturn, 1) := by decide +kernel
def f_X10_witness (p1 : Int32) (p2 : Int32) (s0 : sh_S) : Option (Int32 × sh_S) := ob (f_X10_in p1 (0 : Int32) (999 : Int32)) (fun v1 => ob2 (if v1 = 0 then some ((-2 : Int32), s0) else ob (f_X10_in p2 (-1 : Int32) (59 : Int32)) (fun v4 => (if v4 = 0 then some ((-2 : Int32), s0) else ob2 (f_X10_witnessOf p1 p2 s0) (fun v5 s6 => some (v5, s6))))) (fun v2 s3 => some (v2, s3)))
set_option maxRecDepth 100000 in
set_option maxHeartbeats 4000000 in
theorem c_X10_witness (p1 : Int32) (p2 : Int32) (s0 : sh_S) (r : Int32) (s9x : sh_S) (hf : f_X10_witness p1 p2 s0 = some (r, s9x)) : Ctr yX10_witness cX10_witness 3 (some .int) ({ frames := 9, cells := 0, slots := 0, locals := 200 } : Room) shM [.ref 0, .int p1, .int p2] s0 (some (.int r)) s9x := by
  refine Ctr.mk (ri := .ireturn) (by decide) (Nat.le_of_ble_eq_true rfl) (Rt_i r) ?_
  intro G h hL hR hret
  refine k_drop (lv' := [(0, .ref 0), (1, .int p1), (2, .int p2)]) [0, 1, 2] rfl ?_
  unfold f_X10_witness at hf
  refine k_iload_n (pc := 0) h dX10_witness_0 rfl 1 rfl ?_
  refine k_iconst (pc := 1) h dX10_witness_1 kc_iconst_0 ?_
  refine k_sipush (pc := 2) h dX10_witness_2 kc_sipush_999 ?_
  obtain ⟨v1, cv1, hf⟩ := ob_s hf
  refine k_callSp (pc := 5) h cs_RX10_93 (c_X10_in p1 (0 : Int32) (999 : Int32) _ v1 cv1) rfl rfl (st1 := [.int v1]) rfl ⟨rfl, rfl⟩ (rk hR (Nat.le_of_ble_eq_true rfl) (Nat.le_of_ble_eq_true rfl)) (Nat.le_of_ble_eq_true rfl) dX10_witness_5 ?_
  obtain ⟨v2, s3, hj, hf⟩ := ob2_s hf
  have kj8 : sh_K G shM 32 [] [.int v2] s3 := by
    obtain ⟨rfl, rfl⟩ := so2 hf
    exact hret 32 _ dX10_witness_32 trivial
  clear hf
  have hf := hj
  clear hj
  refine k_if_eq (pc := 8) (tgt := 30) h dX10_witness_8 rfl (fun hc => ?_) (fun hc => ?_)
  · have hf := it_p hc hf
    refine k_bipush (pc := 30) h dX10_witness_30 kc_bipush_m2 ?_
    obtain ⟨rfl, rfl⟩ := so2 hf
    exact k_drop [] rfl kj8
  · have hf := it_n hc hf
    refine k_iload_n (pc := 11) h dX10_witness_11 rfl 2 rfl ?_
    refine k_iconst (pc := 12) h dX10_witness_12 kc_iconst_m1 ?_
    refine k_bipush (pc := 13) h dX10_witness_13 kc_bipush_59 ?_
    obtain ⟨v4, cv4, hf⟩ := ob_s hf
    refine k_callSp (pc := 15) h cs_RX10_93 (c_X10_in p2 (-1 : Int32) (59 : Int32) _ v4 cv4) rfl rfl (st1 := [.int v4]) rfl ⟨rfl, rfl⟩ (rk hR (Nat.le_of_ble_eq_true rfl) (Nat.le_of_ble_eq_true rfl)) (Nat.le_of_ble_eq_true rfl) dX10_witness_15 ?_
    refine k_if_eq (pc := 18) (tgt := 30) h dX10_witness_18 rfl (fun hc => ?_) (fun hc => ?_)
    · have hf := it_p hc hf
      refine k_bipush (pc := 30) h dX10_witness_30 kc_bipush_m2 ?_
      obtain ⟨rfl, rfl⟩ := so2 hf
      exact k_drop [] rfl kj8
    · have hf := it_n hc hf
      refine k_aload_n (pc := 21) h dX10_witness_21 rfl 0 rfl ?_
      refine k_iload_n (pc := 22) h dX10_witness_22 rfl 1 rfl ?_
      refine k_iload_n (pc := 23) h dX10_witness_23 rfl 2 rfl ?_
      obtain ⟨v5, s6, cv5, hf⟩ := ob2_s hf
      refine k_callV0 (pc := 24) h cv_RX10_277 (c_X10_witnessOf p1 p2 s0 v5 s6 cv5) rfl rfl rfl (st1 := [.int v5]) rfl ⟨rfl, rfl⟩ (rk hR (Nat.le_of_ble_eq_true rfl) (Nat.le_of_ble_eq_true rfl)) (Nat.le_of_ble_eq_true rfl) dX10_witness_24 ?_
      refine k_goto (pc := 27) (tgt := 32) h dX10_witness_27 rfl ?_
      obtain ⟨rfl, rfl⟩ := so2 hf
      exact k_drop [] rfl kj8
theorem dX10_errorsAs_0 : decode cX10_errorsAs 0 = .ok (.aload_n 0, 1) := by decide +kernel
theorem dX10_errorsAs_1 : decode cX10_errorsAs 1 = .ok (.getfield 7, 3) := by decide +kernel
theorem dX10_errorsAs_4 : decode cX10_errorsAs 4 = .ok (.iload_n 1, 1) := by decide +kernel
theorem dX10_errorsAs_5 : decode cX10_errorsAs 5 = .ok (.iaload, 1) := by decide +kernel
theorem dX10_errorsAs_6 : decode cX10_errorsAs 6 = .ok (.istore_n 3, 1) := by decide +kernel
theorem dX10_errorsAs_7 : decode cX10_errorsAs 7 = .ok (.aload_n 0, 1) := by decide +kernel
theorem dX10_errorsAs_8 : decode cX10_errorsAs 8 = .ok (.getfield 7, 3) := by decide +kernel
theorem dX10_errorsAs_11 : decode cX10_errorsAs 11 = .ok (.iload_n 1, 1) := by decide +kernel
theorem dX10_errorsAs_12 : decode cX10_errorsAs 12 = .ok (.iload_n 2, 1) := by decide +kernel
theorem dX10_errorsAs_13 : decode cX10_errorsAs 13 = .ok (.iastore, 1) := by decide +kernel
theorem dX10_errorsAs_14 : decode cX10_errorsAs 14 = .ok (.aload_n 0, 1) := by decide +kernel
theorem dX10_errorsAs_15 : decode cX10_errorsAs 15 = .ok (.invokevirtual 249, 3) := by decide +kernel
theorem dX10_errorsAs_18 : decode cX10_errorsAs 18 = .ok (.aload_n 0, 1) := by decide +kernel
theorem dX10_errorsAs_19 : decode cX10_errorsAs 19 = .ok (.getfield 7, 3) := by decide +kernel
theorem dX10_errorsAs_22 : decode cX10_errorsAs 22 = .ok (.iload_n 1, 1) := by decide +kernel
theorem dX10_errorsAs_23 : decode cX10_errorsAs 23 = .ok (.iload_n 3, 1) := by decide +kernel
theorem dX10_errorsAs_24 : decode cX10_errorsAs 24 = .ok (.iastore, 1) := by decide +kernel
theorem dX10_errorsAs_25 : decode cX10_errorsAs 25 = .ok (.aload_n 0, 1) := by decide +kernel
theorem dX10_errorsAs_26 : decode cX10_errorsAs 26 = .ok (.getfield 224, 3) := by decide +kernel
theorem dX10_errorsAs_29 : decode cX10_errorsAs 29 = .ok (.ireturn, 1) := by decide +kernel
def f_X10_errorsAs (p1 : Int32) (p2 : Int32) (s0 : sh_S) : Option (Int32 × sh_S) := gu (inb p1 24) (lb ((s0 1 (ix p1))) (fun v2 => gu (inb p1 24) (lb (ur s0 1 (upd (s0 1) (ix p1) p2)) (fun s4 => ob (f_X10_errsAll  s4) (fun s5 => gu (inb p1 24) (lb (ur s5 1 (upd (s5 1) (ix p1) v2)) (fun s7 => some ((s7 0 12), s7))))))))
set_option maxRecDepth 100000 in
set_option maxHeartbeats 4000000 in
theorem c_X10_errorsAs (p1 : Int32) (p2 : Int32) (s0 : sh_S) (r : Int32) (s9x : sh_S) (hf : f_X10_errorsAs p1 p2 s0 = some (r, s9x)) : Ctr yX10_errorsAs cX10_errorsAs 4 (some .int) ({ frames := 8, cells := 0, slots := 0, locals := 178 } : Room) shM [.ref 0, .int p1, .int p2] s0 (some (.int r)) s9x := by
  refine Ctr.mk (ri := .ireturn) (by decide) (Nat.le_of_ble_eq_true rfl) (Rt_i r) ?_
  intro G h hL hR hret
  refine k_drop (lv' := [(0, .ref 0), (1, .int p1), (2, .int p2)]) [0, 1, 2] rfl ?_
  unfold f_X10_errorsAs at hf
  refine k_aload_n (pc := 0) h dX10_errorsAs_0 rfl 0 rfl ?_
  refine k_getR (pc := 1) h fl_RX10_7 rfl rfl dX10_errorsAs_1 ?_
  refine k_iload_n (pc := 4) h dX10_errorsAs_4 rfl 1 rfl ?_
  obtain ⟨g1, hf⟩ := gu_s hf
  refine k_iald (pc := 5) (n := 24) h rfl g1 dX10_errorsAs_5 ?_
  obtain ⟨v2, ev2, hf⟩ := lb_s hf
  refine k_top ev2 ?_
  refine k_istore_n (pc := 6) h dX10_errorsAs_6 rfl (nk hL (by decide)) (lv' := [(0, .ref 0), (1, .int p1), (2, .int p2), (3, .int v2)]) rfl ?_
  refine k_aload_n (pc := 7) h dX10_errorsAs_7 rfl 0 rfl ?_
  refine k_getR (pc := 8) h fl_RX10_7 rfl rfl dX10_errorsAs_8 ?_
  refine k_iload_n (pc := 11) h dX10_errorsAs_11 rfl 1 rfl ?_
  refine k_iload_n (pc := 12) h dX10_errorsAs_12 rfl 2 rfl ?_
  obtain ⟨g3, hf⟩ := gu_s hf
  obtain ⟨s4, es4, hf⟩ := lb_s hf
  refine k_iast (pc := 13) (n := 24) h rfl g3 dX10_errorsAs_13 ?_
  refine k_heap es4 ?_
  refine k_aload_n (pc := 14) h dX10_errorsAs_14 rfl 0 rfl ?_
  obtain ⟨s5, cs5, hf⟩ := ob_s hf
  refine k_callV0 (pc := 15) h cv_RX10_249 (c_X10_errsAll  s4 s5 cs5) rfl rfl rfl (st1 := []) rfl ⟨rfl, rfl⟩ (rk hR (Nat.le_of_ble_eq_true rfl) (Nat.le_of_ble_eq_true rfl)) (Nat.le_of_ble_eq_true rfl) dX10_errorsAs_15 ?_
  refine k_aload_n (pc := 18) h dX10_errorsAs_18 rfl 0 rfl ?_
  refine k_getR (pc := 19) h fl_RX10_7 rfl rfl dX10_errorsAs_19 ?_
  refine k_iload_n (pc := 22) h dX10_errorsAs_22 rfl 1 rfl ?_
  refine k_iload_n (pc := 23) h dX10_errorsAs_23 rfl 3 rfl ?_
  obtain ⟨g6, hf⟩ := gu_s hf
  obtain ⟨s7, es7, hf⟩ := lb_s hf
  refine k_iast (pc := 24) (n := 24) h rfl g6 dX10_errorsAs_24 ?_
  refine k_heap es7 ?_
  refine k_aload_n (pc := 25) h dX10_errorsAs_25 rfl 0 rfl ?_
  refine k_getI (pc := 26) h fl_RX10_224 rfl rfl dX10_errorsAs_26 ?_
  obtain ⟨rfl, rfl⟩ := so2 hf
  exact hret 29 _ dX10_errorsAs_29 trivial
theorem dX10_mendOf_0 : decode cX10_mendOf 0 = .ok (.iconst (-1), 1) := by decide +kernel
theorem dX10_mendOf_1 : decode cX10_mendOf 1 = .ok (.istore_n 2, 1) := by decide +kernel
theorem dX10_mendOf_2 : decode cX10_mendOf 2 = .ok (.iconst (-1), 1) := by decide +kernel
theorem dX10_mendOf_3 : decode cX10_mendOf 3 = .ok (.istore_n 3, 1) := by decide +kernel
theorem dX10_mendOf_4 : decode cX10_mendOf 4 = .ok (.iconst 0, 1) := by decide +kernel
theorem dX10_mendOf_5 : decode cX10_mendOf 5 = .ok (.istore 4, 2) := by decide +kernel
theorem dX10_mendOf_7 : decode cX10_mendOf 7 = .ok (.iload 4, 2) := by decide +kernel
theorem dX10_mendOf_9 : decode cX10_mendOf 9 = .ok (.aload_n 0, 1) := by decide +kernel
theorem dX10_mendOf_10 : decode cX10_mendOf 10 = .ok (.getfield 101, 3) := by decide +kernel
theorem dX10_mendOf_13 : decode cX10_mendOf 13 = .ok (.if_icmp .ge 35, 3) := by decide +kernel
theorem dX10_mendOf_16 : decode cX10_mendOf 16 = .ok (.aload_n 0, 1) := by decide +kernel
theorem dX10_mendOf_17 : decode cX10_mendOf 17 = .ok (.iload 4, 2) := by decide +kernel
theorem dX10_mendOf_19 : decode cX10_mendOf 19 = .ok (.iconst 0, 1) := by decide +kernel
theorem dX10_mendOf_20 : decode cX10_mendOf 20 = .ok (.invokevirtual 280, 3) := by decide +kernel
theorem dX10_mendOf_23 : decode cX10_mendOf 23 = .ok (.istore 5, 2) := by decide +kernel
theorem dX10_mendOf_25 : decode cX10_mendOf 25 = .ok (.iload_n 2, 1) := by decide +kernel
theorem dX10_mendOf_26 : decode cX10_mendOf 26 = .ok (.iconst (-1), 1) := by decide +kernel
theorem dX10_mendOf_27 : decode cX10_mendOf 27 = .ok (.if_icmp .eq 9, 3) := by decide +kernel
theorem dX10_mendOf_30 : decode cX10_mendOf 30 = .ok (.iload 5, 2) := by decide +kernel
theorem dX10_mendOf_32 : decode cX10_mendOf 32 = .ok (.iload_n 3, 1) := by decide +kernel
theorem dX10_mendOf_33 : decode cX10_mendOf 33 = .ok (.if_icmp .ge 9, 3) := by decide +kernel
theorem dX10_mendOf_36 : decode cX10_mendOf 36 = .ok (.iload 4, 2) := by decide +kernel
theorem dX10_mendOf_38 : decode cX10_mendOf 38 = .ok (.istore_n 2, 1) := by decide +kernel
theorem dX10_mendOf_39 : decode cX10_mendOf 39 = .ok (.iload 5, 2) := by decide +kernel
theorem dX10_mendOf_41 : decode cX10_mendOf 41 = .ok (.istore_n 3, 1) := by decide +kernel
theorem dX10_mendOf_42 : decode cX10_mendOf 42 = .ok (.iinc 4 1, 3) := by decide +kernel
theorem dX10_mendOf_45 : decode cX10_mendOf 45 = .ok (.goto (-38), 3) := by decide +kernel
theorem dX10_mendOf_48 : decode cX10_mendOf 48 = .ok (.iload_n 1, 1) := by decide +kernel
theorem dX10_mendOf_49 : decode cX10_mendOf 49 = .ok (.ifCond .ne 7, 3) := by decide +kernel
theorem dX10_mendOf_52 : decode cX10_mendOf 52 = .ok (.iload_n 2, 1) := by decide +kernel
theorem dX10_mendOf_53 : decode cX10_mendOf 53 = .ok (.goto 4, 3) := by decide +kernel
theorem dX10_mendOf_56 : decode cX10_mendOf 56 = .ok (.iload_n 3, 1) := by decide +kernel
theorem dX10_mendOf_57 : decode cX10_mendOf 57 = .ok (.ireturn, 1) := by decide +kernel
def f_X10_mendOf_L7 (v1 : Int32) (v2 : Int32) (v3 : Int32) (s4 : sh_S) : Option ((Int32 × Int32 × Int32 × sh_S) ⊕ (Int32 × Int32 × sh_S)) := (if (s4 0 0) ≤ v3 then some (.inr (v1, v2, s4)) else ob2 (f_X10_errorsAs v3 (0 : Int32) s4) (fun v8 s9 => ob2 (if v1 = (-1 : Int32) then some (v3, v8) else (if v2 ≤ v8 then some (v1, v2) else some (v3, v8))) (fun v10 v11 => lb (v3 + (1 : Int32)) (fun v12 => some (.inl (v10, v11, v12, s9))))))
def f_X10_mendOf (p1 : Int32) (s0 : sh_S) : Option (Int32 × sh_S) := ob3 (lp (fun q => f_X10_mendOf_L7 q.1 q.2.1 q.2.2.1 q.2.2.2) FU ((-1 : Int32), (-1 : Int32), (0 : Int32), s0)) (fun v5 v6 s7 => ob (if p1 = 0 then some v5 else some v6) (fun v13 => some (v13, s7)))
set_option maxRecDepth 100000 in
set_option maxHeartbeats 4000000 in
theorem c_X10_mendOf (p1 : Int32) (s0 : sh_S) (r : Int32) (s9x : sh_S) (hf : f_X10_mendOf p1 s0 = some (r, s9x)) : Ctr yX10_mendOf cX10_mendOf 6 (some .int) ({ frames := 9, cells := 0, slots := 0, locals := 201 } : Room) shM [.ref 0, .int p1] s0 (some (.int r)) s9x := by
  refine Ctr.mk (ri := .ireturn) (by decide) (Nat.le_of_ble_eq_true rfl) (Rt_i r) ?_
  intro G h hL hR hret
  refine k_drop (lv' := [(0, .ref 0), (1, .int p1)]) [0, 1] rfl ?_
  unfold f_X10_mendOf at hf
  refine k_iconst (pc := 0) h dX10_mendOf_0 kc_iconst_m1 ?_
  refine k_istore_n (pc := 1) h dX10_mendOf_1 rfl (nk hL (by decide)) (lv' := [(0, .ref 0), (1, .int p1), (2, .int (-1 : Int32))]) rfl ?_
  refine k_iconst (pc := 2) h dX10_mendOf_2 kc_iconst_m1 ?_
  refine k_istore_n (pc := 3) h dX10_mendOf_3 rfl (nk hL (by decide)) (lv' := [(0, .ref 0), (1, .int p1), (2, .int (-1 : Int32)), (3, .int (-1 : Int32))]) rfl ?_
  refine k_iconst (pc := 4) h dX10_mendOf_4 kc_iconst_0 ?_
  refine k_istore (pc := 5) h dX10_mendOf_5 (nk hL (by decide)) (lv' := [(0, .ref 0), (1, .int p1), (2, .int (-1 : Int32)), (3, .int (-1 : Int32)), (4, .int (0 : Int32))]) rfl ?_
  obtain ⟨v5, v6, s7, hl, hf⟩ := ob3_s hf
  refine k_drop (lv' := [(0, .ref 0), (1, .int p1), (2, .int (-1 : Int32)), (3, .int (-1 : Int32)), (4, .int (0 : Int32))]) [0, 1, 2, 3, 4] rfl ?_
  refine lp_s (P := (fun q : Int32 × Int32 × Int32 × sh_S => sh_K G shM 7 [(0, .ref 0), (1, .int p1), (2, .int q.1), (3, .int q.2.1), (4, .int q.2.2.1)] [] q.2.2.2)) (Q := (fun q : Int32 × Int32 × sh_S => sh_K G shM 48 [(1, .int p1), (2, .int q.1), (3, .int q.2.1)] [] q.2.2)) (s := ((-1 : Int32), (-1 : Int32), (0 : Int32), s0)) ?_ hl ?_
  · clear hf hl
    intro q rr hf kc7
    obtain ⟨v1, v2, v3, s4⟩ := q
    have hf : f_X10_mendOf_L7 v1 v2 v3 s4 = some rr := hf
    unfold f_X10_mendOf_L7 at hf
    refine k_iload (pc := 7) h dX10_mendOf_7 4 rfl ?_
    refine k_aload_n (pc := 9) h dX10_mendOf_9 rfl 0 rfl ?_
    refine k_getI (pc := 10) h fl_RX10_101 rfl rfl dX10_mendOf_10 ?_
    refine k_icmp_ge (pc := 13) (tgt := 48) h dX10_mendOf_13 rfl (fun hc => ?_) (fun hc => ?_)
    · have hf := it_p hc hf
      obtain rfl := so1 hf
      exact k_drop [1, 2, 3] rfl kc7
    · have hf := it_n hc hf
      refine k_aload_n (pc := 16) h dX10_mendOf_16 rfl 0 rfl ?_
      refine k_iload (pc := 17) h dX10_mendOf_17 4 rfl ?_
      refine k_iconst (pc := 19) h dX10_mendOf_19 kc_iconst_0 ?_
      obtain ⟨v8, s9, cv8, hf⟩ := ob2_s hf
      refine k_callV0 (pc := 20) h cv_RX10_280 (c_X10_errorsAs v3 (0 : Int32) s4 v8 s9 cv8) rfl rfl rfl (st1 := [.int v8]) rfl ⟨rfl, rfl⟩ (rk hR (Nat.le_of_ble_eq_true rfl) (Nat.le_of_ble_eq_true rfl)) (Nat.le_of_ble_eq_true rfl) dX10_mendOf_20 ?_
      refine k_istore (pc := 23) h dX10_mendOf_23 (nk hL (by decide)) (lv' := [(0, .ref 0), (1, .int p1), (2, .int v1), (3, .int v2), (4, .int v3), (5, .int v8)]) rfl ?_
      refine k_iload_n (pc := 25) h dX10_mendOf_25 rfl 2 rfl ?_
      refine k_iconst (pc := 26) h dX10_mendOf_26 kc_iconst_m1 ?_
      obtain ⟨v10, v11, hj, hf⟩ := ob2_s hf
      have kj27 : sh_K G shM 42 [(0, .ref 0), (1, .int p1), (2, .int v10), (3, .int v11), (4, .int v3)] [] s9 := by
        obtain ⟨v12, ev12, hf⟩ := lb_s hf
        refine k_iinc (pc := 42) h dX10_mendOf_42 4 rfl ((congrArg (_ + ·) kc_iconst_1).trans ev12.symm) (nk hL (by decide)) (lv' := [(0, .ref 0), (1, .int p1), (2, .int v10), (3, .int v11), (4, .int v12)]) rfl ?_
        refine k_goto (pc := 45) (tgt := 7) h dX10_mendOf_45 rfl ?_
        obtain rfl := so1 hf
        exact k_drop [0, 1, 2, 3, 4] rfl kc7
      clear hf
      have hf := hj
      clear hj
      refine k_icmp_eq (pc := 27) (tgt := 36) h dX10_mendOf_27 rfl (fun hc => ?_) (fun hc => ?_)
      · have hf := it_p hc hf
        refine k_iload (pc := 36) h dX10_mendOf_36 4 rfl ?_
        refine k_istore_n (pc := 38) h dX10_mendOf_38 rfl (nk hL (by decide)) (lv' := [(0, .ref 0), (1, .int p1), (2, .int v3), (3, .int v2), (4, .int v3), (5, .int v8)]) rfl ?_
        refine k_iload (pc := 39) h dX10_mendOf_39 5 rfl ?_
        refine k_istore_n (pc := 41) h dX10_mendOf_41 rfl (nk hL (by decide)) (lv' := [(0, .ref 0), (1, .int p1), (2, .int v3), (3, .int v8), (4, .int v3), (5, .int v8)]) rfl ?_
        obtain ⟨rfl, rfl⟩ := so2 hf
        exact k_drop [0, 1, 2, 3, 4] rfl kj27
      · have hf := it_n hc hf
        refine k_iload (pc := 30) h dX10_mendOf_30 5 rfl ?_
        refine k_iload_n (pc := 32) h dX10_mendOf_32 rfl 3 rfl ?_
        refine k_icmp_ge (pc := 33) (tgt := 42) h dX10_mendOf_33 rfl (fun hc => ?_) (fun hc => ?_)
        · have hf := it_p hc hf
          obtain ⟨rfl, rfl⟩ := so2 hf
          exact k_drop [0, 1, 2, 3, 4] rfl kj27
        · have hf := it_n hc hf
          refine k_iload (pc := 36) h dX10_mendOf_36 4 rfl ?_
          refine k_istore_n (pc := 38) h dX10_mendOf_38 rfl (nk hL (by decide)) (lv' := [(0, .ref 0), (1, .int p1), (2, .int v3), (3, .int v2), (4, .int v3), (5, .int v8)]) rfl ?_
          refine k_iload (pc := 39) h dX10_mendOf_39 5 rfl ?_
          refine k_istore_n (pc := 41) h dX10_mendOf_41 rfl (nk hL (by decide)) (lv' := [(0, .ref 0), (1, .int p1), (2, .int v3), (3, .int v8), (4, .int v3), (5, .int v8)]) rfl ?_
          obtain ⟨rfl, rfl⟩ := so2 hf
          exact k_drop [0, 1, 2, 3, 4] rfl kj27
  · refine k_iload_n (pc := 48) h dX10_mendOf_48 rfl 0 rfl ?_
    obtain ⟨v13, hj, hf⟩ := ob_s hf
    have kj49 : sh_K G shM 57 [] [.int v13] s7 := by
      obtain ⟨rfl, rfl⟩ := so2 hf
      exact hret 57 _ dX10_mendOf_57 trivial
    clear hf
    have hf := hj
    clear hj
    refine k_if_ne (pc := 49) (tgt := 56) h dX10_mendOf_49 rfl (fun hc => ?_) (fun hc => ?_)
    · have hf := it_n hc hf
      refine k_iload_n (pc := 56) h dX10_mendOf_56 rfl 2 rfl ?_
      obtain rfl := so1 hf
      exact k_drop [] rfl kj49
    · have hf := it_p hc hf
      refine k_iload_n (pc := 52) h dX10_mendOf_52 rfl 1 rfl ?_
      refine k_goto (pc := 53) (tgt := 57) h dX10_mendOf_53 rfl ?_
      obtain rfl := so1 hf
      exact k_drop [] rfl kj49
theorem dX10_mend_0 : decode cX10_mend 0 = .ok (.iload_n 1, 1) := by decide +kernel
theorem dX10_mend_1 : decode cX10_mend 1 = .ok (.iconst 0, 1) := by decide +kernel
theorem dX10_mend_2 : decode cX10_mend 2 = .ok (.iconst 1, 1) := by decide +kernel
theorem dX10_mend_3 : decode cX10_mend 3 = .ok (.invokestatic 93, 3) := by decide +kernel
theorem dX10_mend_6 : decode cX10_mend 6 = .ok (.ifCond .eq 11, 3) := by decide +kernel
theorem dX10_mend_9 : decode cX10_mend 9 = .ok (.aload_n 0, 1) := by decide +kernel
theorem dX10_mend_10 : decode cX10_mend 10 = .ok (.iload_n 1, 1) := by decide +kernel
theorem dX10_mend_11 : decode cX10_mend 11 = .ok (.invokevirtual 283, 3) := by decide +kernel
theorem dX10_mend_14 : decode cX10_mend 14 = .ok (.goto 5, 3) := by decide +kernel
theorem dX10_mend_17 : decode cX10_mend 17 = .ok (.bipush (-2), 2) := by decide +kernel
theorem dX10_mend_19 : decode cX10_mend 19 = .ok (.ireturn, 1) := by decide +kernel
def f_X10_mend (p1 : Int32) (s0 : sh_S) : Option (Int32 × sh_S) := ob (f_X10_in p1 (0 : Int32) (1 : Int32)) (fun v1 => ob2 (if v1 = 0 then some ((-2 : Int32), s0) else ob2 (f_X10_mendOf p1 s0) (fun v4 s5 => some (v4, s5))) (fun v2 s3 => some (v2, s3)))
set_option maxRecDepth 100000 in
set_option maxHeartbeats 4000000 in
theorem c_X10_mend (p1 : Int32) (s0 : sh_S) (r : Int32) (s9x : sh_S) (hf : f_X10_mend p1 s0 = some (r, s9x)) : Ctr yX10_mend cX10_mend 2 (some .int) ({ frames := 10, cells := 0, slots := 0, locals := 226 } : Room) shM [.ref 0, .int p1] s0 (some (.int r)) s9x := by
  refine Ctr.mk (ri := .ireturn) (by decide) (Nat.le_of_ble_eq_true rfl) (Rt_i r) ?_
  intro G h hL hR hret
  refine k_drop (lv' := [(0, .ref 0), (1, .int p1)]) [0, 1] rfl ?_
  unfold f_X10_mend at hf
  refine k_iload_n (pc := 0) h dX10_mend_0 rfl 1 rfl ?_
  refine k_iconst (pc := 1) h dX10_mend_1 kc_iconst_0 ?_
  refine k_iconst (pc := 2) h dX10_mend_2 kc_iconst_1 ?_
  obtain ⟨v1, cv1, hf⟩ := ob_s hf
  refine k_callSp (pc := 3) h cs_RX10_93 (c_X10_in p1 (0 : Int32) (1 : Int32) _ v1 cv1) rfl rfl (st1 := [.int v1]) rfl ⟨rfl, rfl⟩ (rk hR (Nat.le_of_ble_eq_true rfl) (Nat.le_of_ble_eq_true rfl)) (Nat.le_of_ble_eq_true rfl) dX10_mend_3 ?_
  obtain ⟨v2, s3, hj, hf⟩ := ob2_s hf
  have kj6 : sh_K G shM 19 [] [.int v2] s3 := by
    obtain ⟨rfl, rfl⟩ := so2 hf
    exact hret 19 _ dX10_mend_19 trivial
  clear hf
  have hf := hj
  clear hj
  refine k_if_eq (pc := 6) (tgt := 17) h dX10_mend_6 rfl (fun hc => ?_) (fun hc => ?_)
  · have hf := it_p hc hf
    refine k_bipush (pc := 17) h dX10_mend_17 kc_bipush_m2 ?_
    obtain ⟨rfl, rfl⟩ := so2 hf
    exact k_drop [] rfl kj6
  · have hf := it_n hc hf
    refine k_aload_n (pc := 9) h dX10_mend_9 rfl 0 rfl ?_
    refine k_iload_n (pc := 10) h dX10_mend_10 rfl 1 rfl ?_
    obtain ⟨v4, s5, cv4, hf⟩ := ob2_s hf
    refine k_callV0 (pc := 11) h cv_RX10_283 (c_X10_mendOf p1 s0 v4 s5 cv4) rfl rfl rfl (st1 := [.int v4]) rfl ⟨rfl, rfl⟩ (rk hR (Nat.le_of_ble_eq_true rfl) (Nat.le_of_ble_eq_true rfl)) (Nat.le_of_ble_eq_true rfl) dX10_mend_11 ?_
    refine k_goto (pc := 14) (tgt := 19) h dX10_mend_14 rfl ?_
    obtain ⟨rfl, rfl⟩ := so2 hf
    exact k_drop [] rfl kj6
theorem dX10_softOf_0 : decode cX10_softOf 0 = .ok (.aload_n 0, 1) := by decide +kernel
theorem dX10_softOf_1 : decode cX10_softOf 1 = .ok (.invokevirtual 252, 3) := by decide +kernel
theorem dX10_softOf_4 : decode cX10_softOf 4 = .ok (.istore_n 1, 1) := by decide +kernel
theorem dX10_softOf_5 : decode cX10_softOf 5 = .ok (.iconst 0, 1) := by decide +kernel
theorem dX10_softOf_6 : decode cX10_softOf 6 = .ok (.istore_n 2, 1) := by decide +kernel
theorem dX10_softOf_7 : decode cX10_softOf 7 = .ok (.iconst 0, 1) := by decide +kernel
theorem dX10_softOf_8 : decode cX10_softOf 8 = .ok (.istore_n 3, 1) := by decide +kernel
theorem dX10_softOf_9 : decode cX10_softOf 9 = .ok (.iload_n 3, 1) := by decide +kernel
theorem dX10_softOf_10 : decode cX10_softOf 10 = .ok (.aload_n 0, 1) := by decide +kernel
theorem dX10_softOf_11 : decode cX10_softOf 11 = .ok (.getfield 101, 3) := by decide +kernel
theorem dX10_softOf_14 : decode cX10_softOf 14 = .ok (.if_icmp .ge 49, 3) := by decide +kernel
theorem dX10_softOf_17 : decode cX10_softOf 17 = .ok (.iload_n 2, 1) := by decide +kernel
theorem dX10_softOf_18 : decode cX10_softOf 18 = .ok (.aload_n 0, 1) := by decide +kernel
theorem dX10_softOf_19 : decode cX10_softOf 19 = .ok (.getfield 7, 3) := by decide +kernel
theorem dX10_softOf_22 : decode cX10_softOf 22 = .ok (.iload_n 3, 1) := by decide +kernel
theorem dX10_softOf_23 : decode cX10_softOf 23 = .ok (.iaload, 1) := by decide +kernel
theorem dX10_softOf_24 : decode cX10_softOf 24 = .ok (.iconst 4, 1) := by decide +kernel
theorem dX10_softOf_25 : decode cX10_softOf 25 = .ok (.if_icmp .eq 13, 3) := by decide +kernel
theorem dX10_softOf_28 : decode cX10_softOf 28 = .ok (.aload_n 0, 1) := by decide +kernel
theorem dX10_softOf_29 : decode cX10_softOf 29 = .ok (.getfield 7, 3) := by decide +kernel
theorem dX10_softOf_32 : decode cX10_softOf 32 = .ok (.iload_n 3, 1) := by decide +kernel
theorem dX10_softOf_33 : decode cX10_softOf 33 = .ok (.iaload, 1) := by decide +kernel
theorem dX10_softOf_34 : decode cX10_softOf 34 = .ok (.iconst 5, 1) := by decide +kernel
theorem dX10_softOf_35 : decode cX10_softOf 35 = .ok (.if_icmp .ne 19, 3) := by decide +kernel
theorem dX10_softOf_38 : decode cX10_softOf 38 = .ok (.aload_n 0, 1) := by decide +kernel
theorem dX10_softOf_39 : decode cX10_softOf 39 = .ok (.iload_n 3, 1) := by decide +kernel
theorem dX10_softOf_40 : decode cX10_softOf 40 = .ok (.iconst 3, 1) := by decide +kernel
theorem dX10_softOf_41 : decode cX10_softOf 41 = .ok (.invokevirtual 280, 3) := by decide +kernel
theorem dX10_softOf_44 : decode cX10_softOf 44 = .ok (.iload_n 1, 1) := by decide +kernel
theorem dX10_softOf_45 : decode cX10_softOf 45 = .ok (.if_icmp .gt 9, 3) := by decide +kernel
theorem dX10_softOf_48 : decode cX10_softOf 48 = .ok (.iconst 1, 1) := by decide +kernel
theorem dX10_softOf_49 : decode cX10_softOf 49 = .ok (.iload_n 3, 1) := by decide +kernel
theorem dX10_softOf_50 : decode cX10_softOf 50 = .ok (.ishl, 1) := by decide +kernel
theorem dX10_softOf_51 : decode cX10_softOf 51 = .ok (.goto 4, 3) := by decide +kernel
theorem dX10_softOf_54 : decode cX10_softOf 54 = .ok (.iconst 0, 1) := by decide +kernel
theorem dX10_softOf_55 : decode cX10_softOf 55 = .ok (.ior, 1) := by decide +kernel
theorem dX10_softOf_56 : decode cX10_softOf 56 = .ok (.istore_n 2, 1) := by decide +kernel
theorem dX10_softOf_57 : decode cX10_softOf 57 = .ok (.iinc 3 1, 3) := by decide +kernel
theorem dX10_softOf_60 : decode cX10_softOf 60 = .ok (.goto (-51), 3) := by decide +kernel
theorem dX10_softOf_63 : decode cX10_softOf 63 = .ok (.iload_n 2, 1) := by decide +kernel
theorem dX10_softOf_64 : decode cX10_softOf 64 = .ok (.ireturn, 1) := by decide +kernel
def f_X10_softOf_L9 (v1 : Int32) (v3 : Int32) (v4 : Int32) (s5 : sh_S) : Option ((Int32 × Int32 × sh_S) ⊕ (Int32 × sh_S)) := (if (s5 0 0) ≤ v4 then some (.inr (v3, s5)) else gu (inb v4 24) (ob2 (if (s5 1 (ix v4)) = (4 : Int32) then ob2 (f_X10_errorsAs v4 (3 : Int32) s5) (fun v11 s12 => (if v1 < v11 then some ((0 : Int32), s12) else some (((1 : Int32) <<< (v4 &&& 31)), s12))) else gu (inb v4 24) ((if (s5 1 (ix v4)) = (5 : Int32) then ob2 (f_X10_errorsAs v4 (3 : Int32) s5) (fun v14 s15 => (if v1 < v14 then some ((0 : Int32), s15) else some (((1 : Int32) <<< (v4 &&& 31)), s15))) else some ((0 : Int32), s5)))) (fun v9 s10 => lb ((v3 ||| v9)) (fun v16 => lb (v4 + (1 : Int32)) (fun v17 => some (.inl (v16, v17, s10)))))))
def f_X10_softOf  (s0 : sh_S) : Option (Int32 × sh_S) := ob2 (f_X10_errorsOf  s0) (fun v1 s2 => ob2 (lp (fun q => f_X10_softOf_L9 v1 q.1 q.2.1 q.2.2) FU ((0 : Int32), (0 : Int32), s2)) (fun v6 s7 => some (v6, s7)))
set_option maxRecDepth 100000 in
set_option maxHeartbeats 4000000 in
theorem c_X10_softOf  (s0 : sh_S) (r : Int32) (s9x : sh_S) (hf : f_X10_softOf  s0 = some (r, s9x)) : Ctr yX10_softOf cX10_softOf 4 (some .int) ({ frames := 9, cells := 0, slots := 0, locals := 201 } : Room) shM [.ref 0] s0 (some (.int r)) s9x := by
  refine Ctr.mk (ri := .ireturn) (by decide) (Nat.le_of_ble_eq_true rfl) (Rt_i r) ?_
  intro G h hL hR hret
  refine k_drop (lv' := [(0, .ref 0)]) [0] rfl ?_
  unfold f_X10_softOf at hf
  refine k_aload_n (pc := 0) h dX10_softOf_0 rfl 0 rfl ?_
  obtain ⟨v1, s2, cv1, hf⟩ := ob2_s hf
  refine k_callV0 (pc := 1) h cv_RX10_252 (c_X10_errorsOf  s0 v1 s2 cv1) rfl rfl rfl (st1 := [.int v1]) rfl ⟨rfl, rfl⟩ (rk hR (Nat.le_of_ble_eq_true rfl) (Nat.le_of_ble_eq_true rfl)) (Nat.le_of_ble_eq_true rfl) dX10_softOf_1 ?_
  refine k_istore_n (pc := 4) h dX10_softOf_4 rfl (nk hL (by decide)) (lv' := [(0, .ref 0), (1, .int v1)]) rfl ?_
  refine k_iconst (pc := 5) h dX10_softOf_5 kc_iconst_0 ?_
  refine k_istore_n (pc := 6) h dX10_softOf_6 rfl (nk hL (by decide)) (lv' := [(0, .ref 0), (1, .int v1), (2, .int (0 : Int32))]) rfl ?_
  refine k_iconst (pc := 7) h dX10_softOf_7 kc_iconst_0 ?_
  refine k_istore_n (pc := 8) h dX10_softOf_8 rfl (nk hL (by decide)) (lv' := [(0, .ref 0), (1, .int v1), (2, .int (0 : Int32)), (3, .int (0 : Int32))]) rfl ?_
  obtain ⟨v6, s7, hl, hf⟩ := ob2_s hf
  refine k_drop (lv' := [(0, .ref 0), (1, .int v1), (2, .int (0 : Int32)), (3, .int (0 : Int32))]) [0, 1, 2, 3] rfl ?_
  refine lp_s (P := (fun q : Int32 × Int32 × sh_S => sh_K G shM 9 [(0, .ref 0), (1, .int v1), (2, .int q.1), (3, .int q.2.1)] [] q.2.2)) (Q := (fun q : Int32 × sh_S => sh_K G shM 63 [(2, .int q.1)] [] q.2)) (s := ((0 : Int32), (0 : Int32), s2)) ?_ hl ?_
  · clear hf hl
    intro q rr hf kc9
    obtain ⟨v3, v4, s5⟩ := q
    have hf : f_X10_softOf_L9 v1 v3 v4 s5 = some rr := hf
    unfold f_X10_softOf_L9 at hf
    refine k_iload_n (pc := 9) h dX10_softOf_9 rfl 3 rfl ?_
    refine k_aload_n (pc := 10) h dX10_softOf_10 rfl 0 rfl ?_
    refine k_getI (pc := 11) h fl_RX10_101 rfl rfl dX10_softOf_11 ?_
    refine k_icmp_ge (pc := 14) (tgt := 63) h dX10_softOf_14 rfl (fun hc => ?_) (fun hc => ?_)
    · have hf := it_p hc hf
      obtain rfl := so1 hf
      exact k_drop [2] rfl kc9
    · have hf := it_n hc hf
      refine k_iload_n (pc := 17) h dX10_softOf_17 rfl 2 rfl ?_
      refine k_aload_n (pc := 18) h dX10_softOf_18 rfl 0 rfl ?_
      refine k_getR (pc := 19) h fl_RX10_7 rfl rfl dX10_softOf_19 ?_
      refine k_iload_n (pc := 22) h dX10_softOf_22 rfl 3 rfl ?_
      obtain ⟨g8, hf⟩ := gu_s hf
      refine k_iald (pc := 23) (n := 24) h rfl g8 dX10_softOf_23 ?_
      refine k_iconst (pc := 24) h dX10_softOf_24 kc_iconst_4 ?_
      obtain ⟨v9, s10, hj, hf⟩ := ob2_s hf
      have kj25 : sh_K G shM 55 [(0, .ref 0), (1, .int v1), (3, .int v4)] [.int v9, .int v3] s10 := by
        refine k_ior (pc := 55) h dX10_softOf_55 ?_
        obtain ⟨v16, ev16, hf⟩ := lb_s hf
        refine k_top ev16 ?_
        refine k_istore_n (pc := 56) h dX10_softOf_56 rfl (nk hL (by decide)) (lv' := [(0, .ref 0), (1, .int v1), (2, .int v16), (3, .int v4)]) rfl ?_
        obtain ⟨v17, ev17, hf⟩ := lb_s hf
        refine k_iinc (pc := 57) h dX10_softOf_57 3 rfl ((congrArg (_ + ·) kc_iconst_1).trans ev17.symm) (nk hL (by decide)) (lv' := [(0, .ref 0), (1, .int v1), (2, .int v16), (3, .int v17)]) rfl ?_
        refine k_goto (pc := 60) (tgt := 9) h dX10_softOf_60 rfl ?_
        obtain rfl := so1 hf
        exact k_drop [0, 1, 2, 3] rfl kc9
      clear hf
      have hf := hj
      clear hj
      refine k_icmp_eq (pc := 25) (tgt := 38) h dX10_softOf_25 rfl (fun hc => ?_) (fun hc => ?_)
      · have hf := it_p hc hf
        refine k_aload_n (pc := 38) h dX10_softOf_38 rfl 0 rfl ?_
        refine k_iload_n (pc := 39) h dX10_softOf_39 rfl 3 rfl ?_
        refine k_iconst (pc := 40) h dX10_softOf_40 kc_iconst_3 ?_
        obtain ⟨v11, s12, cv11, hf⟩ := ob2_s hf
        refine k_callV0 (pc := 41) h cv_RX10_280 (c_X10_errorsAs v4 (3 : Int32) s5 v11 s12 cv11) rfl rfl rfl (st1 := [.int v11, .int v3]) rfl ⟨rfl, rfl⟩ (rk hR (Nat.le_of_ble_eq_true rfl) (Nat.le_of_ble_eq_true rfl)) (Nat.le_of_ble_eq_true rfl) dX10_softOf_41 ?_
        refine k_iload_n (pc := 44) h dX10_softOf_44 rfl 1 rfl ?_
        refine k_icmp_gt (pc := 45) (tgt := 54) h dX10_softOf_45 rfl (fun hc => ?_) (fun hc => ?_)
        · have hf := it_p hc hf
          refine k_iconst (pc := 54) h dX10_softOf_54 kc_iconst_0 ?_
          obtain ⟨rfl, rfl⟩ := so2 hf
          exact k_drop [0, 1, 3] rfl kj25
        · have hf := it_n hc hf
          refine k_iconst (pc := 48) h dX10_softOf_48 kc_iconst_1 ?_
          refine k_iload_n (pc := 49) h dX10_softOf_49 rfl 3 rfl ?_
          refine k_ishl (pc := 50) h dX10_softOf_50 ?_
          refine k_goto (pc := 51) (tgt := 55) h dX10_softOf_51 rfl ?_
          obtain ⟨rfl, rfl⟩ := so2 hf
          exact k_drop [0, 1, 3] rfl kj25
      · have hf := it_n hc hf
        refine k_aload_n (pc := 28) h dX10_softOf_28 rfl 0 rfl ?_
        refine k_getR (pc := 29) h fl_RX10_7 rfl rfl dX10_softOf_29 ?_
        refine k_iload_n (pc := 32) h dX10_softOf_32 rfl 3 rfl ?_
        obtain ⟨g13, hf⟩ := gu_s hf
        refine k_iald (pc := 33) (n := 24) h rfl g13 dX10_softOf_33 ?_
        refine k_iconst (pc := 34) h dX10_softOf_34 kc_iconst_5 ?_
        refine k_icmp_ne (pc := 35) (tgt := 54) h dX10_softOf_35 rfl (fun hc => ?_) (fun hc => ?_)
        · have hf := it_n hc hf
          refine k_iconst (pc := 54) h dX10_softOf_54 kc_iconst_0 ?_
          obtain ⟨rfl, rfl⟩ := so2 hf
          exact k_drop [0, 1, 3] rfl kj25
        · have hf := it_p hc hf
          refine k_aload_n (pc := 38) h dX10_softOf_38 rfl 0 rfl ?_
          refine k_iload_n (pc := 39) h dX10_softOf_39 rfl 3 rfl ?_
          refine k_iconst (pc := 40) h dX10_softOf_40 kc_iconst_3 ?_
          obtain ⟨v14, s15, cv14, hf⟩ := ob2_s hf
          refine k_callV0 (pc := 41) h cv_RX10_280 (c_X10_errorsAs v4 (3 : Int32) s5 v14 s15 cv14) rfl rfl rfl (st1 := [.int v14, .int v3]) rfl ⟨rfl, rfl⟩ (rk hR (Nat.le_of_ble_eq_true rfl) (Nat.le_of_ble_eq_true rfl)) (Nat.le_of_ble_eq_true rfl) dX10_softOf_41 ?_
          refine k_iload_n (pc := 44) h dX10_softOf_44 rfl 1 rfl ?_
          refine k_icmp_gt (pc := 45) (tgt := 54) h dX10_softOf_45 rfl (fun hc => ?_) (fun hc => ?_)
          · have hf := it_p hc hf
            refine k_iconst (pc := 54) h dX10_softOf_54 kc_iconst_0 ?_
            obtain ⟨rfl, rfl⟩ := so2 hf
            exact k_drop [0, 1, 3] rfl kj25
          · have hf := it_n hc hf
            refine k_iconst (pc := 48) h dX10_softOf_48 kc_iconst_1 ?_
            refine k_iload_n (pc := 49) h dX10_softOf_49 rfl 3 rfl ?_
            refine k_ishl (pc := 50) h dX10_softOf_50 ?_
            refine k_goto (pc := 51) (tgt := 55) h dX10_softOf_51 rfl ?_
            obtain ⟨rfl, rfl⟩ := so2 hf
            exact k_drop [0, 1, 3] rfl kj25
  · refine k_iload_n (pc := 63) h dX10_softOf_63 rfl 0 rfl ?_
    obtain ⟨rfl, rfl⟩ := so2 hf
    exact hret 64 _ dX10_softOf_64 trivial
theorem dX10_soft_0 : decode cX10_soft 0 = .ok (.aload_n 0, 1) := by decide +kernel
theorem dX10_soft_1 : decode cX10_soft 1 = .ok (.invokevirtual 286, 3) := by decide +kernel
theorem dX10_soft_4 : decode cX10_soft 4 = .ok (.ireturn, 1) := by decide +kernel
def f_X10_soft  (s0 : sh_S) : Option (Int32 × sh_S) := ob2 (f_X10_softOf  s0) (fun v1 s2 => some (v1, s2))
set_option maxRecDepth 100000 in
set_option maxHeartbeats 4000000 in
theorem c_X10_soft  (s0 : sh_S) (r : Int32) (s9x : sh_S) (hf : f_X10_soft  s0 = some (r, s9x)) : Ctr yX10_soft cX10_soft 1 (some .int) ({ frames := 10, cells := 0, slots := 0, locals := 224 } : Room) shM [.ref 0] s0 (some (.int r)) s9x := by
  refine Ctr.mk (ri := .ireturn) (by decide) (Nat.le_of_ble_eq_true rfl) (Rt_i r) ?_
  intro G h hL hR hret
  refine k_drop (lv' := [(0, .ref 0)]) [0] rfl ?_
  unfold f_X10_soft at hf
  refine k_aload_n (pc := 0) h dX10_soft_0 rfl 0 rfl ?_
  obtain ⟨v1, s2, cv1, hf⟩ := ob2_s hf
  refine k_callV0 (pc := 1) h cv_RX10_286 (c_X10_softOf  s0 v1 s2 cv1) rfl rfl rfl (st1 := [.int v1]) rfl ⟨rfl, rfl⟩ (rk hR (Nat.le_of_ble_eq_true rfl) (Nat.le_of_ble_eq_true rfl)) (Nat.le_of_ble_eq_true rfl) dX10_soft_1 ?_
  obtain ⟨rfl, rfl⟩ := so2 hf
  exact hret 4 _ dX10_soft_4 trivial
theorem dX10_isOf_0 : decode cX10_isOf 0 = .ok (.iconst 0, 1) := by decide +kernel
theorem dX10_isOf_1 : decode cX10_isOf 1 = .ok (.istore_n 3, 1) := by decide +kernel
theorem dX10_isOf_2 : decode cX10_isOf 2 = .ok (.iload_n 2, 1) := by decide +kernel
theorem dX10_isOf_3 : decode cX10_isOf 3 = .ok (.istore 4, 2) := by decide +kernel
theorem dX10_isOf_5 : decode cX10_isOf 5 = .ok (.iload 4, 2) := by decide +kernel
theorem dX10_isOf_7 : decode cX10_isOf 7 = .ok (.iconst (-1), 1) := by decide +kernel
theorem dX10_isOf_8 : decode cX10_isOf 8 = .ok (.if_icmp .eq 31, 3) := by decide +kernel
theorem dX10_isOf_11 : decode cX10_isOf 11 = .ok (.iload_n 3, 1) := by decide +kernel
theorem dX10_isOf_12 : decode cX10_isOf 12 = .ok (.ifCond .ne 9, 3) := by decide +kernel
theorem dX10_isOf_15 : decode cX10_isOf 15 = .ok (.iload 4, 2) := by decide +kernel
theorem dX10_isOf_17 : decode cX10_isOf 17 = .ok (.iload_n 1, 1) := by decide +kernel
theorem dX10_isOf_18 : decode cX10_isOf 18 = .ok (.if_icmp .ne 7, 3) := by decide +kernel
theorem dX10_isOf_21 : decode cX10_isOf 21 = .ok (.iconst 1, 1) := by decide +kernel
theorem dX10_isOf_22 : decode cX10_isOf 22 = .ok (.goto 4, 3) := by decide +kernel
theorem dX10_isOf_25 : decode cX10_isOf 25 = .ok (.iconst 0, 1) := by decide +kernel
theorem dX10_isOf_26 : decode cX10_isOf 26 = .ok (.istore_n 3, 1) := by decide +kernel
theorem dX10_isOf_27 : decode cX10_isOf 27 = .ok (.aload_n 0, 1) := by decide +kernel
theorem dX10_isOf_28 : decode cX10_isOf 28 = .ok (.getfield 61, 3) := by decide +kernel
theorem dX10_isOf_31 : decode cX10_isOf 31 = .ok (.iload 4, 2) := by decide +kernel
theorem dX10_isOf_33 : decode cX10_isOf 33 = .ok (.iaload, 1) := by decide +kernel
theorem dX10_isOf_34 : decode cX10_isOf 34 = .ok (.istore 4, 2) := by decide +kernel
theorem dX10_isOf_36 : decode cX10_isOf 36 = .ok (.goto (-31), 3) := by decide +kernel
theorem dX10_isOf_39 : decode cX10_isOf 39 = .ok (.iload_n 3, 1) := by decide +kernel
theorem dX10_isOf_40 : decode cX10_isOf 40 = .ok (.ireturn, 1) := by decide +kernel
def f_X10_isOf_L5 (p1 : Int32) (s0 : sh_S) (v1 : Int32) (v2 : Int32) : Option ((Int32 × Int32) ⊕ (Int32)) := (if v2 = (-1 : Int32) then some (.inr v1) else ob (if v1 = 0 then (if v2 = p1 then some (1 : Int32) else some (0 : Int32)) else some (1 : Int32)) (fun v4 => gu (inb v2 301) (lb ((s0 18 (ix v2))) (fun v6 => some (.inl (v4, v6))))))
def f_X10_isOf (p1 : Int32) (p2 : Int32) (s0 : sh_S) : Option (Int32) := ob (lp (fun q => f_X10_isOf_L5 p1 s0 q.1 q.2) FU ((0 : Int32), p2)) (fun v3 => gu (v3 = 0 ∨ v3 = 1) (some v3))
set_option maxRecDepth 100000 in
set_option maxHeartbeats 4000000 in
theorem c_X10_isOf (p1 : Int32) (p2 : Int32) (s0 : sh_S) (r : Int32) (hf : f_X10_isOf p1 p2 s0 = some r) : Ctr yX10_isOf cX10_isOf 5 (some .boolean) ({ frames := 0, cells := 0, slots := 0, locals := 0 } : Room) shM [.ref 0, .int p1, .int p2] s0 (some (.int r)) s0 := by
  refine Ctr.mk (ri := .ireturn) (by decide) (Nat.le_of_ble_eq_true rfl) (Rt_z r) ?_
  intro G h hL hR hret
  refine k_drop (lv' := [(0, .ref 0), (1, .int p1), (2, .int p2)]) [0, 1, 2] rfl ?_
  unfold f_X10_isOf at hf
  refine k_iconst (pc := 0) h dX10_isOf_0 kc_iconst_0 ?_
  refine k_istore_n (pc := 1) h dX10_isOf_1 rfl (nk hL (by decide)) (lv' := [(0, .ref 0), (1, .int p1), (2, .int p2), (3, .int (0 : Int32))]) rfl ?_
  refine k_iload_n (pc := 2) h dX10_isOf_2 rfl 2 rfl ?_
  refine k_istore (pc := 3) h dX10_isOf_3 (nk hL (by decide)) (lv' := [(0, .ref 0), (1, .int p1), (2, .int p2), (3, .int (0 : Int32)), (4, .int p2)]) rfl ?_
  obtain ⟨v3, hl, hf⟩ := ob_s hf
  refine k_drop (lv' := [(0, .ref 0), (1, .int p1), (3, .int (0 : Int32)), (4, .int p2)]) [0, 1, 3, 4] rfl ?_
  refine lp_s (P := (fun q : Int32 × Int32 => sh_K G shM 5 [(0, .ref 0), (1, .int p1), (3, .int q.1), (4, .int q.2)] [] s0)) (Q := (fun q : Int32 => sh_K G shM 39 [(3, .int q)] [] s0)) (s := ((0 : Int32), p2)) ?_ hl ?_
  · clear hf hl
    intro q rr hf kc5
    obtain ⟨v1, v2⟩ := q
    have hf : f_X10_isOf_L5 p1 s0 v1 v2 = some rr := hf
    unfold f_X10_isOf_L5 at hf
    refine k_iload (pc := 5) h dX10_isOf_5 3 rfl ?_
    refine k_iconst (pc := 7) h dX10_isOf_7 kc_iconst_m1 ?_
    refine k_icmp_eq (pc := 8) (tgt := 39) h dX10_isOf_8 rfl (fun hc => ?_) (fun hc => ?_)
    · have hf := it_p hc hf
      obtain rfl := so1 hf
      exact k_drop [2] rfl kc5
    · have hf := it_n hc hf
      refine k_iload_n (pc := 11) h dX10_isOf_11 rfl 2 rfl ?_
      obtain ⟨v4, hj, hf⟩ := ob_s hf
      have kj12 : sh_K G shM 26 [(0, .ref 0), (1, .int p1), (4, .int v2)] [.int v4] s0 := by
        refine k_istore_n (pc := 26) h dX10_isOf_26 rfl (nk hL (by decide)) (lv' := [(0, .ref 0), (1, .int p1), (3, .int v4), (4, .int v2)]) rfl ?_
        refine k_aload_n (pc := 27) h dX10_isOf_27 rfl 0 rfl ?_
        refine k_getR (pc := 28) h fl_RX10_61 rfl rfl dX10_isOf_28 ?_
        refine k_iload (pc := 31) h dX10_isOf_31 3 rfl ?_
        obtain ⟨g5, hf⟩ := gu_s hf
        refine k_iald (pc := 33) (n := 301) h rfl g5 dX10_isOf_33 ?_
        obtain ⟨v6, ev6, hf⟩ := lb_s hf
        refine k_top ev6 ?_
        refine k_istore (pc := 34) h dX10_isOf_34 (nk hL (by decide)) (lv' := [(0, .ref 0), (1, .int p1), (3, .int v4), (4, .int v6)]) rfl ?_
        refine k_goto (pc := 36) (tgt := 5) h dX10_isOf_36 rfl ?_
        obtain rfl := so1 hf
        exact k_drop [0, 1, 2, 3] rfl kc5
      clear hf
      have hf := hj
      clear hj
      refine k_if_ne (pc := 12) (tgt := 21) h dX10_isOf_12 rfl (fun hc => ?_) (fun hc => ?_)
      · have hf := it_n hc hf
        refine k_iconst (pc := 21) h dX10_isOf_21 kc_iconst_1 ?_
        refine k_goto (pc := 22) (tgt := 26) h dX10_isOf_22 rfl ?_
        obtain rfl := so1 hf
        exact k_drop [0, 1, 3] rfl kj12
      · have hf := it_p hc hf
        refine k_iload (pc := 15) h dX10_isOf_15 3 rfl ?_
        refine k_iload_n (pc := 17) h dX10_isOf_17 rfl 1 rfl ?_
        refine k_icmp_ne (pc := 18) (tgt := 25) h dX10_isOf_18 rfl (fun hc => ?_) (fun hc => ?_)
        · have hf := it_n hc hf
          refine k_iconst (pc := 25) h dX10_isOf_25 kc_iconst_0 ?_
          obtain rfl := so1 hf
          exact k_drop [0, 1, 3] rfl kj12
        · have hf := it_p hc hf
          refine k_iconst (pc := 21) h dX10_isOf_21 kc_iconst_1 ?_
          refine k_goto (pc := 22) (tgt := 26) h dX10_isOf_22 rfl ?_
          obtain rfl := so1 hf
          exact k_drop [0, 1, 3] rfl kj12
  · refine k_iload_n (pc := 39) h dX10_isOf_39 rfl 0 rfl ?_
    obtain ⟨g7, hf⟩ := gu_s hf
    obtain rfl := so1 hf
    exact hret 40 _ dX10_isOf_40 g7
theorem dX10_accesses_0 : decode cX10_accesses 0 = .ok (.iconst 0, 1) := by decide +kernel
theorem dX10_accesses_1 : decode cX10_accesses 1 = .ok (.istore 5, 2) := by decide +kernel
theorem dX10_accesses_3 : decode cX10_accesses 3 = .ok (.iload 5, 2) := by decide +kernel
theorem dX10_accesses_5 : decode cX10_accesses 5 = .ok (.aload_n 0, 1) := by decide +kernel
theorem dX10_accesses_6 : decode cX10_accesses 6 = .ok (.getfield 289, 3) := by decide +kernel
theorem dX10_accesses_9 : decode cX10_accesses 9 = .ok (.if_icmp .ge 135, 3) := by decide +kernel
theorem dX10_accesses_12 : decode cX10_accesses 12 = .ok (.aload_n 0, 1) := by decide +kernel
theorem dX10_accesses_13 : decode cX10_accesses 13 = .ok (.getfield 55, 3) := by decide +kernel
theorem dX10_accesses_16 : decode cX10_accesses 16 = .ok (.iload 5, 2) := by decide +kernel
theorem dX10_accesses_18 : decode cX10_accesses 18 = .ok (.iaload, 1) := by decide +kernel
theorem dX10_accesses_19 : decode cX10_accesses 19 = .ok (.iload_n 1, 1) := by decide +kernel
theorem dX10_accesses_20 : decode cX10_accesses 20 = .ok (.if_icmp .ne 32, 3) := by decide +kernel
theorem dX10_accesses_23 : decode cX10_accesses 23 = .ok (.iload_n 2, 1) := by decide +kernel
theorem dX10_accesses_24 : decode cX10_accesses 24 = .ok (.ifCond .eq 24, 3) := by decide +kernel
theorem dX10_accesses_27 : decode cX10_accesses 27 = .ok (.aload_n 0, 1) := by decide +kernel
theorem dX10_accesses_28 : decode cX10_accesses 28 = .ok (.getfield 58, 3) := by decide +kernel
theorem dX10_accesses_31 : decode cX10_accesses 31 = .ok (.iload 5, 2) := by decide +kernel
theorem dX10_accesses_33 : decode cX10_accesses 33 = .ok (.iaload, 1) := by decide +kernel
theorem dX10_accesses_34 : decode cX10_accesses 34 = .ok (.ifCond .eq 14, 3) := by decide +kernel
theorem dX10_accesses_37 : decode cX10_accesses 37 = .ok (.iload_n 2, 1) := by decide +kernel
theorem dX10_accesses_38 : decode cX10_accesses 38 = .ok (.aload_n 0, 1) := by decide +kernel
theorem dX10_accesses_39 : decode cX10_accesses 39 = .ok (.getfield 58, 3) := by decide +kernel
theorem dX10_accesses_42 : decode cX10_accesses 42 = .ok (.iload 5, 2) := by decide +kernel
theorem dX10_accesses_44 : decode cX10_accesses 44 = .ok (.iaload, 1) := by decide +kernel
theorem dX10_accesses_45 : decode cX10_accesses 45 = .ok (.if_icmp .ne 7, 3) := by decide +kernel
theorem dX10_accesses_48 : decode cX10_accesses 48 = .ok (.iconst 1, 1) := by decide +kernel
theorem dX10_accesses_49 : decode cX10_accesses 49 = .ok (.goto 4, 3) := by decide +kernel
theorem dX10_accesses_52 : decode cX10_accesses 52 = .ok (.iconst 0, 1) := by decide +kernel
theorem dX10_accesses_53 : decode cX10_accesses 53 = .ok (.istore 6, 2) := by decide +kernel
theorem dX10_accesses_55 : decode cX10_accesses 55 = .ok (.iload_n 3, 1) := by decide +kernel
theorem dX10_accesses_56 : decode cX10_accesses 56 = .ok (.ifCond .ne 36, 3) := by decide +kernel
theorem dX10_accesses_59 : decode cX10_accesses 59 = .ok (.aload_n 0, 1) := by decide +kernel
theorem dX10_accesses_60 : decode cX10_accesses 60 = .ok (.getfield 52, 3) := by decide +kernel
theorem dX10_accesses_63 : decode cX10_accesses 63 = .ok (.iload 5, 2) := by decide +kernel
theorem dX10_accesses_65 : decode cX10_accesses 65 = .ok (.iaload, 1) := by decide +kernel
theorem dX10_accesses_66 : decode cX10_accesses 66 = .ok (.iconst 4, 1) := by decide +kernel
theorem dX10_accesses_67 : decode cX10_accesses 67 = .ok (.if_icmp .eq 25, 3) := by decide +kernel
theorem dX10_accesses_70 : decode cX10_accesses 70 = .ok (.aload_n 0, 1) := by decide +kernel
theorem dX10_accesses_71 : decode cX10_accesses 71 = .ok (.getfield 52, 3) := by decide +kernel
theorem dX10_accesses_74 : decode cX10_accesses 74 = .ok (.iload 5, 2) := by decide +kernel
theorem dX10_accesses_76 : decode cX10_accesses 76 = .ok (.iaload, 1) := by decide +kernel
theorem dX10_accesses_77 : decode cX10_accesses 77 = .ok (.iconst 5, 1) := by decide +kernel
theorem dX10_accesses_78 : decode cX10_accesses 78 = .ok (.if_icmp .ne 18, 3) := by decide +kernel
theorem dX10_accesses_81 : decode cX10_accesses 81 = .ok (.aload_n 0, 1) := by decide +kernel
theorem dX10_accesses_82 : decode cX10_accesses 82 = .ok (.getfield 67, 3) := by decide +kernel
theorem dX10_accesses_85 : decode cX10_accesses 85 = .ok (.iload 5, 2) := by decide +kernel
theorem dX10_accesses_87 : decode cX10_accesses 87 = .ok (.iaload, 1) := by decide +kernel
theorem dX10_accesses_88 : decode cX10_accesses 88 = .ok (.iconst 1, 1) := by decide +kernel
theorem dX10_accesses_89 : decode cX10_accesses 89 = .ok (.if_icmp .ne 7, 3) := by decide +kernel
theorem dX10_accesses_92 : decode cX10_accesses 92 = .ok (.iconst 1, 1) := by decide +kernel
theorem dX10_accesses_93 : decode cX10_accesses 93 = .ok (.goto 4, 3) := by decide +kernel
theorem dX10_accesses_96 : decode cX10_accesses 96 = .ok (.iconst 0, 1) := by decide +kernel
theorem dX10_accesses_97 : decode cX10_accesses 97 = .ok (.istore 7, 2) := by decide +kernel
theorem dX10_accesses_99 : decode cX10_accesses 99 = .ok (.aload_n 0, 1) := by decide +kernel
theorem dX10_accesses_100 : decode cX10_accesses 100 = .ok (.getfield 64, 3) := by decide +kernel
theorem dX10_accesses_103 : decode cX10_accesses 103 = .ok (.iload 5, 2) := by decide +kernel
theorem dX10_accesses_105 : decode cX10_accesses 105 = .ok (.iload 6, 2) := by decide +kernel
theorem dX10_accesses_107 : decode cX10_accesses 107 = .ok (.ifCond .eq 23, 3) := by decide +kernel
theorem dX10_accesses_110 : decode cX10_accesses 110 = .ok (.iload 7, 2) := by decide +kernel
theorem dX10_accesses_112 : decode cX10_accesses 112 = .ok (.ifCond .eq 18, 3) := by decide +kernel
theorem dX10_accesses_115 : decode cX10_accesses 115 = .ok (.aload_n 0, 1) := by decide +kernel
theorem dX10_accesses_116 : decode cX10_accesses 116 = .ok (.iload 5, 2) := by decide +kernel
theorem dX10_accesses_118 : decode cX10_accesses 118 = .ok (.iload 4, 2) := by decide +kernel
theorem dX10_accesses_120 : decode cX10_accesses 120 = .ok (.invokevirtual 292, 3) := by decide +kernel
theorem dX10_accesses_123 : decode cX10_accesses 123 = .ok (.ifCond .ne 7, 3) := by decide +kernel
theorem dX10_accesses_126 : decode cX10_accesses 126 = .ok (.iconst 0, 1) := by decide +kernel
theorem dX10_accesses_127 : decode cX10_accesses 127 = .ok (.goto 10, 3) := by decide +kernel
theorem dX10_accesses_130 : decode cX10_accesses 130 = .ok (.aload_n 0, 1) := by decide +kernel
theorem dX10_accesses_131 : decode cX10_accesses 131 = .ok (.getfield 64, 3) := by decide +kernel
theorem dX10_accesses_134 : decode cX10_accesses 134 = .ok (.iload 5, 2) := by decide +kernel
theorem dX10_accesses_136 : decode cX10_accesses 136 = .ok (.iaload, 1) := by decide +kernel
theorem dX10_accesses_137 : decode cX10_accesses 137 = .ok (.iastore, 1) := by decide +kernel
theorem dX10_accesses_138 : decode cX10_accesses 138 = .ok (.iinc 5 1, 3) := by decide +kernel
theorem dX10_accesses_141 : decode cX10_accesses 141 = .ok (.goto (-138), 3) := by decide +kernel
theorem dX10_accesses_144 : decode cX10_accesses 144 = .ok (.return_, 1) := by decide +kernel
def f_X10_accesses_L3 (p1 : Int32) (p2 : Int32) (p3 : Int32) (p4 : Int32) (v1 : Int32) (s2 : sh_S) : Option ((Int32 × sh_S) ⊕ (sh_S)) := (if (s2 0 19) ≤ v1 then some (.inr s2) else gu (inb v1 301) (ob (if (s2 16 (ix v1)) = p1 then (if p2 = 0 then some (1 : Int32) else gu (inb v1 301) ((if (s2 17 (ix v1)) = 0 then some (1 : Int32) else gu (inb v1 301) ((if p2 = (s2 17 (ix v1)) then some (1 : Int32) else some (0 : Int32)))))) else some (0 : Int32)) (fun v5 => ob (if p3 = 0 then gu (inb v1 301) ((if (s2 15 (ix v1)) = (4 : Int32) then some (1 : Int32) else gu (inb v1 301) ((if (s2 15 (ix v1)) = (5 : Int32) then gu (inb v1 301) ((if (s2 20 (ix v1)) = (1 : Int32) then some (1 : Int32) else some (0 : Int32))) else some (0 : Int32))))) else some (1 : Int32)) (fun v8 => ob (if v5 = 0 then gu (inb v1 301) (some (s2 19 (ix v1))) else (if v8 = 0 then gu (inb v1 301) (some (s2 19 (ix v1))) else ob (f_X10_isOf v1 p4 s2) (fun v15 => (if v15 = 0 then some (0 : Int32) else gu (inb v1 301) (some (s2 19 (ix v1))))))) (fun v12 => gu (inb v1 301) (lb (ur s2 19 (upd (s2 19) (ix v1) v12)) (fun s18 => lb (v1 + (1 : Int32)) (fun v19 => some (.inl (v19, s18))))))))))
def f_X10_accesses (p1 : Int32) (p2 : Int32) (p3 : Int32) (p4 : Int32) (s0 : sh_S) : Option (sh_S) := ob (lp (fun q => f_X10_accesses_L3 p1 p2 p3 p4 q.1 q.2) FU ((0 : Int32), s0)) (fun s3 => some s3)
set_option maxRecDepth 100000 in
set_option maxHeartbeats 4000000 in
theorem c_X10_accesses (p1 : Int32) (p2 : Int32) (p3 : Int32) (p4 : Int32) (s0 : sh_S) (s9x : sh_S) (hf : f_X10_accesses p1 p2 p3 p4 s0 = some s9x) : Ctr yX10_accesses cX10_accesses 8 none ({ frames := 1, cells := 0, slots := 0, locals := 24 } : Room) shM [.ref 0, .int p1, .int p2, .int p3, .int p4] s0 none s9x := by
  refine Ctr.mk (ri := .return_) (by decide) (Nat.le_of_ble_eq_true rfl) (Rt_v) ?_
  intro G h hL hR hret
  refine k_drop (lv' := [(0, .ref 0), (1, .int p1), (2, .int p2), (3, .int p3), (4, .int p4)]) [0, 1, 2, 3, 4] rfl ?_
  unfold f_X10_accesses at hf
  refine k_iconst (pc := 0) h dX10_accesses_0 kc_iconst_0 ?_
  refine k_istore (pc := 1) h dX10_accesses_1 (nk hL (by decide)) (lv' := [(0, .ref 0), (1, .int p1), (2, .int p2), (3, .int p3), (4, .int p4), (5, .int (0 : Int32))]) rfl ?_
  obtain ⟨s3, hl, hf⟩ := ob_s hf
  refine k_drop (lv' := [(0, .ref 0), (1, .int p1), (2, .int p2), (3, .int p3), (4, .int p4), (5, .int (0 : Int32))]) [0, 1, 2, 3, 4, 5] rfl ?_
  refine lp_s (P := (fun q : Int32 × sh_S => sh_K G shM 3 [(0, .ref 0), (1, .int p1), (2, .int p2), (3, .int p3), (4, .int p4), (5, .int q.1)] [] q.2)) (Q := (fun q : sh_S => sh_K G shM 144 [] [] q)) (s := ((0 : Int32), s0)) ?_ hl ?_
  · clear hf hl
    intro q rr hf kc3
    obtain ⟨v1, s2⟩ := q
    have hf : f_X10_accesses_L3 p1 p2 p3 p4 v1 s2 = some rr := hf
    unfold f_X10_accesses_L3 at hf
    refine k_iload (pc := 3) h dX10_accesses_3 5 rfl ?_
    refine k_aload_n (pc := 5) h dX10_accesses_5 rfl 0 rfl ?_
    refine k_getI (pc := 6) h fl_RX10_289 rfl rfl dX10_accesses_6 ?_
    refine k_icmp_ge (pc := 9) (tgt := 144) h dX10_accesses_9 rfl (fun hc => ?_) (fun hc => ?_)
    · have hf := it_p hc hf
      obtain rfl := so1 hf
      exact k_drop [] rfl kc3
    · have hf := it_n hc hf
      refine k_aload_n (pc := 12) h dX10_accesses_12 rfl 0 rfl ?_
      refine k_getR (pc := 13) h fl_RX10_55 rfl rfl dX10_accesses_13 ?_
      refine k_iload (pc := 16) h dX10_accesses_16 5 rfl ?_
      obtain ⟨g4, hf⟩ := gu_s hf
      refine k_iald (pc := 18) (n := 301) h rfl g4 dX10_accesses_18 ?_
      refine k_iload_n (pc := 19) h dX10_accesses_19 rfl 1 rfl ?_
      obtain ⟨v5, hj, hf⟩ := ob_s hf
      have kj20 : sh_K G shM 53 [(0, .ref 0), (1, .int p1), (2, .int p2), (3, .int p3), (4, .int p4), (5, .int v1)] [.int v5] s2 := by
        refine k_istore (pc := 53) h dX10_accesses_53 (nk hL (by decide)) (lv' := [(0, .ref 0), (1, .int p1), (2, .int p2), (3, .int p3), (4, .int p4), (5, .int v1), (6, .int v5)]) rfl ?_
        refine k_iload_n (pc := 55) h dX10_accesses_55 rfl 3 rfl ?_
        obtain ⟨v8, hj, hf⟩ := ob_s hf
        have kj56 : sh_K G shM 97 [(0, .ref 0), (1, .int p1), (2, .int p2), (3, .int p3), (4, .int p4), (5, .int v1), (6, .int v5)] [.int v8] s2 := by
          refine k_istore (pc := 97) h dX10_accesses_97 (nk hL (by decide)) (lv' := [(0, .ref 0), (1, .int p1), (2, .int p2), (3, .int p3), (4, .int p4), (5, .int v1), (6, .int v5), (7, .int v8)]) rfl ?_
          refine k_aload_n (pc := 99) h dX10_accesses_99 rfl 0 rfl ?_
          refine k_getR (pc := 100) h fl_RX10_64 rfl rfl dX10_accesses_100 ?_
          refine k_iload (pc := 103) h dX10_accesses_103 5 rfl ?_
          refine k_iload (pc := 105) h dX10_accesses_105 6 rfl ?_
          obtain ⟨v12, hj, hf⟩ := ob_s hf
          have kj107 : sh_K G shM 137 [(0, .ref 0), (1, .int p1), (2, .int p2), (3, .int p3), (4, .int p4), (5, .int v1)] [.int v12, .int v1, .ref 19] s2 := by
            obtain ⟨g17, hf⟩ := gu_s hf
            obtain ⟨s18, es18, hf⟩ := lb_s hf
            refine k_iast (pc := 137) (n := 301) h rfl g17 dX10_accesses_137 ?_
            refine k_heap es18 ?_
            obtain ⟨v19, ev19, hf⟩ := lb_s hf
            refine k_iinc (pc := 138) h dX10_accesses_138 5 rfl ((congrArg (_ + ·) kc_iconst_1).trans ev19.symm) (nk hL (by decide)) (lv' := [(0, .ref 0), (1, .int p1), (2, .int p2), (3, .int p3), (4, .int p4), (5, .int v19)]) rfl ?_
            refine k_goto (pc := 141) (tgt := 3) h dX10_accesses_141 rfl ?_
            obtain rfl := so1 hf
            exact k_drop [0, 1, 2, 3, 4, 5] rfl kc3
          clear hf
          have hf := hj
          clear hj
          refine k_if_eq (pc := 107) (tgt := 130) h dX10_accesses_107 rfl (fun hc => ?_) (fun hc => ?_)
          · have hf := it_p hc hf
            refine k_aload_n (pc := 130) h dX10_accesses_130 rfl 0 rfl ?_
            refine k_getR (pc := 131) h fl_RX10_64 rfl rfl dX10_accesses_131 ?_
            refine k_iload (pc := 134) h dX10_accesses_134 5 rfl ?_
            obtain ⟨g13, hf⟩ := gu_s hf
            refine k_iald (pc := 136) (n := 301) h rfl g13 dX10_accesses_136 ?_
            obtain rfl := so1 hf
            exact k_drop [0, 1, 2, 3, 4, 5] rfl kj107
          · have hf := it_n hc hf
            refine k_iload (pc := 110) h dX10_accesses_110 7 rfl ?_
            refine k_if_eq (pc := 112) (tgt := 130) h dX10_accesses_112 rfl (fun hc => ?_) (fun hc => ?_)
            · have hf := it_p hc hf
              refine k_aload_n (pc := 130) h dX10_accesses_130 rfl 0 rfl ?_
              refine k_getR (pc := 131) h fl_RX10_64 rfl rfl dX10_accesses_131 ?_
              refine k_iload (pc := 134) h dX10_accesses_134 5 rfl ?_
              obtain ⟨g14, hf⟩ := gu_s hf
              refine k_iald (pc := 136) (n := 301) h rfl g14 dX10_accesses_136 ?_
              obtain rfl := so1 hf
              exact k_drop [0, 1, 2, 3, 4, 5] rfl kj107
            · have hf := it_n hc hf
              refine k_aload_n (pc := 115) h dX10_accesses_115 rfl 0 rfl ?_
              refine k_iload (pc := 116) h dX10_accesses_116 5 rfl ?_
              refine k_iload (pc := 118) h dX10_accesses_118 4 rfl ?_
              obtain ⟨v15, cv15, hf⟩ := ob_s hf
              refine k_callV0 (pc := 120) h cv_RX10_292 (c_X10_isOf v1 p4 s2 v15 cv15) rfl rfl rfl (st1 := [.int v15, .int v1, .ref 19]) rfl ⟨rfl, rfl⟩ (rk hR (Nat.le_of_ble_eq_true rfl) (Nat.le_of_ble_eq_true rfl)) (Nat.le_of_ble_eq_true rfl) dX10_accesses_120 ?_
              refine k_if_ne (pc := 123) (tgt := 130) h dX10_accesses_123 rfl (fun hc => ?_) (fun hc => ?_)
              · have hf := it_n hc hf
                refine k_aload_n (pc := 130) h dX10_accesses_130 rfl 0 rfl ?_
                refine k_getR (pc := 131) h fl_RX10_64 rfl rfl dX10_accesses_131 ?_
                refine k_iload (pc := 134) h dX10_accesses_134 5 rfl ?_
                obtain ⟨g16, hf⟩ := gu_s hf
                refine k_iald (pc := 136) (n := 301) h rfl g16 dX10_accesses_136 ?_
                obtain rfl := so1 hf
                exact k_drop [0, 1, 2, 3, 4, 5] rfl kj107
              · have hf := it_p hc hf
                refine k_iconst (pc := 126) h dX10_accesses_126 kc_iconst_0 ?_
                refine k_goto (pc := 127) (tgt := 137) h dX10_accesses_127 rfl ?_
                obtain rfl := so1 hf
                exact k_drop [0, 1, 2, 3, 4, 5] rfl kj107
        clear hf
        have hf := hj
        clear hj
        refine k_if_ne (pc := 56) (tgt := 92) h dX10_accesses_56 rfl (fun hc => ?_) (fun hc => ?_)
        · have hf := it_n hc hf
          refine k_iconst (pc := 92) h dX10_accesses_92 kc_iconst_1 ?_
          refine k_goto (pc := 93) (tgt := 97) h dX10_accesses_93 rfl ?_
          obtain rfl := so1 hf
          exact k_drop [0, 1, 2, 3, 4, 5, 6] rfl kj56
        · have hf := it_p hc hf
          refine k_aload_n (pc := 59) h dX10_accesses_59 rfl 0 rfl ?_
          refine k_getR (pc := 60) h fl_RX10_52 rfl rfl dX10_accesses_60 ?_
          refine k_iload (pc := 63) h dX10_accesses_63 5 rfl ?_
          obtain ⟨g9, hf⟩ := gu_s hf
          refine k_iald (pc := 65) (n := 301) h rfl g9 dX10_accesses_65 ?_
          refine k_iconst (pc := 66) h dX10_accesses_66 kc_iconst_4 ?_
          refine k_icmp_eq (pc := 67) (tgt := 92) h dX10_accesses_67 rfl (fun hc => ?_) (fun hc => ?_)
          · have hf := it_p hc hf
            refine k_iconst (pc := 92) h dX10_accesses_92 kc_iconst_1 ?_
            refine k_goto (pc := 93) (tgt := 97) h dX10_accesses_93 rfl ?_
            obtain rfl := so1 hf
            exact k_drop [0, 1, 2, 3, 4, 5, 6] rfl kj56
          · have hf := it_n hc hf
            refine k_aload_n (pc := 70) h dX10_accesses_70 rfl 0 rfl ?_
            refine k_getR (pc := 71) h fl_RX10_52 rfl rfl dX10_accesses_71 ?_
            refine k_iload (pc := 74) h dX10_accesses_74 5 rfl ?_
            obtain ⟨g10, hf⟩ := gu_s hf
            refine k_iald (pc := 76) (n := 301) h rfl g10 dX10_accesses_76 ?_
            refine k_iconst (pc := 77) h dX10_accesses_77 kc_iconst_5 ?_
            refine k_icmp_ne (pc := 78) (tgt := 96) h dX10_accesses_78 rfl (fun hc => ?_) (fun hc => ?_)
            · have hf := it_n hc hf
              refine k_iconst (pc := 96) h dX10_accesses_96 kc_iconst_0 ?_
              obtain rfl := so1 hf
              exact k_drop [0, 1, 2, 3, 4, 5, 6] rfl kj56
            · have hf := it_p hc hf
              refine k_aload_n (pc := 81) h dX10_accesses_81 rfl 0 rfl ?_
              refine k_getR (pc := 82) h fl_RX10_67 rfl rfl dX10_accesses_82 ?_
              refine k_iload (pc := 85) h dX10_accesses_85 5 rfl ?_
              obtain ⟨g11, hf⟩ := gu_s hf
              refine k_iald (pc := 87) (n := 301) h rfl g11 dX10_accesses_87 ?_
              refine k_iconst (pc := 88) h dX10_accesses_88 kc_iconst_1 ?_
              refine k_icmp_ne (pc := 89) (tgt := 96) h dX10_accesses_89 rfl (fun hc => ?_) (fun hc => ?_)
              · have hf := it_n hc hf
                refine k_iconst (pc := 96) h dX10_accesses_96 kc_iconst_0 ?_
                obtain rfl := so1 hf
                exact k_drop [0, 1, 2, 3, 4, 5, 6] rfl kj56
              · have hf := it_p hc hf
                refine k_iconst (pc := 92) h dX10_accesses_92 kc_iconst_1 ?_
                refine k_goto (pc := 93) (tgt := 97) h dX10_accesses_93 rfl ?_
                obtain rfl := so1 hf
                exact k_drop [0, 1, 2, 3, 4, 5, 6] rfl kj56
      clear hf
      have hf := hj
      clear hj
      refine k_icmp_ne (pc := 20) (tgt := 52) h dX10_accesses_20 rfl (fun hc => ?_) (fun hc => ?_)
      · have hf := it_n hc hf
        refine k_iconst (pc := 52) h dX10_accesses_52 kc_iconst_0 ?_
        obtain rfl := so1 hf
        exact k_drop [0, 1, 2, 3, 4, 5] rfl kj20
      · have hf := it_p hc hf
        refine k_iload_n (pc := 23) h dX10_accesses_23 rfl 2 rfl ?_
        refine k_if_eq (pc := 24) (tgt := 48) h dX10_accesses_24 rfl (fun hc => ?_) (fun hc => ?_)
        · have hf := it_p hc hf
          refine k_iconst (pc := 48) h dX10_accesses_48 kc_iconst_1 ?_
          refine k_goto (pc := 49) (tgt := 53) h dX10_accesses_49 rfl ?_
          obtain rfl := so1 hf
          exact k_drop [0, 1, 2, 3, 4, 5] rfl kj20
        · have hf := it_n hc hf
          refine k_aload_n (pc := 27) h dX10_accesses_27 rfl 0 rfl ?_
          refine k_getR (pc := 28) h fl_RX10_58 rfl rfl dX10_accesses_28 ?_
          refine k_iload (pc := 31) h dX10_accesses_31 5 rfl ?_
          obtain ⟨g6, hf⟩ := gu_s hf
          refine k_iald (pc := 33) (n := 301) h rfl g6 dX10_accesses_33 ?_
          refine k_if_eq (pc := 34) (tgt := 48) h dX10_accesses_34 rfl (fun hc => ?_) (fun hc => ?_)
          · have hf := it_p hc hf
            refine k_iconst (pc := 48) h dX10_accesses_48 kc_iconst_1 ?_
            refine k_goto (pc := 49) (tgt := 53) h dX10_accesses_49 rfl ?_
            obtain rfl := so1 hf
            exact k_drop [0, 1, 2, 3, 4, 5] rfl kj20
          · have hf := it_n hc hf
            refine k_iload_n (pc := 37) h dX10_accesses_37 rfl 2 rfl ?_
            refine k_aload_n (pc := 38) h dX10_accesses_38 rfl 0 rfl ?_
            refine k_getR (pc := 39) h fl_RX10_58 rfl rfl dX10_accesses_39 ?_
            refine k_iload (pc := 42) h dX10_accesses_42 5 rfl ?_
            obtain ⟨g7, hf⟩ := gu_s hf
            refine k_iald (pc := 44) (n := 301) h rfl g7 dX10_accesses_44 ?_
            refine k_icmp_ne (pc := 45) (tgt := 52) h dX10_accesses_45 rfl (fun hc => ?_) (fun hc => ?_)
            · have hf := it_n hc hf
              refine k_iconst (pc := 52) h dX10_accesses_52 kc_iconst_0 ?_
              obtain rfl := so1 hf
              exact k_drop [0, 1, 2, 3, 4, 5] rfl kj20
            · have hf := it_p hc hf
              refine k_iconst (pc := 48) h dX10_accesses_48 kc_iconst_1 ?_
              refine k_goto (pc := 49) (tgt := 53) h dX10_accesses_49 rfl ?_
              obtain rfl := so1 hf
              exact k_drop [0, 1, 2, 3, 4, 5] rfl kj20
  · obtain rfl := so1 hf
    exact hret 144 _ dX10_accesses_144 trivial
theorem dX10_isStale_0 : decode cX10_isStale 0 = .ok (.iconst 0, 1) := by decide +kernel
theorem dX10_isStale_1 : decode cX10_isStale 1 = .ok (.istore_n 2, 1) := by decide +kernel
theorem dX10_isStale_2 : decode cX10_isStale 2 = .ok (.iload_n 1, 1) := by decide +kernel
theorem dX10_isStale_3 : decode cX10_isStale 3 = .ok (.istore_n 3, 1) := by decide +kernel
theorem dX10_isStale_4 : decode cX10_isStale 4 = .ok (.iload_n 3, 1) := by decide +kernel
theorem dX10_isStale_5 : decode cX10_isStale 5 = .ok (.iconst (-1), 1) := by decide +kernel
theorem dX10_isStale_6 : decode cX10_isStale 6 = .ok (.if_icmp .eq 32, 3) := by decide +kernel
theorem dX10_isStale_9 : decode cX10_isStale 9 = .ok (.iload_n 2, 1) := by decide +kernel
theorem dX10_isStale_10 : decode cX10_isStale 10 = .ok (.ifCond .ne 12, 3) := by decide +kernel
theorem dX10_isStale_13 : decode cX10_isStale 13 = .ok (.aload_n 0, 1) := by decide +kernel
theorem dX10_isStale_14 : decode cX10_isStale 14 = .ok (.getfield 64, 3) := by decide +kernel
theorem dX10_isStale_17 : decode cX10_isStale 17 = .ok (.iload_n 3, 1) := by decide +kernel
theorem dX10_isStale_18 : decode cX10_isStale 18 = .ok (.iaload, 1) := by decide +kernel
theorem dX10_isStale_19 : decode cX10_isStale 19 = .ok (.ifCond .ne 7, 3) := by decide +kernel
theorem dX10_isStale_22 : decode cX10_isStale 22 = .ok (.iconst 1, 1) := by decide +kernel
theorem dX10_isStale_23 : decode cX10_isStale 23 = .ok (.goto 4, 3) := by decide +kernel
theorem dX10_isStale_26 : decode cX10_isStale 26 = .ok (.iconst 0, 1) := by decide +kernel
theorem dX10_isStale_27 : decode cX10_isStale 27 = .ok (.istore_n 2, 1) := by decide +kernel
theorem dX10_isStale_28 : decode cX10_isStale 28 = .ok (.aload_n 0, 1) := by decide +kernel
theorem dX10_isStale_29 : decode cX10_isStale 29 = .ok (.getfield 61, 3) := by decide +kernel
theorem dX10_isStale_32 : decode cX10_isStale 32 = .ok (.iload_n 3, 1) := by decide +kernel
theorem dX10_isStale_33 : decode cX10_isStale 33 = .ok (.iaload, 1) := by decide +kernel
theorem dX10_isStale_34 : decode cX10_isStale 34 = .ok (.istore_n 3, 1) := by decide +kernel
theorem dX10_isStale_35 : decode cX10_isStale 35 = .ok (.goto (-31), 3) := by decide +kernel
theorem dX10_isStale_38 : decode cX10_isStale 38 = .ok (.iload_n 2, 1) := by decide +kernel
theorem dX10_isStale_39 : decode cX10_isStale 39 = .ok (.ireturn, 1) := by decide +kernel
def f_X10_isStale_L4 (s0 : sh_S) (v1 : Int32) (v2 : Int32) : Option ((Int32 × Int32) ⊕ (Int32)) := (if v2 = (-1 : Int32) then some (.inr v1) else ob (if v1 = 0 then gu (inb v2 301) ((if (s0 19 (ix v2)) = 0 then some (1 : Int32) else some (0 : Int32))) else some (1 : Int32)) (fun v4 => gu (inb v2 301) (lb ((s0 18 (ix v2))) (fun v7 => some (.inl (v4, v7))))))
def f_X10_isStale (p1 : Int32) (s0 : sh_S) : Option (Int32) := ob (lp (fun q => f_X10_isStale_L4 s0 q.1 q.2) FU ((0 : Int32), p1)) (fun v3 => gu (v3 = 0 ∨ v3 = 1) (some v3))
set_option maxRecDepth 100000 in
set_option maxHeartbeats 4000000 in
theorem c_X10_isStale (p1 : Int32) (s0 : sh_S) (r : Int32) (hf : f_X10_isStale p1 s0 = some r) : Ctr yX10_isStale cX10_isStale 4 (some .boolean) ({ frames := 0, cells := 0, slots := 0, locals := 0 } : Room) shM [.ref 0, .int p1] s0 (some (.int r)) s0 := by
  refine Ctr.mk (ri := .ireturn) (by decide) (Nat.le_of_ble_eq_true rfl) (Rt_z r) ?_
  intro G h hL hR hret
  refine k_drop (lv' := [(0, .ref 0), (1, .int p1)]) [0, 1] rfl ?_
  unfold f_X10_isStale at hf
  refine k_iconst (pc := 0) h dX10_isStale_0 kc_iconst_0 ?_
  refine k_istore_n (pc := 1) h dX10_isStale_1 rfl (nk hL (by decide)) (lv' := [(0, .ref 0), (1, .int p1), (2, .int (0 : Int32))]) rfl ?_
  refine k_iload_n (pc := 2) h dX10_isStale_2 rfl 1 rfl ?_
  refine k_istore_n (pc := 3) h dX10_isStale_3 rfl (nk hL (by decide)) (lv' := [(0, .ref 0), (1, .int p1), (2, .int (0 : Int32)), (3, .int p1)]) rfl ?_
  obtain ⟨v3, hl, hf⟩ := ob_s hf
  refine k_drop (lv' := [(0, .ref 0), (2, .int (0 : Int32)), (3, .int p1)]) [0, 2, 3] rfl ?_
  refine lp_s (P := (fun q : Int32 × Int32 => sh_K G shM 4 [(0, .ref 0), (2, .int q.1), (3, .int q.2)] [] s0)) (Q := (fun q : Int32 => sh_K G shM 38 [(2, .int q)] [] s0)) (s := ((0 : Int32), p1)) ?_ hl ?_
  · clear hf hl
    intro q rr hf kc4
    obtain ⟨v1, v2⟩ := q
    have hf : f_X10_isStale_L4 s0 v1 v2 = some rr := hf
    unfold f_X10_isStale_L4 at hf
    refine k_iload_n (pc := 4) h dX10_isStale_4 rfl 2 rfl ?_
    refine k_iconst (pc := 5) h dX10_isStale_5 kc_iconst_m1 ?_
    refine k_icmp_eq (pc := 6) (tgt := 38) h dX10_isStale_6 rfl (fun hc => ?_) (fun hc => ?_)
    · have hf := it_p hc hf
      obtain rfl := so1 hf
      exact k_drop [1] rfl kc4
    · have hf := it_n hc hf
      refine k_iload_n (pc := 9) h dX10_isStale_9 rfl 1 rfl ?_
      obtain ⟨v4, hj, hf⟩ := ob_s hf
      have kj10 : sh_K G shM 27 [(0, .ref 0), (3, .int v2)] [.int v4] s0 := by
        refine k_istore_n (pc := 27) h dX10_isStale_27 rfl (nk hL (by decide)) (lv' := [(0, .ref 0), (2, .int v4), (3, .int v2)]) rfl ?_
        refine k_aload_n (pc := 28) h dX10_isStale_28 rfl 0 rfl ?_
        refine k_getR (pc := 29) h fl_RX10_61 rfl rfl dX10_isStale_29 ?_
        refine k_iload_n (pc := 32) h dX10_isStale_32 rfl 2 rfl ?_
        obtain ⟨g6, hf⟩ := gu_s hf
        refine k_iald (pc := 33) (n := 301) h rfl g6 dX10_isStale_33 ?_
        obtain ⟨v7, ev7, hf⟩ := lb_s hf
        refine k_top ev7 ?_
        refine k_istore_n (pc := 34) h dX10_isStale_34 rfl (nk hL (by decide)) (lv' := [(0, .ref 0), (2, .int v4), (3, .int v7)]) rfl ?_
        refine k_goto (pc := 35) (tgt := 4) h dX10_isStale_35 rfl ?_
        obtain rfl := so1 hf
        exact k_drop [0, 1, 2] rfl kc4
      clear hf
      have hf := hj
      clear hj
      refine k_if_ne (pc := 10) (tgt := 22) h dX10_isStale_10 rfl (fun hc => ?_) (fun hc => ?_)
      · have hf := it_n hc hf
        refine k_iconst (pc := 22) h dX10_isStale_22 kc_iconst_1 ?_
        refine k_goto (pc := 23) (tgt := 27) h dX10_isStale_23 rfl ?_
        obtain rfl := so1 hf
        exact k_drop [0, 2] rfl kj10
      · have hf := it_p hc hf
        refine k_aload_n (pc := 13) h dX10_isStale_13 rfl 0 rfl ?_
        refine k_getR (pc := 14) h fl_RX10_64 rfl rfl dX10_isStale_14 ?_
        refine k_iload_n (pc := 17) h dX10_isStale_17 rfl 2 rfl ?_
        obtain ⟨g5, hf⟩ := gu_s hf
        refine k_iald (pc := 18) (n := 301) h rfl g5 dX10_isStale_18 ?_
        refine k_if_ne (pc := 19) (tgt := 26) h dX10_isStale_19 rfl (fun hc => ?_) (fun hc => ?_)
        · have hf := it_n hc hf
          refine k_iconst (pc := 26) h dX10_isStale_26 kc_iconst_0 ?_
          obtain rfl := so1 hf
          exact k_drop [0, 2] rfl kj10
        · have hf := it_p hc hf
          refine k_iconst (pc := 22) h dX10_isStale_22 kc_iconst_1 ?_
          refine k_goto (pc := 23) (tgt := 27) h dX10_isStale_23 rfl ?_
          obtain rfl := so1 hf
          exact k_drop [0, 2] rfl kj10
  · refine k_iload_n (pc := 38) h dX10_isStale_38 rfl 0 rfl ?_
    obtain ⟨g8, hf⟩ := gu_s hf
    obtain rfl := so1 hf
    exact hret 39 _ dX10_isStale_39 g8
theorem dX10_isShared_0 : decode cX10_isShared 0 = .ok (.iconst 0, 1) := by decide +kernel
theorem dX10_isShared_1 : decode cX10_isShared 1 = .ok (.istore_n 2, 1) := by decide +kernel
theorem dX10_isShared_2 : decode cX10_isShared 2 = .ok (.iload_n 1, 1) := by decide +kernel
theorem dX10_isShared_3 : decode cX10_isShared 3 = .ok (.istore_n 3, 1) := by decide +kernel
theorem dX10_isShared_4 : decode cX10_isShared 4 = .ok (.iload_n 3, 1) := by decide +kernel
theorem dX10_isShared_5 : decode cX10_isShared 5 = .ok (.iconst (-1), 1) := by decide +kernel
theorem dX10_isShared_6 : decode cX10_isShared 6 = .ok (.if_icmp .eq 33, 3) := by decide +kernel
theorem dX10_isShared_9 : decode cX10_isShared 9 = .ok (.iload_n 2, 1) := by decide +kernel
theorem dX10_isShared_10 : decode cX10_isShared 10 = .ok (.ifCond .ne 13, 3) := by decide +kernel
theorem dX10_isShared_13 : decode cX10_isShared 13 = .ok (.aload_n 0, 1) := by decide +kernel
theorem dX10_isShared_14 : decode cX10_isShared 14 = .ok (.getfield 52, 3) := by decide +kernel
theorem dX10_isShared_17 : decode cX10_isShared 17 = .ok (.iload_n 3, 1) := by decide +kernel
theorem dX10_isShared_18 : decode cX10_isShared 18 = .ok (.iaload, 1) := by decide +kernel
theorem dX10_isShared_19 : decode cX10_isShared 19 = .ok (.iconst 3, 1) := by decide +kernel
theorem dX10_isShared_20 : decode cX10_isShared 20 = .ok (.if_icmp .ne 7, 3) := by decide +kernel
theorem dX10_isShared_23 : decode cX10_isShared 23 = .ok (.iconst 1, 1) := by decide +kernel
theorem dX10_isShared_24 : decode cX10_isShared 24 = .ok (.goto 4, 3) := by decide +kernel
theorem dX10_isShared_27 : decode cX10_isShared 27 = .ok (.iconst 0, 1) := by decide +kernel
theorem dX10_isShared_28 : decode cX10_isShared 28 = .ok (.istore_n 2, 1) := by decide +kernel
theorem dX10_isShared_29 : decode cX10_isShared 29 = .ok (.aload_n 0, 1) := by decide +kernel
theorem dX10_isShared_30 : decode cX10_isShared 30 = .ok (.getfield 61, 3) := by decide +kernel
theorem dX10_isShared_33 : decode cX10_isShared 33 = .ok (.iload_n 3, 1) := by decide +kernel
theorem dX10_isShared_34 : decode cX10_isShared 34 = .ok (.iaload, 1) := by decide +kernel
theorem dX10_isShared_35 : decode cX10_isShared 35 = .ok (.istore_n 3, 1) := by decide +kernel
theorem dX10_isShared_36 : decode cX10_isShared 36 = .ok (.goto (-32), 3) := by decide +kernel
theorem dX10_isShared_39 : decode cX10_isShared 39 = .ok (.iload_n 2, 1) := by decide +kernel
theorem dX10_isShared_40 : decode cX10_isShared 40 = .ok (.ireturn, 1) := by decide +kernel
def f_X10_isShared_L4 (s0 : sh_S) (v1 : Int32) (v2 : Int32) : Option ((Int32 × Int32) ⊕ (Int32)) := (if v2 = (-1 : Int32) then some (.inr v1) else ob (if v1 = 0 then gu (inb v2 301) ((if (s0 15 (ix v2)) = (3 : Int32) then some (1 : Int32) else some (0 : Int32))) else some (1 : Int32)) (fun v4 => gu (inb v2 301) (lb ((s0 18 (ix v2))) (fun v7 => some (.inl (v4, v7))))))
def f_X10_isShared (p1 : Int32) (s0 : sh_S) : Option (Int32) := ob (lp (fun q => f_X10_isShared_L4 s0 q.1 q.2) FU ((0 : Int32), p1)) (fun v3 => gu (v3 = 0 ∨ v3 = 1) (some v3))
set_option maxRecDepth 100000 in
set_option maxHeartbeats 4000000 in
theorem c_X10_isShared (p1 : Int32) (s0 : sh_S) (r : Int32) (hf : f_X10_isShared p1 s0 = some r) : Ctr yX10_isShared cX10_isShared 4 (some .boolean) ({ frames := 0, cells := 0, slots := 0, locals := 0 } : Room) shM [.ref 0, .int p1] s0 (some (.int r)) s0 := by
  refine Ctr.mk (ri := .ireturn) (by decide) (Nat.le_of_ble_eq_true rfl) (Rt_z r) ?_
  intro G h hL hR hret
  refine k_drop (lv' := [(0, .ref 0), (1, .int p1)]) [0, 1] rfl ?_
  unfold f_X10_isShared at hf
  refine k_iconst (pc := 0) h dX10_isShared_0 kc_iconst_0 ?_
  refine k_istore_n (pc := 1) h dX10_isShared_1 rfl (nk hL (by decide)) (lv' := [(0, .ref 0), (1, .int p1), (2, .int (0 : Int32))]) rfl ?_
  refine k_iload_n (pc := 2) h dX10_isShared_2 rfl 1 rfl ?_
  refine k_istore_n (pc := 3) h dX10_isShared_3 rfl (nk hL (by decide)) (lv' := [(0, .ref 0), (1, .int p1), (2, .int (0 : Int32)), (3, .int p1)]) rfl ?_
  obtain ⟨v3, hl, hf⟩ := ob_s hf
  refine k_drop (lv' := [(0, .ref 0), (2, .int (0 : Int32)), (3, .int p1)]) [0, 2, 3] rfl ?_
  refine lp_s (P := (fun q : Int32 × Int32 => sh_K G shM 4 [(0, .ref 0), (2, .int q.1), (3, .int q.2)] [] s0)) (Q := (fun q : Int32 => sh_K G shM 39 [(2, .int q)] [] s0)) (s := ((0 : Int32), p1)) ?_ hl ?_
  · clear hf hl
    intro q rr hf kc4
    obtain ⟨v1, v2⟩ := q
    have hf : f_X10_isShared_L4 s0 v1 v2 = some rr := hf
    unfold f_X10_isShared_L4 at hf
    refine k_iload_n (pc := 4) h dX10_isShared_4 rfl 2 rfl ?_
    refine k_iconst (pc := 5) h dX10_isShared_5 kc_iconst_m1 ?_
    refine k_icmp_eq (pc := 6) (tgt := 39) h dX10_isShared_6 rfl (fun hc => ?_) (fun hc => ?_)
    · have hf := it_p hc hf
      obtain rfl := so1 hf
      exact k_drop [1] rfl kc4
    · have hf := it_n hc hf
      refine k_iload_n (pc := 9) h dX10_isShared_9 rfl 1 rfl ?_
      obtain ⟨v4, hj, hf⟩ := ob_s hf
      have kj10 : sh_K G shM 28 [(0, .ref 0), (3, .int v2)] [.int v4] s0 := by
        refine k_istore_n (pc := 28) h dX10_isShared_28 rfl (nk hL (by decide)) (lv' := [(0, .ref 0), (2, .int v4), (3, .int v2)]) rfl ?_
        refine k_aload_n (pc := 29) h dX10_isShared_29 rfl 0 rfl ?_
        refine k_getR (pc := 30) h fl_RX10_61 rfl rfl dX10_isShared_30 ?_
        refine k_iload_n (pc := 33) h dX10_isShared_33 rfl 2 rfl ?_
        obtain ⟨g6, hf⟩ := gu_s hf
        refine k_iald (pc := 34) (n := 301) h rfl g6 dX10_isShared_34 ?_
        obtain ⟨v7, ev7, hf⟩ := lb_s hf
        refine k_top ev7 ?_
        refine k_istore_n (pc := 35) h dX10_isShared_35 rfl (nk hL (by decide)) (lv' := [(0, .ref 0), (2, .int v4), (3, .int v7)]) rfl ?_
        refine k_goto (pc := 36) (tgt := 4) h dX10_isShared_36 rfl ?_
        obtain rfl := so1 hf
        exact k_drop [0, 1, 2] rfl kc4
      clear hf
      have hf := hj
      clear hj
      refine k_if_ne (pc := 10) (tgt := 23) h dX10_isShared_10 rfl (fun hc => ?_) (fun hc => ?_)
      · have hf := it_n hc hf
        refine k_iconst (pc := 23) h dX10_isShared_23 kc_iconst_1 ?_
        refine k_goto (pc := 24) (tgt := 28) h dX10_isShared_24 rfl ?_
        obtain rfl := so1 hf
        exact k_drop [0, 2] rfl kj10
      · have hf := it_p hc hf
        refine k_aload_n (pc := 13) h dX10_isShared_13 rfl 0 rfl ?_
        refine k_getR (pc := 14) h fl_RX10_52 rfl rfl dX10_isShared_14 ?_
        refine k_iload_n (pc := 17) h dX10_isShared_17 rfl 2 rfl ?_
        obtain ⟨g5, hf⟩ := gu_s hf
        refine k_iald (pc := 18) (n := 301) h rfl g5 dX10_isShared_18 ?_
        refine k_iconst (pc := 19) h dX10_isShared_19 kc_iconst_3 ?_
        refine k_icmp_ne (pc := 20) (tgt := 27) h dX10_isShared_20 rfl (fun hc => ?_) (fun hc => ?_)
        · have hf := it_n hc hf
          refine k_iconst (pc := 27) h dX10_isShared_27 kc_iconst_0 ?_
          obtain rfl := so1 hf
          exact k_drop [0, 2] rfl kj10
        · have hf := it_p hc hf
          refine k_iconst (pc := 23) h dX10_isShared_23 kc_iconst_1 ?_
          refine k_goto (pc := 24) (tgt := 28) h dX10_isShared_24 rfl ?_
          obtain rfl := so1 hf
          exact k_drop [0, 2] rfl kj10
  · refine k_iload_n (pc := 39) h dX10_isShared_39 rfl 0 rfl ?_
    obtain ⟨g8, hf⟩ := gu_s hf
    obtain rfl := so1 hf
    exact hret 40 _ dX10_isShared_40 g8
theorem dX10_whyBad_0 : decode cX10_whyBad 0 = .ok (.aload_n 0, 1) := by decide +kernel
theorem dX10_whyBad_1 : decode cX10_whyBad 1 = .ok (.getfield 70, 3) := by decide +kernel
theorem dX10_whyBad_4 : decode cX10_whyBad 4 = .ok (.aload_n 0, 1) := by decide +kernel
theorem dX10_whyBad_5 : decode cX10_whyBad 5 = .ok (.getfield 16, 3) := by decide +kernel
theorem dX10_whyBad_8 : decode cX10_whyBad 8 = .ok (.iload_n 1, 1) := by decide +kernel
theorem dX10_whyBad_9 : decode cX10_whyBad 9 = .ok (.iaload, 1) := by decide +kernel
theorem dX10_whyBad_10 : decode cX10_whyBad 10 = .ok (.invokestatic 128, 3) := by decide +kernel
theorem dX10_whyBad_13 : decode cX10_whyBad 13 = .ok (.iaload, 1) := by decide +kernel
theorem dX10_whyBad_14 : decode cX10_whyBad 14 = .ok (.istore_n 2, 1) := by decide +kernel
theorem dX10_whyBad_15 : decode cX10_whyBad 15 = .ok (.aload_n 0, 1) := by decide +kernel
theorem dX10_whyBad_16 : decode cX10_whyBad 16 = .ok (.iload_n 1, 1) := by decide +kernel
theorem dX10_whyBad_17 : decode cX10_whyBad 17 = .ok (.invokevirtual 171, 3) := by decide +kernel
theorem dX10_whyBad_20 : decode cX10_whyBad 20 = .ok (.iconst (-1), 1) := by decide +kernel
theorem dX10_whyBad_21 : decode cX10_whyBad 21 = .ok (.if_icmp .eq 54, 3) := by decide +kernel
theorem dX10_whyBad_24 : decode cX10_whyBad 24 = .ok (.aload_n 0, 1) := by decide +kernel
theorem dX10_whyBad_25 : decode cX10_whyBad 25 = .ok (.iload_n 1, 1) := by decide +kernel
theorem dX10_whyBad_26 : decode cX10_whyBad 26 = .ok (.invokevirtual 174, 3) := by decide +kernel
theorem dX10_whyBad_29 : decode cX10_whyBad 29 = .ok (.istore_n 3, 1) := by decide +kernel
theorem dX10_whyBad_30 : decode cX10_whyBad 30 = .ok (.iload_n 2, 1) := by decide +kernel
theorem dX10_whyBad_31 : decode cX10_whyBad 31 = .ok (.iconst (-1), 1) := by decide +kernel
theorem dX10_whyBad_32 : decode cX10_whyBad 32 = .ok (.if_icmp .ne 7, 3) := by decide +kernel
theorem dX10_whyBad_35 : decode cX10_whyBad 35 = .ok (.iconst 1, 1) := by decide +kernel
theorem dX10_whyBad_36 : decode cX10_whyBad 36 = .ok (.goto 38, 3) := by decide +kernel
theorem dX10_whyBad_39 : decode cX10_whyBad 39 = .ok (.aload_n 0, 1) := by decide +kernel
theorem dX10_whyBad_40 : decode cX10_whyBad 40 = .ok (.iload_n 2, 1) := by decide +kernel
theorem dX10_whyBad_41 : decode cX10_whyBad 41 = .ok (.invokevirtual 295, 3) := by decide +kernel
theorem dX10_whyBad_44 : decode cX10_whyBad 44 = .ok (.ifCond .eq 7, 3) := by decide +kernel
theorem dX10_whyBad_47 : decode cX10_whyBad 47 = .ok (.iconst 2, 1) := by decide +kernel
theorem dX10_whyBad_48 : decode cX10_whyBad 48 = .ok (.goto 26, 3) := by decide +kernel
theorem dX10_whyBad_51 : decode cX10_whyBad 51 = .ok (.iload_n 3, 1) := by decide +kernel
theorem dX10_whyBad_52 : decode cX10_whyBad 52 = .ok (.iconst 2, 1) := by decide +kernel
theorem dX10_whyBad_53 : decode cX10_whyBad 53 = .ok (.if_icmp .eq 8, 3) := by decide +kernel
theorem dX10_whyBad_56 : decode cX10_whyBad 56 = .ok (.iload_n 3, 1) := by decide +kernel
theorem dX10_whyBad_57 : decode cX10_whyBad 57 = .ok (.iconst 4, 1) := by decide +kernel
theorem dX10_whyBad_58 : decode cX10_whyBad 58 = .ok (.if_icmp .ne 15, 3) := by decide +kernel
theorem dX10_whyBad_61 : decode cX10_whyBad 61 = .ok (.aload_n 0, 1) := by decide +kernel
theorem dX10_whyBad_62 : decode cX10_whyBad 62 = .ok (.iload_n 2, 1) := by decide +kernel
theorem dX10_whyBad_63 : decode cX10_whyBad 63 = .ok (.invokevirtual 298, 3) := by decide +kernel
theorem dX10_whyBad_66 : decode cX10_whyBad 66 = .ok (.ifCond .eq 7, 3) := by decide +kernel
theorem dX10_whyBad_69 : decode cX10_whyBad 69 = .ok (.iconst 3, 1) := by decide +kernel
theorem dX10_whyBad_70 : decode cX10_whyBad 70 = .ok (.goto 4, 3) := by decide +kernel
theorem dX10_whyBad_73 : decode cX10_whyBad 73 = .ok (.iconst (-1), 1) := by decide +kernel
theorem dX10_whyBad_74 : decode cX10_whyBad 74 = .ok (.ireturn, 1) := by decide +kernel
theorem dX10_whyBad_75 : decode cX10_whyBad 75 = .ok (.aload_n 0, 1) := by decide +kernel
theorem dX10_whyBad_76 : decode cX10_whyBad 76 = .ok (.iload_n 1, 1) := by decide +kernel
theorem dX10_whyBad_77 : decode cX10_whyBad 77 = .ok (.invokevirtual 143, 3) := by decide +kernel
theorem dX10_whyBad_80 : decode cX10_whyBad 80 = .ok (.ifCond .eq 12, 3) := by decide +kernel
theorem dX10_whyBad_83 : decode cX10_whyBad 83 = .ok (.iload_n 2, 1) := by decide +kernel
theorem dX10_whyBad_84 : decode cX10_whyBad 84 = .ok (.iconst (-1), 1) := by decide +kernel
theorem dX10_whyBad_85 : decode cX10_whyBad 85 = .ok (.if_icmp .eq 7, 3) := by decide +kernel
theorem dX10_whyBad_88 : decode cX10_whyBad 88 = .ok (.iconst 4, 1) := by decide +kernel
theorem dX10_whyBad_89 : decode cX10_whyBad 89 = .ok (.goto 4, 3) := by decide +kernel
theorem dX10_whyBad_92 : decode cX10_whyBad 92 = .ok (.iconst (-1), 1) := by decide +kernel
theorem dX10_whyBad_93 : decode cX10_whyBad 93 = .ok (.ireturn, 1) := by decide +kernel
def f_X10_whyBad (p1 : Int32) (s0 : sh_S) : Option (Int32) := gu (inb p1 24) (ob (f_X10_variable (s0 3 (ix p1))) (fun v2 => gu (inb v2 8) (lb ((s0 21 (ix v2))) (fun v4 => ob (f_X10_goesBy p1 s0) (fun v5 => (if v5 = (-1 : Int32) then ob (f_X10_lends p1 s0) (fun v6 => ob (if v6 = 0 then some (-1 : Int32) else (if v4 = (-1 : Int32) then some (-1 : Int32) else some (4 : Int32))) (fun v7 => some v7)) else ob (f_X10_kind p1 s0) (fun v8 => ob (if v4 = (-1 : Int32) then some (1 : Int32) else ob (f_X10_isStale v4 s0) (fun v10 => (if v10 = 0 then (if v8 = (2 : Int32) then ob (f_X10_isShared v4 s0) (fun v11 => (if v11 = 0 then some (-1 : Int32) else some (3 : Int32))) else (if v8 = (4 : Int32) then ob (f_X10_isShared v4 s0) (fun v12 => (if v12 = 0 then some (-1 : Int32) else some (3 : Int32))) else some (-1 : Int32))) else some (2 : Int32)))) (fun v9 => some v9))))))))
set_option maxRecDepth 100000 in
set_option maxHeartbeats 4000000 in
theorem c_X10_whyBad (p1 : Int32) (s0 : sh_S) (r : Int32) (hf : f_X10_whyBad p1 s0 = some r) : Ctr yX10_whyBad cX10_whyBad 4 (some .int) ({ frames := 2, cells := 0, slots := 0, locals := 43 } : Room) shM [.ref 0, .int p1] s0 (some (.int r)) s0 := by
  refine Ctr.mk (ri := .ireturn) (by decide) (Nat.le_of_ble_eq_true rfl) (Rt_i r) ?_
  intro G h hL hR hret
  refine k_drop (lv' := [(0, .ref 0), (1, .int p1)]) [0, 1] rfl ?_
  unfold f_X10_whyBad at hf
  refine k_aload_n (pc := 0) h dX10_whyBad_0 rfl 0 rfl ?_
  refine k_getR (pc := 1) h fl_RX10_70 rfl rfl dX10_whyBad_1 ?_
  refine k_aload_n (pc := 4) h dX10_whyBad_4 rfl 0 rfl ?_
  refine k_getR (pc := 5) h fl_RX10_16 rfl rfl dX10_whyBad_5 ?_
  refine k_iload_n (pc := 8) h dX10_whyBad_8 rfl 1 rfl ?_
  obtain ⟨g1, hf⟩ := gu_s hf
  refine k_iald (pc := 9) (n := 24) h rfl g1 dX10_whyBad_9 ?_
  obtain ⟨v2, cv2, hf⟩ := ob_s hf
  refine k_callSp (pc := 10) h cs_RX10_128 (c_X10_variable (s0 3 (ix p1)) _ v2 cv2) rfl rfl (st1 := [.int v2, .ref 21]) rfl ⟨rfl, rfl⟩ (rk hR (Nat.le_of_ble_eq_true rfl) (Nat.le_of_ble_eq_true rfl)) (Nat.le_of_ble_eq_true rfl) dX10_whyBad_10 ?_
  obtain ⟨g3, hf⟩ := gu_s hf
  refine k_iald (pc := 13) (n := 8) h rfl g3 dX10_whyBad_13 ?_
  obtain ⟨v4, ev4, hf⟩ := lb_s hf
  refine k_top ev4 ?_
  refine k_istore_n (pc := 14) h dX10_whyBad_14 rfl (nk hL (by decide)) (lv' := [(0, .ref 0), (1, .int p1), (2, .int v4)]) rfl ?_
  refine k_aload_n (pc := 15) h dX10_whyBad_15 rfl 0 rfl ?_
  refine k_iload_n (pc := 16) h dX10_whyBad_16 rfl 1 rfl ?_
  obtain ⟨v5, cv5, hf⟩ := ob_s hf
  refine k_callV0 (pc := 17) h cv_RX10_171 (c_X10_goesBy p1 s0 v5 cv5) rfl rfl rfl (st1 := [.int v5]) rfl ⟨rfl, rfl⟩ (rk hR (Nat.le_of_ble_eq_true rfl) (Nat.le_of_ble_eq_true rfl)) (Nat.le_of_ble_eq_true rfl) dX10_whyBad_17 ?_
  refine k_iconst (pc := 20) h dX10_whyBad_20 kc_iconst_m1 ?_
  refine k_icmp_eq (pc := 21) (tgt := 75) h dX10_whyBad_21 rfl (fun hc => ?_) (fun hc => ?_)
  · have hf := it_p hc hf
    refine k_aload_n (pc := 75) h dX10_whyBad_75 rfl 0 rfl ?_
    refine k_iload_n (pc := 76) h dX10_whyBad_76 rfl 1 rfl ?_
    obtain ⟨v6, cv6, hf⟩ := ob_s hf
    refine k_callV0 (pc := 77) h cv_RX10_143 (c_X10_lends p1 s0 v6 cv6) rfl rfl rfl (st1 := [.int v6]) rfl ⟨rfl, rfl⟩ (rk hR (Nat.le_of_ble_eq_true rfl) (Nat.le_of_ble_eq_true rfl)) (Nat.le_of_ble_eq_true rfl) dX10_whyBad_77 ?_
    obtain ⟨v7, hj, hf⟩ := ob_s hf
    have kj80 : sh_K G shM 93 [] [.int v7] s0 := by
      obtain rfl := so1 hf
      exact hret 93 _ dX10_whyBad_93 trivial
    clear hf
    have hf := hj
    clear hj
    refine k_if_eq (pc := 80) (tgt := 92) h dX10_whyBad_80 rfl (fun hc => ?_) (fun hc => ?_)
    · have hf := it_p hc hf
      refine k_iconst (pc := 92) h dX10_whyBad_92 kc_iconst_m1 ?_
      obtain rfl := so1 hf
      exact k_drop [] rfl kj80
    · have hf := it_n hc hf
      refine k_iload_n (pc := 83) h dX10_whyBad_83 rfl 2 rfl ?_
      refine k_iconst (pc := 84) h dX10_whyBad_84 kc_iconst_m1 ?_
      refine k_icmp_eq (pc := 85) (tgt := 92) h dX10_whyBad_85 rfl (fun hc => ?_) (fun hc => ?_)
      · have hf := it_p hc hf
        refine k_iconst (pc := 92) h dX10_whyBad_92 kc_iconst_m1 ?_
        obtain rfl := so1 hf
        exact k_drop [] rfl kj80
      · have hf := it_n hc hf
        refine k_iconst (pc := 88) h dX10_whyBad_88 kc_iconst_4 ?_
        refine k_goto (pc := 89) (tgt := 93) h dX10_whyBad_89 rfl ?_
        obtain rfl := so1 hf
        exact k_drop [] rfl kj80
  · have hf := it_n hc hf
    refine k_aload_n (pc := 24) h dX10_whyBad_24 rfl 0 rfl ?_
    refine k_iload_n (pc := 25) h dX10_whyBad_25 rfl 1 rfl ?_
    obtain ⟨v8, cv8, hf⟩ := ob_s hf
    refine k_callV0 (pc := 26) h cv_RX10_174 (c_X10_kind p1 s0 v8 cv8) rfl rfl rfl (st1 := [.int v8]) rfl ⟨rfl, rfl⟩ (rk hR (Nat.le_of_ble_eq_true rfl) (Nat.le_of_ble_eq_true rfl)) (Nat.le_of_ble_eq_true rfl) dX10_whyBad_26 ?_
    refine k_istore_n (pc := 29) h dX10_whyBad_29 rfl (nk hL (by decide)) (lv' := [(0, .ref 0), (1, .int p1), (2, .int v4), (3, .int v8)]) rfl ?_
    refine k_iload_n (pc := 30) h dX10_whyBad_30 rfl 2 rfl ?_
    refine k_iconst (pc := 31) h dX10_whyBad_31 kc_iconst_m1 ?_
    obtain ⟨v9, hj, hf⟩ := ob_s hf
    have kj32 : sh_K G shM 74 [] [.int v9] s0 := by
      obtain rfl := so1 hf
      exact hret 74 _ dX10_whyBad_74 trivial
    clear hf
    have hf := hj
    clear hj
    refine k_icmp_ne (pc := 32) (tgt := 39) h dX10_whyBad_32 rfl (fun hc => ?_) (fun hc => ?_)
    · have hf := it_n hc hf
      refine k_aload_n (pc := 39) h dX10_whyBad_39 rfl 0 rfl ?_
      refine k_iload_n (pc := 40) h dX10_whyBad_40 rfl 2 rfl ?_
      obtain ⟨v10, cv10, hf⟩ := ob_s hf
      refine k_callV0 (pc := 41) h cv_RX10_295 (c_X10_isStale v4 s0 v10 cv10) rfl rfl rfl (st1 := [.int v10]) rfl ⟨rfl, rfl⟩ (rk hR (Nat.le_of_ble_eq_true rfl) (Nat.le_of_ble_eq_true rfl)) (Nat.le_of_ble_eq_true rfl) dX10_whyBad_41 ?_
      refine k_if_eq (pc := 44) (tgt := 51) h dX10_whyBad_44 rfl (fun hc => ?_) (fun hc => ?_)
      · have hf := it_p hc hf
        refine k_iload_n (pc := 51) h dX10_whyBad_51 rfl 3 rfl ?_
        refine k_iconst (pc := 52) h dX10_whyBad_52 kc_iconst_2 ?_
        refine k_icmp_eq (pc := 53) (tgt := 61) h dX10_whyBad_53 rfl (fun hc => ?_) (fun hc => ?_)
        · have hf := it_p hc hf
          refine k_aload_n (pc := 61) h dX10_whyBad_61 rfl 0 rfl ?_
          refine k_iload_n (pc := 62) h dX10_whyBad_62 rfl 2 rfl ?_
          obtain ⟨v11, cv11, hf⟩ := ob_s hf
          refine k_callV0 (pc := 63) h cv_RX10_298 (c_X10_isShared v4 s0 v11 cv11) rfl rfl rfl (st1 := [.int v11]) rfl ⟨rfl, rfl⟩ (rk hR (Nat.le_of_ble_eq_true rfl) (Nat.le_of_ble_eq_true rfl)) (Nat.le_of_ble_eq_true rfl) dX10_whyBad_63 ?_
          refine k_if_eq (pc := 66) (tgt := 73) h dX10_whyBad_66 rfl (fun hc => ?_) (fun hc => ?_)
          · have hf := it_p hc hf
            refine k_iconst (pc := 73) h dX10_whyBad_73 kc_iconst_m1 ?_
            obtain rfl := so1 hf
            exact k_drop [] rfl kj32
          · have hf := it_n hc hf
            refine k_iconst (pc := 69) h dX10_whyBad_69 kc_iconst_3 ?_
            refine k_goto (pc := 70) (tgt := 74) h dX10_whyBad_70 rfl ?_
            obtain rfl := so1 hf
            exact k_drop [] rfl kj32
        · have hf := it_n hc hf
          refine k_iload_n (pc := 56) h dX10_whyBad_56 rfl 3 rfl ?_
          refine k_iconst (pc := 57) h dX10_whyBad_57 kc_iconst_4 ?_
          refine k_icmp_ne (pc := 58) (tgt := 73) h dX10_whyBad_58 rfl (fun hc => ?_) (fun hc => ?_)
          · have hf := it_n hc hf
            refine k_iconst (pc := 73) h dX10_whyBad_73 kc_iconst_m1 ?_
            obtain rfl := so1 hf
            exact k_drop [] rfl kj32
          · have hf := it_p hc hf
            refine k_aload_n (pc := 61) h dX10_whyBad_61 rfl 0 rfl ?_
            refine k_iload_n (pc := 62) h dX10_whyBad_62 rfl 2 rfl ?_
            obtain ⟨v12, cv12, hf⟩ := ob_s hf
            refine k_callV0 (pc := 63) h cv_RX10_298 (c_X10_isShared v4 s0 v12 cv12) rfl rfl rfl (st1 := [.int v12]) rfl ⟨rfl, rfl⟩ (rk hR (Nat.le_of_ble_eq_true rfl) (Nat.le_of_ble_eq_true rfl)) (Nat.le_of_ble_eq_true rfl) dX10_whyBad_63 ?_
            refine k_if_eq (pc := 66) (tgt := 73) h dX10_whyBad_66 rfl (fun hc => ?_) (fun hc => ?_)
            · have hf := it_p hc hf
              refine k_iconst (pc := 73) h dX10_whyBad_73 kc_iconst_m1 ?_
              obtain rfl := so1 hf
              exact k_drop [] rfl kj32
            · have hf := it_n hc hf
              refine k_iconst (pc := 69) h dX10_whyBad_69 kc_iconst_3 ?_
              refine k_goto (pc := 70) (tgt := 74) h dX10_whyBad_70 rfl ?_
              obtain rfl := so1 hf
              exact k_drop [] rfl kj32
      · have hf := it_n hc hf
        refine k_iconst (pc := 47) h dX10_whyBad_47 kc_iconst_2 ?_
        refine k_goto (pc := 48) (tgt := 74) h dX10_whyBad_48 rfl ?_
        obtain rfl := so1 hf
        exact k_drop [] rfl kj32
    · have hf := it_p hc hf
      refine k_iconst (pc := 35) h dX10_whyBad_35 kc_iconst_1 ?_
      refine k_goto (pc := 36) (tgt := 74) h dX10_whyBad_36 rfl ?_
      obtain rfl := so1 hf
      exact k_drop [] rfl kj32
theorem dX10_makes_0 : decode cX10_makes 0 = .ok (.aload_n 0, 1) := by decide +kernel
theorem dX10_makes_1 : decode cX10_makes 1 = .ok (.getfield 52, 3) := by decide +kernel
theorem dX10_makes_4 : decode cX10_makes 4 = .ok (.aload_n 0, 1) := by decide +kernel
theorem dX10_makes_5 : decode cX10_makes 5 = .ok (.getfield 289, 3) := by decide +kernel
theorem dX10_makes_8 : decode cX10_makes 8 = .ok (.aload_n 0, 1) := by decide +kernel
theorem dX10_makes_9 : decode cX10_makes 9 = .ok (.iload_n 1, 1) := by decide +kernel
theorem dX10_makes_10 : decode cX10_makes 10 = .ok (.invokevirtual 174, 3) := by decide +kernel
theorem dX10_makes_13 : decode cX10_makes 13 = .ok (.iastore, 1) := by decide +kernel
theorem dX10_makes_14 : decode cX10_makes 14 = .ok (.aload_n 0, 1) := by decide +kernel
theorem dX10_makes_15 : decode cX10_makes 15 = .ok (.getfield 55, 3) := by decide +kernel
theorem dX10_makes_18 : decode cX10_makes 18 = .ok (.aload_n 0, 1) := by decide +kernel
theorem dX10_makes_19 : decode cX10_makes 19 = .ok (.getfield 289, 3) := by decide +kernel
theorem dX10_makes_22 : decode cX10_makes 22 = .ok (.iload_n 2, 1) := by decide +kernel
theorem dX10_makes_23 : decode cX10_makes 23 = .ok (.iastore, 1) := by decide +kernel
theorem dX10_makes_24 : decode cX10_makes 24 = .ok (.aload_n 0, 1) := by decide +kernel
theorem dX10_makes_25 : decode cX10_makes 25 = .ok (.getfield 58, 3) := by decide +kernel
theorem dX10_makes_28 : decode cX10_makes 28 = .ok (.aload_n 0, 1) := by decide +kernel
theorem dX10_makes_29 : decode cX10_makes 29 = .ok (.getfield 289, 3) := by decide +kernel
theorem dX10_makes_32 : decode cX10_makes 32 = .ok (.iload_n 3, 1) := by decide +kernel
theorem dX10_makes_33 : decode cX10_makes 33 = .ok (.iastore, 1) := by decide +kernel
theorem dX10_makes_34 : decode cX10_makes 34 = .ok (.aload_n 0, 1) := by decide +kernel
theorem dX10_makes_35 : decode cX10_makes 35 = .ok (.getfield 61, 3) := by decide +kernel
theorem dX10_makes_38 : decode cX10_makes 38 = .ok (.aload_n 0, 1) := by decide +kernel
theorem dX10_makes_39 : decode cX10_makes 39 = .ok (.getfield 289, 3) := by decide +kernel
theorem dX10_makes_42 : decode cX10_makes 42 = .ok (.iload 4, 2) := by decide +kernel
theorem dX10_makes_44 : decode cX10_makes 44 = .ok (.iastore, 1) := by decide +kernel
theorem dX10_makes_45 : decode cX10_makes 45 = .ok (.aload_n 0, 1) := by decide +kernel
theorem dX10_makes_46 : decode cX10_makes 46 = .ok (.getfield 64, 3) := by decide +kernel
theorem dX10_makes_49 : decode cX10_makes 49 = .ok (.aload_n 0, 1) := by decide +kernel
theorem dX10_makes_50 : decode cX10_makes 50 = .ok (.getfield 289, 3) := by decide +kernel
theorem dX10_makes_53 : decode cX10_makes 53 = .ok (.iconst 1, 1) := by decide +kernel
theorem dX10_makes_54 : decode cX10_makes 54 = .ok (.iastore, 1) := by decide +kernel
theorem dX10_makes_55 : decode cX10_makes 55 = .ok (.aload_n 0, 1) := by decide +kernel
theorem dX10_makes_56 : decode cX10_makes 56 = .ok (.getfield 67, 3) := by decide +kernel
theorem dX10_makes_59 : decode cX10_makes 59 = .ok (.aload_n 0, 1) := by decide +kernel
theorem dX10_makes_60 : decode cX10_makes 60 = .ok (.getfield 289, 3) := by decide +kernel
theorem dX10_makes_63 : decode cX10_makes 63 = .ok (.iconst 0, 1) := by decide +kernel
theorem dX10_makes_64 : decode cX10_makes 64 = .ok (.iastore, 1) := by decide +kernel
theorem dX10_makes_65 : decode cX10_makes 65 = .ok (.aload_n 0, 1) := by decide +kernel
theorem dX10_makes_66 : decode cX10_makes 66 = .ok (.getfield 70, 3) := by decide +kernel
theorem dX10_makes_69 : decode cX10_makes 69 = .ok (.aload_n 0, 1) := by decide +kernel
theorem dX10_makes_70 : decode cX10_makes 70 = .ok (.getfield 13, 3) := by decide +kernel
theorem dX10_makes_73 : decode cX10_makes 73 = .ok (.iload_n 1, 1) := by decide +kernel
theorem dX10_makes_74 : decode cX10_makes 74 = .ok (.iaload, 1) := by decide +kernel
theorem dX10_makes_75 : decode cX10_makes 75 = .ok (.aload_n 0, 1) := by decide +kernel
theorem dX10_makes_76 : decode cX10_makes 76 = .ok (.getfield 289, 3) := by decide +kernel
theorem dX10_makes_79 : decode cX10_makes 79 = .ok (.iastore, 1) := by decide +kernel
theorem dX10_makes_80 : decode cX10_makes 80 = .ok (.aload_n 0, 1) := by decide +kernel
theorem dX10_makes_81 : decode cX10_makes 81 = .ok (.dup, 1) := by decide +kernel
theorem dX10_makes_82 : decode cX10_makes 82 = .ok (.getfield 289, 3) := by decide +kernel
theorem dX10_makes_85 : decode cX10_makes 85 = .ok (.iconst 1, 1) := by decide +kernel
theorem dX10_makes_86 : decode cX10_makes 86 = .ok (.iadd, 1) := by decide +kernel
theorem dX10_makes_87 : decode cX10_makes 87 = .ok (.putfield 289, 3) := by decide +kernel
theorem dX10_makes_90 : decode cX10_makes 90 = .ok (.return_, 1) := by decide +kernel
def f_X10_makes (p1 : Int32) (p2 : Int32) (p3 : Int32) (p4 : Int32) (s0 : sh_S) : Option (sh_S) := ob (f_X10_kind p1 s0) (fun v1 => gu (inb (s0 0 19) 301) (lb (ur s0 15 (upd (s0 15) (ix (s0 0 19)) v1)) (fun s3 => gu (inb (s3 0 19) 301) (lb (ur s3 16 (upd (s3 16) (ix (s3 0 19)) p2)) (fun s5 => gu (inb (s5 0 19) 301) (lb (ur s5 17 (upd (s5 17) (ix (s5 0 19)) p3)) (fun s7 => gu (inb (s7 0 19) 301) (lb (ur s7 18 (upd (s7 18) (ix (s7 0 19)) p4)) (fun s9 => gu (inb (s9 0 19) 301) (lb (ur s9 19 (upd (s9 19) (ix (s9 0 19)) (1 : Int32))) (fun s11 => gu (inb (s11 0 19) 301) (lb (ur s11 20 (upd (s11 20) (ix (s11 0 19)) (0 : Int32))) (fun s13 => gu (inb p1 24) (gu (inb (s13 2 (ix p1)) 8) (lb (ur s13 21 (upd (s13 21) (ix (s13 2 (ix p1))) (s13 0 19))) (fun s16 => lb (ur s16 0 (upd (s16 0) 19 ((s16 0 19) + (1 : Int32)))) (fun s17 => some s17)))))))))))))))))
set_option maxRecDepth 100000 in
set_option maxHeartbeats 4000000 in
theorem c_X10_makes (p1 : Int32) (p2 : Int32) (p3 : Int32) (p4 : Int32) (s0 : sh_S) (s9x : sh_S) (hf : f_X10_makes p1 p2 p3 p4 s0 = some s9x) : Ctr yX10_makes cX10_makes 5 none ({ frames := 2, cells := 0, slots := 0, locals := 41 } : Room) shM [.ref 0, .int p1, .int p2, .int p3, .int p4] s0 none s9x := by
  refine Ctr.mk (ri := .return_) (by decide) (Nat.le_of_ble_eq_true rfl) (Rt_v) ?_
  intro G h hL hR hret
  refine k_drop (lv' := [(0, .ref 0), (1, .int p1), (2, .int p2), (3, .int p3), (4, .int p4)]) [0, 1, 2, 3, 4] rfl ?_
  unfold f_X10_makes at hf
  refine k_aload_n (pc := 0) h dX10_makes_0 rfl 0 rfl ?_
  refine k_getR (pc := 1) h fl_RX10_52 rfl rfl dX10_makes_1 ?_
  refine k_aload_n (pc := 4) h dX10_makes_4 rfl 0 rfl ?_
  refine k_getI (pc := 5) h fl_RX10_289 rfl rfl dX10_makes_5 ?_
  refine k_aload_n (pc := 8) h dX10_makes_8 rfl 0 rfl ?_
  refine k_iload_n (pc := 9) h dX10_makes_9 rfl 1 rfl ?_
  obtain ⟨v1, cv1, hf⟩ := ob_s hf
  refine k_callV0 (pc := 10) h cv_RX10_174 (c_X10_kind p1 s0 v1 cv1) rfl rfl rfl (st1 := [.int v1, .int (s0 0 19), .ref 15]) rfl ⟨rfl, rfl⟩ (rk hR (Nat.le_of_ble_eq_true rfl) (Nat.le_of_ble_eq_true rfl)) (Nat.le_of_ble_eq_true rfl) dX10_makes_10 ?_
  obtain ⟨g2, hf⟩ := gu_s hf
  obtain ⟨s3, es3, hf⟩ := lb_s hf
  refine k_iast (pc := 13) (n := 301) h rfl g2 dX10_makes_13 ?_
  refine k_heap es3 ?_
  refine k_aload_n (pc := 14) h dX10_makes_14 rfl 0 rfl ?_
  refine k_getR (pc := 15) h fl_RX10_55 rfl rfl dX10_makes_15 ?_
  refine k_aload_n (pc := 18) h dX10_makes_18 rfl 0 rfl ?_
  refine k_getI (pc := 19) h fl_RX10_289 rfl rfl dX10_makes_19 ?_
  refine k_iload_n (pc := 22) h dX10_makes_22 rfl 2 rfl ?_
  obtain ⟨g4, hf⟩ := gu_s hf
  obtain ⟨s5, es5, hf⟩ := lb_s hf
  refine k_iast (pc := 23) (n := 301) h rfl g4 dX10_makes_23 ?_
  refine k_heap es5 ?_
  refine k_aload_n (pc := 24) h dX10_makes_24 rfl 0 rfl ?_
  refine k_getR (pc := 25) h fl_RX10_58 rfl rfl dX10_makes_25 ?_
  refine k_aload_n (pc := 28) h dX10_makes_28 rfl 0 rfl ?_
  refine k_getI (pc := 29) h fl_RX10_289 rfl rfl dX10_makes_29 ?_
  refine k_iload_n (pc := 32) h dX10_makes_32 rfl 3 rfl ?_
  obtain ⟨g6, hf⟩ := gu_s hf
  obtain ⟨s7, es7, hf⟩ := lb_s hf
  refine k_iast (pc := 33) (n := 301) h rfl g6 dX10_makes_33 ?_
  refine k_heap es7 ?_
  refine k_aload_n (pc := 34) h dX10_makes_34 rfl 0 rfl ?_
  refine k_getR (pc := 35) h fl_RX10_61 rfl rfl dX10_makes_35 ?_
  refine k_aload_n (pc := 38) h dX10_makes_38 rfl 0 rfl ?_
  refine k_getI (pc := 39) h fl_RX10_289 rfl rfl dX10_makes_39 ?_
  refine k_iload (pc := 42) h dX10_makes_42 4 rfl ?_
  obtain ⟨g8, hf⟩ := gu_s hf
  obtain ⟨s9, es9, hf⟩ := lb_s hf
  refine k_iast (pc := 44) (n := 301) h rfl g8 dX10_makes_44 ?_
  refine k_heap es9 ?_
  refine k_aload_n (pc := 45) h dX10_makes_45 rfl 0 rfl ?_
  refine k_getR (pc := 46) h fl_RX10_64 rfl rfl dX10_makes_46 ?_
  refine k_aload_n (pc := 49) h dX10_makes_49 rfl 0 rfl ?_
  refine k_getI (pc := 50) h fl_RX10_289 rfl rfl dX10_makes_50 ?_
  refine k_iconst (pc := 53) h dX10_makes_53 kc_iconst_1 ?_
  obtain ⟨g10, hf⟩ := gu_s hf
  obtain ⟨s11, es11, hf⟩ := lb_s hf
  refine k_iast (pc := 54) (n := 301) h rfl g10 dX10_makes_54 ?_
  refine k_heap es11 ?_
  refine k_aload_n (pc := 55) h dX10_makes_55 rfl 0 rfl ?_
  refine k_getR (pc := 56) h fl_RX10_67 rfl rfl dX10_makes_56 ?_
  refine k_aload_n (pc := 59) h dX10_makes_59 rfl 0 rfl ?_
  refine k_getI (pc := 60) h fl_RX10_289 rfl rfl dX10_makes_60 ?_
  refine k_iconst (pc := 63) h dX10_makes_63 kc_iconst_0 ?_
  obtain ⟨g12, hf⟩ := gu_s hf
  obtain ⟨s13, es13, hf⟩ := lb_s hf
  refine k_iast (pc := 64) (n := 301) h rfl g12 dX10_makes_64 ?_
  refine k_heap es13 ?_
  refine k_aload_n (pc := 65) h dX10_makes_65 rfl 0 rfl ?_
  refine k_getR (pc := 66) h fl_RX10_70 rfl rfl dX10_makes_66 ?_
  refine k_aload_n (pc := 69) h dX10_makes_69 rfl 0 rfl ?_
  refine k_getR (pc := 70) h fl_RX10_13 rfl rfl dX10_makes_70 ?_
  refine k_iload_n (pc := 73) h dX10_makes_73 rfl 1 rfl ?_
  obtain ⟨g14, hf⟩ := gu_s hf
  refine k_iald (pc := 74) (n := 24) h rfl g14 dX10_makes_74 ?_
  refine k_aload_n (pc := 75) h dX10_makes_75 rfl 0 rfl ?_
  refine k_getI (pc := 76) h fl_RX10_289 rfl rfl dX10_makes_76 ?_
  obtain ⟨g15, hf⟩ := gu_s hf
  obtain ⟨s16, es16, hf⟩ := lb_s hf
  refine k_iast (pc := 79) (n := 8) h rfl g15 dX10_makes_79 ?_
  refine k_heap es16 ?_
  refine k_aload_n (pc := 80) h dX10_makes_80 rfl 0 rfl ?_
  refine k_dup (pc := 81) h dX10_makes_81 rfl ?_
  refine k_getI (pc := 82) h fl_RX10_289 rfl rfl dX10_makes_82 ?_
  refine k_iconst (pc := 85) h dX10_makes_85 kc_iconst_1 ?_
  refine k_iadd (pc := 86) h dX10_makes_86 ?_
  obtain ⟨s17, es17, hf⟩ := lb_s hf
  refine k_put (pc := 87) h fl_RX10_289 fp_X10_19 rfl rfl rfl rfl dX10_makes_87 ?_
  refine k_heap es17 ?_
  obtain rfl := so1 hf
  exact hret 90 _ dX10_makes_90 trivial
theorem dX10_does_0 : decode cX10_does 0 = .ok (.aload_n 0, 1) := by decide +kernel
theorem dX10_does_1 : decode cX10_does 1 = .ok (.getfield 16, 3) := by decide +kernel
theorem dX10_does_4 : decode cX10_does 4 = .ok (.iload_n 1, 1) := by decide +kernel
theorem dX10_does_5 : decode cX10_does 5 = .ok (.iaload, 1) := by decide +kernel
theorem dX10_does_6 : decode cX10_does 6 = .ok (.invokestatic 128, 3) := by decide +kernel
theorem dX10_does_9 : decode cX10_does 9 = .ok (.istore_n 2, 1) := by decide +kernel
theorem dX10_does_10 : decode cX10_does 10 = .ok (.aload_n 0, 1) := by decide +kernel
theorem dX10_does_11 : decode cX10_does 11 = .ok (.getfield 16, 3) := by decide +kernel
theorem dX10_does_14 : decode cX10_does 14 = .ok (.iload_n 1, 1) := by decide +kernel
theorem dX10_does_15 : decode cX10_does 15 = .ok (.iaload, 1) := by decide +kernel
theorem dX10_does_16 : decode cX10_does 16 = .ok (.bipush 6, 2) := by decide +kernel
theorem dX10_does_18 : decode cX10_does 18 = .ok (.irem, 1) := by decide +kernel
theorem dX10_does_19 : decode cX10_does 19 = .ok (.istore_n 3, 1) := by decide +kernel
theorem dX10_does_20 : decode cX10_does 20 = .ok (.aload_n 0, 1) := by decide +kernel
theorem dX10_does_21 : decode cX10_does 21 = .ok (.iload_n 1, 1) := by decide +kernel
theorem dX10_does_22 : decode cX10_does 22 = .ok (.invokevirtual 174, 3) := by decide +kernel
theorem dX10_does_25 : decode cX10_does 25 = .ok (.istore 4, 2) := by decide +kernel
theorem dX10_does_27 : decode cX10_does 27 = .ok (.aload_n 0, 1) := by decide +kernel
theorem dX10_does_28 : decode cX10_does 28 = .ok (.iload_n 1, 1) := by decide +kernel
theorem dX10_does_29 : decode cX10_does 29 = .ok (.invokevirtual 171, 3) := by decide +kernel
theorem dX10_does_32 : decode cX10_does 32 = .ok (.iconst (-1), 1) := by decide +kernel
theorem dX10_does_33 : decode cX10_does 33 = .ok (.if_icmp .ne 7, 3) := by decide +kernel
theorem dX10_does_36 : decode cX10_does 36 = .ok (.iconst (-1), 1) := by decide +kernel
theorem dX10_does_37 : decode cX10_does 37 = .ok (.goto 9, 3) := by decide +kernel
theorem dX10_does_40 : decode cX10_does 40 = .ok (.aload_n 0, 1) := by decide +kernel
theorem dX10_does_41 : decode cX10_does 41 = .ok (.getfield 70, 3) := by decide +kernel
theorem dX10_does_44 : decode cX10_does 44 = .ok (.iload_n 2, 1) := by decide +kernel
theorem dX10_does_45 : decode cX10_does 45 = .ok (.iaload, 1) := by decide +kernel
theorem dX10_does_46 : decode cX10_does 46 = .ok (.istore 5, 2) := by decide +kernel
theorem dX10_does_48 : decode cX10_does 48 = .ok (.iload 5, 2) := by decide +kernel
theorem dX10_does_50 : decode cX10_does 50 = .ok (.iconst (-1), 1) := by decide +kernel
theorem dX10_does_51 : decode cX10_does 51 = .ok (.if_icmp .ne 7, 3) := by decide +kernel
theorem dX10_does_54 : decode cX10_does 54 = .ok (.iload_n 2, 1) := by decide +kernel
theorem dX10_does_55 : decode cX10_does 55 = .ok (.goto 10, 3) := by decide +kernel
theorem dX10_does_58 : decode cX10_does 58 = .ok (.aload_n 0, 1) := by decide +kernel
theorem dX10_does_59 : decode cX10_does 59 = .ok (.getfield 55, 3) := by decide +kernel
theorem dX10_does_62 : decode cX10_does 62 = .ok (.iload 5, 2) := by decide +kernel
theorem dX10_does_64 : decode cX10_does 64 = .ok (.iaload, 1) := by decide +kernel
theorem dX10_does_65 : decode cX10_does 65 = .ok (.istore 6, 2) := by decide +kernel
theorem dX10_does_67 : decode cX10_does 67 = .ok (.iload 5, 2) := by decide +kernel
theorem dX10_does_69 : decode cX10_does 69 = .ok (.iconst (-1), 1) := by decide +kernel
theorem dX10_does_70 : decode cX10_does 70 = .ok (.if_icmp .ne 7, 3) := by decide +kernel
theorem dX10_does_73 : decode cX10_does 73 = .ok (.iload_n 3, 1) := by decide +kernel
theorem dX10_does_74 : decode cX10_does 74 = .ok (.goto 31, 3) := by decide +kernel
theorem dX10_does_77 : decode cX10_does 77 = .ok (.iload_n 3, 1) := by decide +kernel
theorem dX10_does_78 : decode cX10_does 78 = .ok (.iconst 3, 1) := by decide +kernel
theorem dX10_does_79 : decode cX10_does 79 = .ok (.if_icmp .eq 13, 3) := by decide +kernel
theorem dX10_does_82 : decode cX10_does 82 = .ok (.aload_n 0, 1) := by decide +kernel
theorem dX10_does_83 : decode cX10_does 83 = .ok (.getfield 58, 3) := by decide +kernel
theorem dX10_does_86 : decode cX10_does 86 = .ok (.iload 5, 2) := by decide +kernel
theorem dX10_does_88 : decode cX10_does 88 = .ok (.iaload, 1) := by decide +kernel
theorem dX10_does_89 : decode cX10_does 89 = .ok (.ifCond .eq 13, 3) := by decide +kernel
theorem dX10_does_92 : decode cX10_does 92 = .ok (.aload_n 0, 1) := by decide +kernel
theorem dX10_does_93 : decode cX10_does 93 = .ok (.getfield 58, 3) := by decide +kernel
theorem dX10_does_96 : decode cX10_does 96 = .ok (.iload 5, 2) := by decide +kernel
theorem dX10_does_98 : decode cX10_does 98 = .ok (.iaload, 1) := by decide +kernel
theorem dX10_does_99 : decode cX10_does 99 = .ok (.goto 6, 3) := by decide +kernel
theorem dX10_does_102 : decode cX10_does 102 = .ok (.iload_n 3, 1) := by decide +kernel
theorem dX10_does_103 : decode cX10_does 103 = .ok (.iconst 3, 1) := by decide +kernel
theorem dX10_does_104 : decode cX10_does 104 = .ok (.isub, 1) := by decide +kernel
theorem dX10_does_105 : decode cX10_does 105 = .ok (.istore 7, 2) := by decide +kernel
theorem dX10_does_107 : decode cX10_does 107 = .ok (.iload 5, 2) := by decide +kernel
theorem dX10_does_109 : decode cX10_does 109 = .ok (.iconst (-1), 1) := by decide +kernel
theorem dX10_does_110 : decode cX10_does 110 = .ok (.if_icmp .eq 53, 3) := by decide +kernel
theorem dX10_does_113 : decode cX10_does 113 = .ok (.aload_n 0, 1) := by decide +kernel
theorem dX10_does_114 : decode cX10_does 114 = .ok (.getfield 52, 3) := by decide +kernel
theorem dX10_does_117 : decode cX10_does 117 = .ok (.iload 5, 2) := by decide +kernel
theorem dX10_does_119 : decode cX10_does 119 = .ok (.iaload, 1) := by decide +kernel
theorem dX10_does_120 : decode cX10_does 120 = .ok (.iconst 5, 1) := by decide +kernel
theorem dX10_does_121 : decode cX10_does 121 = .ok (.if_icmp .ne 42, 3) := by decide +kernel
theorem dX10_does_124 : decode cX10_does 124 = .ok (.aload_n 0, 1) := by decide +kernel
theorem dX10_does_125 : decode cX10_does 125 = .ok (.getfield 67, 3) := by decide +kernel
theorem dX10_does_128 : decode cX10_does 128 = .ok (.iload 5, 2) := by decide +kernel
theorem dX10_does_130 : decode cX10_does 130 = .ok (.iaload, 1) := by decide +kernel
theorem dX10_does_131 : decode cX10_does 131 = .ok (.ifCond .ne 32, 3) := by decide +kernel
theorem dX10_does_134 : decode cX10_does 134 = .ok (.aload_n 0, 1) := by decide +kernel
theorem dX10_does_135 : decode cX10_does 135 = .ok (.aload_n 0, 1) := by decide +kernel
theorem dX10_does_136 : decode cX10_does 136 = .ok (.getfield 55, 3) := by decide +kernel
theorem dX10_does_139 : decode cX10_does 139 = .ok (.iload 5, 2) := by decide +kernel
theorem dX10_does_141 : decode cX10_does 141 = .ok (.iaload, 1) := by decide +kernel
theorem dX10_does_142 : decode cX10_does 142 = .ok (.aload_n 0, 1) := by decide +kernel
theorem dX10_does_143 : decode cX10_does 143 = .ok (.getfield 58, 3) := by decide +kernel
theorem dX10_does_146 : decode cX10_does 146 = .ok (.iload 5, 2) := by decide +kernel
theorem dX10_does_148 : decode cX10_does 148 = .ok (.iaload, 1) := by decide +kernel
theorem dX10_does_149 : decode cX10_does 149 = .ok (.iconst 1, 1) := by decide +kernel
theorem dX10_does_150 : decode cX10_does 150 = .ok (.iload 5, 2) := by decide +kernel
theorem dX10_does_152 : decode cX10_does 152 = .ok (.invokevirtual 301, 3) := by decide +kernel
theorem dX10_does_155 : decode cX10_does 155 = .ok (.aload_n 0, 1) := by decide +kernel
theorem dX10_does_156 : decode cX10_does 156 = .ok (.getfield 67, 3) := by decide +kernel
theorem dX10_does_159 : decode cX10_does 159 = .ok (.iload 5, 2) := by decide +kernel
theorem dX10_does_161 : decode cX10_does 161 = .ok (.iconst 1, 1) := by decide +kernel
theorem dX10_does_162 : decode cX10_does 162 = .ok (.iastore, 1) := by decide +kernel
theorem dX10_does_163 : decode cX10_does 163 = .ok (.iload 4, 2) := by decide +kernel
theorem dX10_does_165 : decode cX10_does 165 = .ok (.iconst 1, 1) := by decide +kernel
theorem dX10_does_166 : decode cX10_does 166 = .ok (.iconst 5, 1) := by decide +kernel
theorem dX10_does_167 : decode cX10_does 167 = .ok (.invokestatic 93, 3) := by decide +kernel
theorem dX10_does_170 : decode cX10_does 170 = .ok (.ifCond .eq 30, 3) := by decide +kernel
theorem dX10_does_173 : decode cX10_does 173 = .ok (.aload_n 0, 1) := by decide +kernel
theorem dX10_does_174 : decode cX10_does 174 = .ok (.iload 6, 2) := by decide +kernel
theorem dX10_does_176 : decode cX10_does 176 = .ok (.iload 7, 2) := by decide +kernel
theorem dX10_does_178 : decode cX10_does 178 = .ok (.iload 4, 2) := by decide +kernel
theorem dX10_does_180 : decode cX10_does 180 = .ok (.iconst 2, 1) := by decide +kernel
theorem dX10_does_181 : decode cX10_does 181 = .ok (.if_icmp .eq 9, 3) := by decide +kernel
theorem dX10_does_184 : decode cX10_does 184 = .ok (.iload 4, 2) := by decide +kernel
theorem dX10_does_186 : decode cX10_does 186 = .ok (.iconst 4, 1) := by decide +kernel
theorem dX10_does_187 : decode cX10_does 187 = .ok (.if_icmp .ne 7, 3) := by decide +kernel
theorem dX10_does_190 : decode cX10_does 190 = .ok (.iconst 1, 1) := by decide +kernel
theorem dX10_does_191 : decode cX10_does 191 = .ok (.goto 4, 3) := by decide +kernel
theorem dX10_does_194 : decode cX10_does 194 = .ok (.iconst 0, 1) := by decide +kernel
theorem dX10_does_195 : decode cX10_does 195 = .ok (.iload 5, 2) := by decide +kernel
theorem dX10_does_197 : decode cX10_does 197 = .ok (.invokevirtual 301, 3) := by decide +kernel
theorem dX10_does_200 : decode cX10_does 200 = .ok (.iload 4, 2) := by decide +kernel
theorem dX10_does_202 : decode cX10_does 202 = .ok (.bipush 6, 2) := by decide +kernel
theorem dX10_does_204 : decode cX10_does 204 = .ok (.if_icmp .ne 11, 3) := by decide +kernel
theorem dX10_does_207 : decode cX10_does 207 = .ok (.aload_n 0, 1) := by decide +kernel
theorem dX10_does_208 : decode cX10_does 208 = .ok (.iload_n 2, 1) := by decide +kernel
theorem dX10_does_209 : decode cX10_does 209 = .ok (.iconst 0, 1) := by decide +kernel
theorem dX10_does_210 : decode cX10_does 210 = .ok (.iconst 1, 1) := by decide +kernel
theorem dX10_does_211 : decode cX10_does 211 = .ok (.iconst (-1), 1) := by decide +kernel
theorem dX10_does_212 : decode cX10_does 212 = .ok (.invokevirtual 301, 3) := by decide +kernel
theorem dX10_does_215 : decode cX10_does 215 = .ok (.iload 4, 2) := by decide +kernel
theorem dX10_does_217 : decode cX10_does 217 = .ok (.iconst 3, 1) := by decide +kernel
theorem dX10_does_218 : decode cX10_does 218 = .ok (.bipush 6, 2) := by decide +kernel
theorem dX10_does_220 : decode cX10_does 220 = .ok (.invokestatic 93, 3) := by decide +kernel
theorem dX10_does_223 : decode cX10_does 223 = .ok (.ifCond .eq 16, 3) := by decide +kernel
theorem dX10_does_226 : decode cX10_does 226 = .ok (.aload_n 0, 1) := by decide +kernel
theorem dX10_does_227 : decode cX10_does 227 = .ok (.aload_n 0, 1) := by decide +kernel
theorem dX10_does_228 : decode cX10_does 228 = .ok (.getfield 13, 3) := by decide +kernel
theorem dX10_does_231 : decode cX10_does 231 = .ok (.iload_n 1, 1) := by decide +kernel
theorem dX10_does_232 : decode cX10_does 232 = .ok (.iaload, 1) := by decide +kernel
theorem dX10_does_233 : decode cX10_does 233 = .ok (.iconst 0, 1) := by decide +kernel
theorem dX10_does_234 : decode cX10_does 234 = .ok (.iconst 1, 1) := by decide +kernel
theorem dX10_does_235 : decode cX10_does 235 = .ok (.iconst (-1), 1) := by decide +kernel
theorem dX10_does_236 : decode cX10_does 236 = .ok (.invokevirtual 301, 3) := by decide +kernel
theorem dX10_does_239 : decode cX10_does 239 = .ok (.aload_n 0, 1) := by decide +kernel
theorem dX10_does_240 : decode cX10_does 240 = .ok (.iload_n 1, 1) := by decide +kernel
theorem dX10_does_241 : decode cX10_does 241 = .ok (.invokevirtual 143, 3) := by decide +kernel
theorem dX10_does_244 : decode cX10_does 244 = .ok (.ifCond .eq 14, 3) := by decide +kernel
theorem dX10_does_247 : decode cX10_does 247 = .ok (.aload_n 0, 1) := by decide +kernel
theorem dX10_does_248 : decode cX10_does 248 = .ok (.iload_n 1, 1) := by decide +kernel
theorem dX10_does_249 : decode cX10_does 249 = .ok (.iload 6, 2) := by decide +kernel
theorem dX10_does_251 : decode cX10_does 251 = .ok (.iload 7, 2) := by decide +kernel
theorem dX10_does_253 : decode cX10_does 253 = .ok (.iload 5, 2) := by decide +kernel
theorem dX10_does_255 : decode cX10_does 255 = .ok (.invokevirtual 305, 3) := by decide +kernel
theorem dX10_does_258 : decode cX10_does 258 = .ok (.iload 4, 2) := by decide +kernel
theorem dX10_does_260 : decode cX10_does 260 = .ok (.iconst 2, 1) := by decide +kernel
theorem dX10_does_261 : decode cX10_does 261 = .ok (.if_icmp .ne 16, 3) := by decide +kernel
theorem dX10_does_264 : decode cX10_does 264 = .ok (.iload 5, 2) := by decide +kernel
theorem dX10_does_266 : decode cX10_does 266 = .ok (.iconst (-1), 1) := by decide +kernel
theorem dX10_does_267 : decode cX10_does 267 = .ok (.if_icmp .ne 10, 3) := by decide +kernel
theorem dX10_does_270 : decode cX10_does 270 = .ok (.aload_n 0, 1) := by decide +kernel
theorem dX10_does_271 : decode cX10_does 271 = .ok (.getfield 70, 3) := by decide +kernel
theorem dX10_does_274 : decode cX10_does 274 = .ok (.iload_n 2, 1) := by decide +kernel
theorem dX10_does_275 : decode cX10_does 275 = .ok (.iconst (-1), 1) := by decide +kernel
theorem dX10_does_276 : decode cX10_does 276 = .ok (.iastore, 1) := by decide +kernel
theorem dX10_does_277 : decode cX10_does 277 = .ok (.iload 4, 2) := by decide +kernel
theorem dX10_does_279 : decode cX10_does 279 = .ok (.bipush 6, 2) := by decide +kernel
theorem dX10_does_281 : decode cX10_does 281 = .ok (.if_icmp .ne 37, 3) := by decide +kernel
theorem dX10_does_284 : decode cX10_does 284 = .ok (.iload_n 2, 1) := by decide +kernel
theorem dX10_does_285 : decode cX10_does 285 = .ok (.aload_n 0, 1) := by decide +kernel
theorem dX10_does_286 : decode cX10_does 286 = .ok (.getfield 13, 3) := by decide +kernel
theorem dX10_does_289 : decode cX10_does 289 = .ok (.iload_n 1, 1) := by decide +kernel
theorem dX10_does_290 : decode cX10_does 290 = .ok (.iaload, 1) := by decide +kernel
theorem dX10_does_291 : decode cX10_does 291 = .ok (.if_icmp .eq 27, 3) := by decide +kernel
theorem dX10_does_294 : decode cX10_does 294 = .ok (.aload_n 0, 1) := by decide +kernel
theorem dX10_does_295 : decode cX10_does 295 = .ok (.getfield 70, 3) := by decide +kernel
theorem dX10_does_298 : decode cX10_does 298 = .ok (.aload_n 0, 1) := by decide +kernel
theorem dX10_does_299 : decode cX10_does 299 = .ok (.getfield 13, 3) := by decide +kernel
theorem dX10_does_302 : decode cX10_does 302 = .ok (.iload_n 1, 1) := by decide +kernel
theorem dX10_does_303 : decode cX10_does 303 = .ok (.iaload, 1) := by decide +kernel
theorem dX10_does_304 : decode cX10_does 304 = .ok (.aload_n 0, 1) := by decide +kernel
theorem dX10_does_305 : decode cX10_does 305 = .ok (.getfield 70, 3) := by decide +kernel
theorem dX10_does_308 : decode cX10_does 308 = .ok (.iload_n 2, 1) := by decide +kernel
theorem dX10_does_309 : decode cX10_does 309 = .ok (.iaload, 1) := by decide +kernel
theorem dX10_does_310 : decode cX10_does 310 = .ok (.iastore, 1) := by decide +kernel
theorem dX10_does_311 : decode cX10_does 311 = .ok (.aload_n 0, 1) := by decide +kernel
theorem dX10_does_312 : decode cX10_does 312 = .ok (.getfield 70, 3) := by decide +kernel
theorem dX10_does_315 : decode cX10_does 315 = .ok (.iload_n 2, 1) := by decide +kernel
theorem dX10_does_316 : decode cX10_does 316 = .ok (.iconst (-1), 1) := by decide +kernel
theorem dX10_does_317 : decode cX10_does 317 = .ok (.iastore, 1) := by decide +kernel
theorem dX10_does_318 : decode cX10_does 318 = .ok (.return_, 1) := by decide +kernel
def f_X10_does (p1 : Int32) (s0 : sh_S) : Option (sh_S) := gu (inb p1 24) (ob (f_X10_variable (s0 3 (ix p1))) (fun v2 => gu (inb p1 24) (lb ((s0 3 (ix p1))) (fun v4 => lb ((v4 - v4 / (6 : Int32) * (6 : Int32))) (fun v5 => ob (f_X10_kind p1 s0) (fun v6 => ob (f_X10_goesBy p1 s0) (fun v7 => ob (if v7 = (-1 : Int32) then some (-1 : Int32) else gu (inb v2 8) (some (s0 21 (ix v2)))) (fun v8 => ob (if v8 = (-1 : Int32) then some v2 else gu (inb v8 301) (some (s0 16 (ix v8)))) (fun v10 => ob (if v8 = (-1 : Int32) then some v5 else (if v5 = (3 : Int32) then gu (inb v8 301) (some (s0 17 (ix v8))) else gu (inb v8 301) ((if (s0 17 (ix v8)) = 0 then some (v5 - (3 : Int32)) else gu (inb v8 301) (some (s0 17 (ix v8))))))) (fun v12 => ob (if v8 = (-1 : Int32) then some s0 else gu (inb v8 301) ((if (s0 15 (ix v8)) = (5 : Int32) then gu (inb v8 301) ((if (s0 20 (ix v8)) = 0 then gu (inb v8 301) (gu (inb v8 301) (ob (f_X10_accesses (s0 16 (ix v8)) (s0 17 (ix v8)) (1 : Int32) v8 s0) (fun s21 => gu (inb v8 301) (lb (ur s21 20 (upd (s21 20) (ix v8) (1 : Int32))) (fun s23 => some s23))))) else some s0)) else some s0))) (fun s16 => ob (f_X10_in v6 (1 : Int32) (5 : Int32)) (fun v24 => ob (if v24 = 0 then some s16 else ob (if v6 = (2 : Int32) then some (1 : Int32) else (if v6 = (4 : Int32) then some (1 : Int32) else some (0 : Int32))) (fun v26 => ob (f_X10_accesses v10 v12 v26 v8 s16) (fun s27 => some s27))) (fun s25 => ob (if v6 = (6 : Int32) then ob (f_X10_accesses v2 (0 : Int32) (1 : Int32) (-1 : Int32) s25) (fun s29 => some s29) else some s25) (fun s28 => ob (f_X10_in v6 (3 : Int32) (6 : Int32)) (fun v30 => ob (if v30 = 0 then some s28 else gu (inb p1 24) (ob (f_X10_accesses (s28 2 (ix p1)) (0 : Int32) (1 : Int32) (-1 : Int32) s28) (fun s33 => some s33))) (fun s31 => ob (f_X10_lends p1 s31) (fun v34 => ob (if v34 = 0 then some s31 else ob (f_X10_makes p1 v10 v12 v8 s31) (fun s36 => some s36)) (fun s35 => ob (if v6 = (2 : Int32) then (if v8 = (-1 : Int32) then gu (inb v2 8) (lb (ur s35 21 (upd (s35 21) (ix v2) (-1 : Int32))) (fun s39 => some s39)) else some s35) else some s35) (fun s37 => ob (if v6 = (6 : Int32) then gu (inb p1 24) ((if v2 = (s37 2 (ix p1)) then some s37 else gu (inb p1 24) (gu (inb v2 8) (gu (inb (s37 2 (ix p1)) 8) (lb (ur s37 21 (upd (s37 21) (ix (s37 2 (ix p1))) (s37 21 (ix v2)))) (fun s45 => gu (inb v2 8) (lb (ur s45 21 (upd (s45 21) (ix v2) (-1 : Int32))) (fun s47 => some s47)))))))) else some s37) (fun s40 => some s40))))))))))))))))))))
set_option maxRecDepth 100000 in
set_option maxHeartbeats 4000000 in
theorem c_X10_does (p1 : Int32) (s0 : sh_S) (s9x : sh_S) (hf : f_X10_does p1 s0 = some s9x) : Ctr yX10_does cX10_does 8 none ({ frames := 3, cells := 0, slots := 0, locals := 65 } : Room) shM [.ref 0, .int p1] s0 none s9x := by
  refine Ctr.mk (ri := .return_) (by decide) (Nat.le_of_ble_eq_true rfl) (Rt_v) ?_
  intro G h hL hR hret
  refine k_drop (lv' := [(0, .ref 0), (1, .int p1)]) [0, 1] rfl ?_
  unfold f_X10_does at hf
  refine k_aload_n (pc := 0) h dX10_does_0 rfl 0 rfl ?_
  refine k_getR (pc := 1) h fl_RX10_16 rfl rfl dX10_does_1 ?_
  refine k_iload_n (pc := 4) h dX10_does_4 rfl 1 rfl ?_
  obtain ⟨g1, hf⟩ := gu_s hf
  refine k_iald (pc := 5) (n := 24) h rfl g1 dX10_does_5 ?_
  obtain ⟨v2, cv2, hf⟩ := ob_s hf
  refine k_callSp (pc := 6) h cs_RX10_128 (c_X10_variable (s0 3 (ix p1)) _ v2 cv2) rfl rfl (st1 := [.int v2]) rfl ⟨rfl, rfl⟩ (rk hR (Nat.le_of_ble_eq_true rfl) (Nat.le_of_ble_eq_true rfl)) (Nat.le_of_ble_eq_true rfl) dX10_does_6 ?_
  refine k_istore_n (pc := 9) h dX10_does_9 rfl (nk hL (by decide)) (lv' := [(0, .ref 0), (1, .int p1), (2, .int v2)]) rfl ?_
  refine k_aload_n (pc := 10) h dX10_does_10 rfl 0 rfl ?_
  refine k_getR (pc := 11) h fl_RX10_16 rfl rfl dX10_does_11 ?_
  refine k_iload_n (pc := 14) h dX10_does_14 rfl 1 rfl ?_
  obtain ⟨g3, hf⟩ := gu_s hf
  refine k_iald (pc := 15) (n := 24) h rfl g3 dX10_does_15 ?_
  refine k_bipush (pc := 16) h dX10_does_16 kc_bipush_6 ?_
  obtain ⟨v4, ev4, hf⟩ := lb_s hf
  refine k_sec ev4 ?_
  refine k_irem (pc := 18) h dX10_does_18 (by decide) ?_
  obtain ⟨v5, ev5, hf⟩ := lb_s hf
  refine k_top ev5 ?_
  refine k_istore_n (pc := 19) h dX10_does_19 rfl (nk hL (by decide)) (lv' := [(0, .ref 0), (1, .int p1), (2, .int v2), (3, .int v5)]) rfl ?_
  refine k_aload_n (pc := 20) h dX10_does_20 rfl 0 rfl ?_
  refine k_iload_n (pc := 21) h dX10_does_21 rfl 1 rfl ?_
  obtain ⟨v6, cv6, hf⟩ := ob_s hf
  refine k_callV0 (pc := 22) h cv_RX10_174 (c_X10_kind p1 s0 v6 cv6) rfl rfl rfl (st1 := [.int v6]) rfl ⟨rfl, rfl⟩ (rk hR (Nat.le_of_ble_eq_true rfl) (Nat.le_of_ble_eq_true rfl)) (Nat.le_of_ble_eq_true rfl) dX10_does_22 ?_
  refine k_istore (pc := 25) h dX10_does_25 (nk hL (by decide)) (lv' := [(0, .ref 0), (1, .int p1), (2, .int v2), (3, .int v5), (4, .int v6)]) rfl ?_
  refine k_aload_n (pc := 27) h dX10_does_27 rfl 0 rfl ?_
  refine k_iload_n (pc := 28) h dX10_does_28 rfl 1 rfl ?_
  obtain ⟨v7, cv7, hf⟩ := ob_s hf
  refine k_callV0 (pc := 29) h cv_RX10_171 (c_X10_goesBy p1 s0 v7 cv7) rfl rfl rfl (st1 := [.int v7]) rfl ⟨rfl, rfl⟩ (rk hR (Nat.le_of_ble_eq_true rfl) (Nat.le_of_ble_eq_true rfl)) (Nat.le_of_ble_eq_true rfl) dX10_does_29 ?_
  refine k_iconst (pc := 32) h dX10_does_32 kc_iconst_m1 ?_
  obtain ⟨v8, hj, hf⟩ := ob_s hf
  have kj33 : sh_K G shM 46 [(0, .ref 0), (1, .int p1), (2, .int v2), (3, .int v5), (4, .int v6)] [.int v8] s0 := by
    refine k_istore (pc := 46) h dX10_does_46 (nk hL (by decide)) (lv' := [(0, .ref 0), (1, .int p1), (2, .int v2), (3, .int v5), (4, .int v6), (5, .int v8)]) rfl ?_
    refine k_iload (pc := 48) h dX10_does_48 5 rfl ?_
    refine k_iconst (pc := 50) h dX10_does_50 kc_iconst_m1 ?_
    obtain ⟨v10, hj, hf⟩ := ob_s hf
    have kj51 : sh_K G shM 65 [(0, .ref 0), (1, .int p1), (2, .int v2), (3, .int v5), (4, .int v6), (5, .int v8)] [.int v10] s0 := by
      refine k_istore (pc := 65) h dX10_does_65 (nk hL (by decide)) (lv' := [(0, .ref 0), (1, .int p1), (2, .int v2), (3, .int v5), (4, .int v6), (5, .int v8), (6, .int v10)]) rfl ?_
      refine k_iload (pc := 67) h dX10_does_67 5 rfl ?_
      refine k_iconst (pc := 69) h dX10_does_69 kc_iconst_m1 ?_
      obtain ⟨v12, hj, hf⟩ := ob_s hf
      have kj70 : sh_K G shM 105 [(0, .ref 0), (1, .int p1), (2, .int v2), (4, .int v6), (5, .int v8), (6, .int v10)] [.int v12] s0 := by
        refine k_istore (pc := 105) h dX10_does_105 (nk hL (by decide)) (lv' := [(0, .ref 0), (1, .int p1), (2, .int v2), (4, .int v6), (5, .int v8), (6, .int v10), (7, .int v12)]) rfl ?_
        refine k_iload (pc := 107) h dX10_does_107 4 rfl ?_
        refine k_iconst (pc := 109) h dX10_does_109 kc_iconst_m1 ?_
        obtain ⟨s16, hj, hf⟩ := ob_s hf
        have kj110 : sh_K G shM 163 [(0, .ref 0), (1, .int p1), (2, .int v2), (4, .int v6), (5, .int v8), (6, .int v10), (7, .int v12)] [] s16 := by
          refine k_iload (pc := 163) h dX10_does_163 3 rfl ?_
          refine k_iconst (pc := 165) h dX10_does_165 kc_iconst_1 ?_
          refine k_iconst (pc := 166) h dX10_does_166 kc_iconst_5 ?_
          obtain ⟨v24, cv24, hf⟩ := ob_s hf
          refine k_callSp (pc := 167) h cs_RX10_93 (c_X10_in v6 (1 : Int32) (5 : Int32) _ v24 cv24) rfl rfl (st1 := [.int v24]) rfl ⟨rfl, rfl⟩ (rk hR (Nat.le_of_ble_eq_true rfl) (Nat.le_of_ble_eq_true rfl)) (Nat.le_of_ble_eq_true rfl) dX10_does_167 ?_
          obtain ⟨s25, hj, hf⟩ := ob_s hf
          have kj170 : sh_K G shM 200 [(0, .ref 0), (1, .int p1), (2, .int v2), (4, .int v6), (5, .int v8), (6, .int v10), (7, .int v12)] [] s25 := by
            refine k_iload (pc := 200) h dX10_does_200 3 rfl ?_
            refine k_bipush (pc := 202) h dX10_does_202 kc_bipush_6 ?_
            obtain ⟨s28, hj, hf⟩ := ob_s hf
            have kj204 : sh_K G shM 215 [(0, .ref 0), (1, .int p1), (2, .int v2), (4, .int v6), (5, .int v8), (6, .int v10), (7, .int v12)] [] s28 := by
              refine k_iload (pc := 215) h dX10_does_215 3 rfl ?_
              refine k_iconst (pc := 217) h dX10_does_217 kc_iconst_3 ?_
              refine k_bipush (pc := 218) h dX10_does_218 kc_bipush_6 ?_
              obtain ⟨v30, cv30, hf⟩ := ob_s hf
              refine k_callSp (pc := 220) h cs_RX10_93 (c_X10_in v6 (3 : Int32) (6 : Int32) _ v30 cv30) rfl rfl (st1 := [.int v30]) rfl ⟨rfl, rfl⟩ (rk hR (Nat.le_of_ble_eq_true rfl) (Nat.le_of_ble_eq_true rfl)) (Nat.le_of_ble_eq_true rfl) dX10_does_220 ?_
              obtain ⟨s31, hj, hf⟩ := ob_s hf
              have kj223 : sh_K G shM 239 [(0, .ref 0), (1, .int p1), (2, .int v2), (4, .int v6), (5, .int v8), (6, .int v10), (7, .int v12)] [] s31 := by
                refine k_aload_n (pc := 239) h dX10_does_239 rfl 0 rfl ?_
                refine k_iload_n (pc := 240) h dX10_does_240 rfl 1 rfl ?_
                obtain ⟨v34, cv34, hf⟩ := ob_s hf
                refine k_callV0 (pc := 241) h cv_RX10_143 (c_X10_lends p1 s31 v34 cv34) rfl rfl rfl (st1 := [.int v34]) rfl ⟨rfl, rfl⟩ (rk hR (Nat.le_of_ble_eq_true rfl) (Nat.le_of_ble_eq_true rfl)) (Nat.le_of_ble_eq_true rfl) dX10_does_241 ?_
                obtain ⟨s35, hj, hf⟩ := ob_s hf
                have kj244 : sh_K G shM 258 [(0, .ref 0), (1, .int p1), (2, .int v2), (4, .int v6), (5, .int v8)] [] s35 := by
                  refine k_iload (pc := 258) h dX10_does_258 3 rfl ?_
                  refine k_iconst (pc := 260) h dX10_does_260 kc_iconst_2 ?_
                  obtain ⟨s37, hj, hf⟩ := ob_s hf
                  have kj261 : sh_K G shM 277 [(0, .ref 0), (1, .int p1), (2, .int v2), (4, .int v6)] [] s37 := by
                    refine k_iload (pc := 277) h dX10_does_277 3 rfl ?_
                    refine k_bipush (pc := 279) h dX10_does_279 kc_bipush_6 ?_
                    obtain ⟨s40, hj, hf⟩ := ob_s hf
                    have kj281 : sh_K G shM 318 [] [] s40 := by
                      obtain rfl := so1 hf
                      exact hret 318 _ dX10_does_318 trivial
                    clear hf
                    have hf := hj
                    clear hj
                    refine k_icmp_ne (pc := 281) (tgt := 318) h dX10_does_281 rfl (fun hc => ?_) (fun hc => ?_)
                    · have hf := it_n hc hf
                      obtain rfl := so1 hf
                      exact k_drop [] rfl kj281
                    · have hf := it_p hc hf
                      refine k_iload_n (pc := 284) h dX10_does_284 rfl 2 rfl ?_
                      refine k_aload_n (pc := 285) h dX10_does_285 rfl 0 rfl ?_
                      refine k_getR (pc := 286) h fl_RX10_13 rfl rfl dX10_does_286 ?_
                      refine k_iload_n (pc := 289) h dX10_does_289 rfl 1 rfl ?_
                      obtain ⟨g41, hf⟩ := gu_s hf
                      refine k_iald (pc := 290) (n := 24) h rfl g41 dX10_does_290 ?_
                      refine k_icmp_eq (pc := 291) (tgt := 318) h dX10_does_291 rfl (fun hc => ?_) (fun hc => ?_)
                      · have hf := it_p hc hf
                        obtain rfl := so1 hf
                        exact k_drop [] rfl kj281
                      · have hf := it_n hc hf
                        refine k_aload_n (pc := 294) h dX10_does_294 rfl 0 rfl ?_
                        refine k_getR (pc := 295) h fl_RX10_70 rfl rfl dX10_does_295 ?_
                        refine k_aload_n (pc := 298) h dX10_does_298 rfl 0 rfl ?_
                        refine k_getR (pc := 299) h fl_RX10_13 rfl rfl dX10_does_299 ?_
                        refine k_iload_n (pc := 302) h dX10_does_302 rfl 1 rfl ?_
                        obtain ⟨g42, hf⟩ := gu_s hf
                        refine k_iald (pc := 303) (n := 24) h rfl g42 dX10_does_303 ?_
                        refine k_aload_n (pc := 304) h dX10_does_304 rfl 0 rfl ?_
                        refine k_getR (pc := 305) h fl_RX10_70 rfl rfl dX10_does_305 ?_
                        refine k_iload_n (pc := 308) h dX10_does_308 rfl 2 rfl ?_
                        obtain ⟨g43, hf⟩ := gu_s hf
                        refine k_iald (pc := 309) (n := 8) h rfl g43 dX10_does_309 ?_
                        obtain ⟨g44, hf⟩ := gu_s hf
                        obtain ⟨s45, es45, hf⟩ := lb_s hf
                        refine k_iast (pc := 310) (n := 8) h rfl g44 dX10_does_310 ?_
                        refine k_heap es45 ?_
                        refine k_aload_n (pc := 311) h dX10_does_311 rfl 0 rfl ?_
                        refine k_getR (pc := 312) h fl_RX10_70 rfl rfl dX10_does_312 ?_
                        refine k_iload_n (pc := 315) h dX10_does_315 rfl 2 rfl ?_
                        refine k_iconst (pc := 316) h dX10_does_316 kc_iconst_m1 ?_
                        obtain ⟨g46, hf⟩ := gu_s hf
                        obtain ⟨s47, es47, hf⟩ := lb_s hf
                        refine k_iast (pc := 317) (n := 8) h rfl g46 dX10_does_317 ?_
                        refine k_heap es47 ?_
                        obtain rfl := so1 hf
                        exact k_drop [] rfl kj281
                  clear hf
                  have hf := hj
                  clear hj
                  refine k_icmp_ne (pc := 261) (tgt := 277) h dX10_does_261 rfl (fun hc => ?_) (fun hc => ?_)
                  · have hf := it_n hc hf
                    obtain rfl := so1 hf
                    exact k_drop [0, 1, 2, 3] rfl kj261
                  · have hf := it_p hc hf
                    refine k_iload (pc := 264) h dX10_does_264 4 rfl ?_
                    refine k_iconst (pc := 266) h dX10_does_266 kc_iconst_m1 ?_
                    refine k_icmp_ne (pc := 267) (tgt := 277) h dX10_does_267 rfl (fun hc => ?_) (fun hc => ?_)
                    · have hf := it_n hc hf
                      obtain rfl := so1 hf
                      exact k_drop [0, 1, 2, 3] rfl kj261
                    · have hf := it_p hc hf
                      refine k_aload_n (pc := 270) h dX10_does_270 rfl 0 rfl ?_
                      refine k_getR (pc := 271) h fl_RX10_70 rfl rfl dX10_does_271 ?_
                      refine k_iload_n (pc := 274) h dX10_does_274 rfl 2 rfl ?_
                      refine k_iconst (pc := 275) h dX10_does_275 kc_iconst_m1 ?_
                      obtain ⟨g38, hf⟩ := gu_s hf
                      obtain ⟨s39, es39, hf⟩ := lb_s hf
                      refine k_iast (pc := 276) (n := 8) h rfl g38 dX10_does_276 ?_
                      refine k_heap es39 ?_
                      obtain rfl := so1 hf
                      exact k_drop [0, 1, 2, 3] rfl kj261
                clear hf
                have hf := hj
                clear hj
                refine k_if_eq (pc := 244) (tgt := 258) h dX10_does_244 rfl (fun hc => ?_) (fun hc => ?_)
                · have hf := it_p hc hf
                  obtain rfl := so1 hf
                  exact k_drop [0, 1, 2, 3, 4] rfl kj244
                · have hf := it_n hc hf
                  refine k_aload_n (pc := 247) h dX10_does_247 rfl 0 rfl ?_
                  refine k_iload_n (pc := 248) h dX10_does_248 rfl 1 rfl ?_
                  refine k_iload (pc := 249) h dX10_does_249 5 rfl ?_
                  refine k_iload (pc := 251) h dX10_does_251 6 rfl ?_
                  refine k_iload (pc := 253) h dX10_does_253 4 rfl ?_
                  obtain ⟨s36, cs36, hf⟩ := ob_s hf
                  refine k_callV0 (pc := 255) h cv_RX10_305 (c_X10_makes p1 v10 v12 v8 s31 s36 cs36) rfl rfl rfl (st1 := []) rfl ⟨rfl, rfl⟩ (rk hR (Nat.le_of_ble_eq_true rfl) (Nat.le_of_ble_eq_true rfl)) (Nat.le_of_ble_eq_true rfl) dX10_does_255 ?_
                  obtain rfl := so1 hf
                  exact k_drop [0, 1, 2, 3, 4] rfl kj244
              clear hf
              have hf := hj
              clear hj
              refine k_if_eq (pc := 223) (tgt := 239) h dX10_does_223 rfl (fun hc => ?_) (fun hc => ?_)
              · have hf := it_p hc hf
                obtain rfl := so1 hf
                exact k_drop [0, 1, 2, 3, 4, 5, 6] rfl kj223
              · have hf := it_n hc hf
                refine k_aload_n (pc := 226) h dX10_does_226 rfl 0 rfl ?_
                refine k_aload_n (pc := 227) h dX10_does_227 rfl 0 rfl ?_
                refine k_getR (pc := 228) h fl_RX10_13 rfl rfl dX10_does_228 ?_
                refine k_iload_n (pc := 231) h dX10_does_231 rfl 1 rfl ?_
                obtain ⟨g32, hf⟩ := gu_s hf
                refine k_iald (pc := 232) (n := 24) h rfl g32 dX10_does_232 ?_
                refine k_iconst (pc := 233) h dX10_does_233 kc_iconst_0 ?_
                refine k_iconst (pc := 234) h dX10_does_234 kc_iconst_1 ?_
                refine k_iconst (pc := 235) h dX10_does_235 kc_iconst_m1 ?_
                obtain ⟨s33, cs33, hf⟩ := ob_s hf
                refine k_callV0 (pc := 236) h cv_RX10_301 (c_X10_accesses (s28 2 (ix p1)) (0 : Int32) (1 : Int32) (-1 : Int32) s28 s33 cs33) rfl rfl rfl (st1 := []) rfl ⟨rfl, rfl⟩ (rk hR (Nat.le_of_ble_eq_true rfl) (Nat.le_of_ble_eq_true rfl)) (Nat.le_of_ble_eq_true rfl) dX10_does_236 ?_
                obtain rfl := so1 hf
                exact k_drop [0, 1, 2, 3, 4, 5, 6] rfl kj223
            clear hf
            have hf := hj
            clear hj
            refine k_icmp_ne (pc := 204) (tgt := 215) h dX10_does_204 rfl (fun hc => ?_) (fun hc => ?_)
            · have hf := it_n hc hf
              obtain rfl := so1 hf
              exact k_drop [0, 1, 2, 3, 4, 5, 6] rfl kj204
            · have hf := it_p hc hf
              refine k_aload_n (pc := 207) h dX10_does_207 rfl 0 rfl ?_
              refine k_iload_n (pc := 208) h dX10_does_208 rfl 2 rfl ?_
              refine k_iconst (pc := 209) h dX10_does_209 kc_iconst_0 ?_
              refine k_iconst (pc := 210) h dX10_does_210 kc_iconst_1 ?_
              refine k_iconst (pc := 211) h dX10_does_211 kc_iconst_m1 ?_
              obtain ⟨s29, cs29, hf⟩ := ob_s hf
              refine k_callV0 (pc := 212) h cv_RX10_301 (c_X10_accesses v2 (0 : Int32) (1 : Int32) (-1 : Int32) s25 s29 cs29) rfl rfl rfl (st1 := []) rfl ⟨rfl, rfl⟩ (rk hR (Nat.le_of_ble_eq_true rfl) (Nat.le_of_ble_eq_true rfl)) (Nat.le_of_ble_eq_true rfl) dX10_does_212 ?_
              obtain rfl := so1 hf
              exact k_drop [0, 1, 2, 3, 4, 5, 6] rfl kj204
          clear hf
          have hf := hj
          clear hj
          refine k_if_eq (pc := 170) (tgt := 200) h dX10_does_170 rfl (fun hc => ?_) (fun hc => ?_)
          · have hf := it_p hc hf
            obtain rfl := so1 hf
            exact k_drop [0, 1, 2, 3, 4, 5, 6] rfl kj170
          · have hf := it_n hc hf
            refine k_aload_n (pc := 173) h dX10_does_173 rfl 0 rfl ?_
            refine k_iload (pc := 174) h dX10_does_174 5 rfl ?_
            refine k_iload (pc := 176) h dX10_does_176 6 rfl ?_
            refine k_iload (pc := 178) h dX10_does_178 3 rfl ?_
            refine k_iconst (pc := 180) h dX10_does_180 kc_iconst_2 ?_
            obtain ⟨v26, hj, hf⟩ := ob_s hf
            have kj181 : sh_K G shM 195 [(0, .ref 0), (1, .int p1), (2, .int v2), (4, .int v6), (5, .int v8), (6, .int v10), (7, .int v12)] [.int v26, .int v12, .int v10, .ref 0] s16 := by
              refine k_iload (pc := 195) h dX10_does_195 4 rfl ?_
              obtain ⟨s27, cs27, hf⟩ := ob_s hf
              refine k_callV0 (pc := 197) h cv_RX10_301 (c_X10_accesses v10 v12 v26 v8 s16 s27 cs27) rfl rfl rfl (st1 := []) rfl ⟨rfl, rfl⟩ (rk hR (Nat.le_of_ble_eq_true rfl) (Nat.le_of_ble_eq_true rfl)) (Nat.le_of_ble_eq_true rfl) dX10_does_197 ?_
              obtain rfl := so1 hf
              exact k_drop [0, 1, 2, 3, 4, 5, 6] rfl kj170
            clear hf
            have hf := hj
            clear hj
            refine k_icmp_eq (pc := 181) (tgt := 190) h dX10_does_181 rfl (fun hc => ?_) (fun hc => ?_)
            · have hf := it_p hc hf
              refine k_iconst (pc := 190) h dX10_does_190 kc_iconst_1 ?_
              refine k_goto (pc := 191) (tgt := 195) h dX10_does_191 rfl ?_
              obtain rfl := so1 hf
              exact k_drop [0, 1, 2, 3, 4, 5, 6] rfl kj181
            · have hf := it_n hc hf
              refine k_iload (pc := 184) h dX10_does_184 3 rfl ?_
              refine k_iconst (pc := 186) h dX10_does_186 kc_iconst_4 ?_
              refine k_icmp_ne (pc := 187) (tgt := 194) h dX10_does_187 rfl (fun hc => ?_) (fun hc => ?_)
              · have hf := it_n hc hf
                refine k_iconst (pc := 194) h dX10_does_194 kc_iconst_0 ?_
                obtain rfl := so1 hf
                exact k_drop [0, 1, 2, 3, 4, 5, 6] rfl kj181
              · have hf := it_p hc hf
                refine k_iconst (pc := 190) h dX10_does_190 kc_iconst_1 ?_
                refine k_goto (pc := 191) (tgt := 195) h dX10_does_191 rfl ?_
                obtain rfl := so1 hf
                exact k_drop [0, 1, 2, 3, 4, 5, 6] rfl kj181
        clear hf
        have hf := hj
        clear hj
        refine k_icmp_eq (pc := 110) (tgt := 163) h dX10_does_110 rfl (fun hc => ?_) (fun hc => ?_)
        · have hf := it_p hc hf
          obtain rfl := so1 hf
          exact k_drop [0, 1, 2, 3, 4, 5, 6] rfl kj110
        · have hf := it_n hc hf
          refine k_aload_n (pc := 113) h dX10_does_113 rfl 0 rfl ?_
          refine k_getR (pc := 114) h fl_RX10_52 rfl rfl dX10_does_114 ?_
          refine k_iload (pc := 117) h dX10_does_117 4 rfl ?_
          obtain ⟨g17, hf⟩ := gu_s hf
          refine k_iald (pc := 119) (n := 301) h rfl g17 dX10_does_119 ?_
          refine k_iconst (pc := 120) h dX10_does_120 kc_iconst_5 ?_
          refine k_icmp_ne (pc := 121) (tgt := 163) h dX10_does_121 rfl (fun hc => ?_) (fun hc => ?_)
          · have hf := it_n hc hf
            obtain rfl := so1 hf
            exact k_drop [0, 1, 2, 3, 4, 5, 6] rfl kj110
          · have hf := it_p hc hf
            refine k_aload_n (pc := 124) h dX10_does_124 rfl 0 rfl ?_
            refine k_getR (pc := 125) h fl_RX10_67 rfl rfl dX10_does_125 ?_
            refine k_iload (pc := 128) h dX10_does_128 4 rfl ?_
            obtain ⟨g18, hf⟩ := gu_s hf
            refine k_iald (pc := 130) (n := 301) h rfl g18 dX10_does_130 ?_
            refine k_if_ne (pc := 131) (tgt := 163) h dX10_does_131 rfl (fun hc => ?_) (fun hc => ?_)
            · have hf := it_n hc hf
              obtain rfl := so1 hf
              exact k_drop [0, 1, 2, 3, 4, 5, 6] rfl kj110
            · have hf := it_p hc hf
              refine k_aload_n (pc := 134) h dX10_does_134 rfl 0 rfl ?_
              refine k_aload_n (pc := 135) h dX10_does_135 rfl 0 rfl ?_
              refine k_getR (pc := 136) h fl_RX10_55 rfl rfl dX10_does_136 ?_
              refine k_iload (pc := 139) h dX10_does_139 4 rfl ?_
              obtain ⟨g19, hf⟩ := gu_s hf
              refine k_iald (pc := 141) (n := 301) h rfl g19 dX10_does_141 ?_
              refine k_aload_n (pc := 142) h dX10_does_142 rfl 0 rfl ?_
              refine k_getR (pc := 143) h fl_RX10_58 rfl rfl dX10_does_143 ?_
              refine k_iload (pc := 146) h dX10_does_146 4 rfl ?_
              obtain ⟨g20, hf⟩ := gu_s hf
              refine k_iald (pc := 148) (n := 301) h rfl g20 dX10_does_148 ?_
              refine k_iconst (pc := 149) h dX10_does_149 kc_iconst_1 ?_
              refine k_iload (pc := 150) h dX10_does_150 4 rfl ?_
              obtain ⟨s21, cs21, hf⟩ := ob_s hf
              refine k_callV0 (pc := 152) h cv_RX10_301 (c_X10_accesses (s0 16 (ix v8)) (s0 17 (ix v8)) (1 : Int32) v8 s0 s21 cs21) rfl rfl rfl (st1 := []) rfl ⟨rfl, rfl⟩ (rk hR (Nat.le_of_ble_eq_true rfl) (Nat.le_of_ble_eq_true rfl)) (Nat.le_of_ble_eq_true rfl) dX10_does_152 ?_
              refine k_aload_n (pc := 155) h dX10_does_155 rfl 0 rfl ?_
              refine k_getR (pc := 156) h fl_RX10_67 rfl rfl dX10_does_156 ?_
              refine k_iload (pc := 159) h dX10_does_159 4 rfl ?_
              refine k_iconst (pc := 161) h dX10_does_161 kc_iconst_1 ?_
              obtain ⟨g22, hf⟩ := gu_s hf
              obtain ⟨s23, es23, hf⟩ := lb_s hf
              refine k_iast (pc := 162) (n := 301) h rfl g22 dX10_does_162 ?_
              refine k_heap es23 ?_
              obtain rfl := so1 hf
              exact k_drop [0, 1, 2, 3, 4, 5, 6] rfl kj110
      clear hf
      have hf := hj
      clear hj
      refine k_icmp_ne (pc := 70) (tgt := 77) h dX10_does_70 rfl (fun hc => ?_) (fun hc => ?_)
      · have hf := it_n hc hf
        refine k_iload_n (pc := 77) h dX10_does_77 rfl 3 rfl ?_
        refine k_iconst (pc := 78) h dX10_does_78 kc_iconst_3 ?_
        refine k_icmp_eq (pc := 79) (tgt := 92) h dX10_does_79 rfl (fun hc => ?_) (fun hc => ?_)
        · have hf := it_p hc hf
          refine k_aload_n (pc := 92) h dX10_does_92 rfl 0 rfl ?_
          refine k_getR (pc := 93) h fl_RX10_58 rfl rfl dX10_does_93 ?_
          refine k_iload (pc := 96) h dX10_does_96 5 rfl ?_
          obtain ⟨g13, hf⟩ := gu_s hf
          refine k_iald (pc := 98) (n := 301) h rfl g13 dX10_does_98 ?_
          refine k_goto (pc := 99) (tgt := 105) h dX10_does_99 rfl ?_
          obtain rfl := so1 hf
          exact k_drop [0, 1, 2, 4, 5, 6] rfl kj70
        · have hf := it_n hc hf
          refine k_aload_n (pc := 82) h dX10_does_82 rfl 0 rfl ?_
          refine k_getR (pc := 83) h fl_RX10_58 rfl rfl dX10_does_83 ?_
          refine k_iload (pc := 86) h dX10_does_86 5 rfl ?_
          obtain ⟨g14, hf⟩ := gu_s hf
          refine k_iald (pc := 88) (n := 301) h rfl g14 dX10_does_88 ?_
          refine k_if_eq (pc := 89) (tgt := 102) h dX10_does_89 rfl (fun hc => ?_) (fun hc => ?_)
          · have hf := it_p hc hf
            refine k_iload_n (pc := 102) h dX10_does_102 rfl 3 rfl ?_
            refine k_iconst (pc := 103) h dX10_does_103 kc_iconst_3 ?_
            refine k_isub (pc := 104) h dX10_does_104 ?_
            obtain rfl := so1 hf
            exact k_drop [0, 1, 2, 4, 5, 6] rfl kj70
          · have hf := it_n hc hf
            refine k_aload_n (pc := 92) h dX10_does_92 rfl 0 rfl ?_
            refine k_getR (pc := 93) h fl_RX10_58 rfl rfl dX10_does_93 ?_
            refine k_iload (pc := 96) h dX10_does_96 5 rfl ?_
            obtain ⟨g15, hf⟩ := gu_s hf
            refine k_iald (pc := 98) (n := 301) h rfl g15 dX10_does_98 ?_
            refine k_goto (pc := 99) (tgt := 105) h dX10_does_99 rfl ?_
            obtain rfl := so1 hf
            exact k_drop [0, 1, 2, 4, 5, 6] rfl kj70
      · have hf := it_p hc hf
        refine k_iload_n (pc := 73) h dX10_does_73 rfl 3 rfl ?_
        refine k_goto (pc := 74) (tgt := 105) h dX10_does_74 rfl ?_
        obtain rfl := so1 hf
        exact k_drop [0, 1, 2, 4, 5, 6] rfl kj70
    clear hf
    have hf := hj
    clear hj
    refine k_icmp_ne (pc := 51) (tgt := 58) h dX10_does_51 rfl (fun hc => ?_) (fun hc => ?_)
    · have hf := it_n hc hf
      refine k_aload_n (pc := 58) h dX10_does_58 rfl 0 rfl ?_
      refine k_getR (pc := 59) h fl_RX10_55 rfl rfl dX10_does_59 ?_
      refine k_iload (pc := 62) h dX10_does_62 5 rfl ?_
      obtain ⟨g11, hf⟩ := gu_s hf
      refine k_iald (pc := 64) (n := 301) h rfl g11 dX10_does_64 ?_
      obtain rfl := so1 hf
      exact k_drop [0, 1, 2, 3, 4, 5] rfl kj51
    · have hf := it_p hc hf
      refine k_iload_n (pc := 54) h dX10_does_54 rfl 2 rfl ?_
      refine k_goto (pc := 55) (tgt := 65) h dX10_does_55 rfl ?_
      obtain rfl := so1 hf
      exact k_drop [0, 1, 2, 3, 4, 5] rfl kj51
  clear hf
  have hf := hj
  clear hj
  refine k_icmp_ne (pc := 33) (tgt := 40) h dX10_does_33 rfl (fun hc => ?_) (fun hc => ?_)
  · have hf := it_n hc hf
    refine k_aload_n (pc := 40) h dX10_does_40 rfl 0 rfl ?_
    refine k_getR (pc := 41) h fl_RX10_70 rfl rfl dX10_does_41 ?_
    refine k_iload_n (pc := 44) h dX10_does_44 rfl 2 rfl ?_
    obtain ⟨g9, hf⟩ := gu_s hf
    refine k_iald (pc := 45) (n := 8) h rfl g9 dX10_does_45 ?_
    obtain rfl := so1 hf
    exact k_drop [0, 1, 2, 3, 4] rfl kj33
  · have hf := it_p hc hf
    refine k_iconst (pc := 36) h dX10_does_36 kc_iconst_m1 ?_
    refine k_goto (pc := 37) (tgt := 46) h dX10_does_37 rfl ?_
    obtain rfl := so1 hf
    exact k_drop [0, 1, 2, 3, 4] rfl kj33
