theorem dX4_has_0 : decode cX4_has 0 = .ok (.iload_n 1, 1) := by decide +kernel
theorem dX4_has_1 : decode cX4_has 1 = .ok (.ifCond .lt 15, 3) := by decide +kernel
theorem dX4_has_4 : decode cX4_has 4 = .ok (.iload_n 1, 1) := by decide +kernel
theorem dX4_has_5 : decode cX4_has 5 = .ok (.aload_n 0, 1) := by decide +kernel
theorem dX4_has_6 : decode cX4_has 6 = .ok (.getfield 40, 3) := by decide +kernel
theorem dX4_has_9 : decode cX4_has 9 = .ok (.if_icmp .ge 7, 3) := by decide +kernel
theorem dX4_has_12 : decode cX4_has 12 = .ok (.iconst 1, 1) := by decide +kernel
theorem dX4_has_13 : decode cX4_has 13 = .ok (.goto 4, 3) := by decide +kernel
theorem dX4_has_16 : decode cX4_has 16 = .ok (.iconst 0, 1) := by decide +kernel
theorem dX4_has_17 : decode cX4_has 17 = .ok (.ireturn, 1) := by decide +kernel
def f_X4_has (p1 : Int32) (s0 : sh_S) : Option (Int32) := ob (if p1 < 0 then some (0 : Int32) else (if (s0 0 9) ≤ p1 then some (0 : Int32) else some (1 : Int32))) (fun v1 => gu (v1 = 0 ∨ v1 = 1) (some v1))
set_option maxRecDepth 100000 in
set_option maxHeartbeats 4000000 in
theorem c_X4_has (p1 : Int32) (s0 : sh_S) (r : Int32) (hf : f_X4_has p1 s0 = some r) : Ctr yX4_has cX4_has 2 (some .boolean) ({ frames := 0, cells := 0, slots := 0, locals := 0 } : Room) shLI [.ref 0, .int p1] s0 (some (.int r)) s0 := by
  refine Ctr.mk (ri := .ireturn) (by decide) (Nat.le_of_ble_eq_true rfl) (Rt_z r) ?_
  intro G h hL hR hret
  refine k_drop (lv' := [(0, .ref 0), (1, .int p1)]) [0, 1] rfl ?_
  unfold f_X4_has at hf
  refine k_iload_n (pc := 0) h dX4_has_0 rfl 1 rfl ?_
  obtain ⟨v1, hj, hf⟩ := ob_s hf
  have kj1 : sh_K G shLI 17 [] [.int v1] s0 := by
    obtain ⟨g2, hf⟩ := gu_s hf
    obtain rfl := so1 hf
    exact hret 17 _ dX4_has_17 g2
  clear hf
  have hf := hj
  clear hj
  refine k_if_lt (pc := 1) (tgt := 16) h dX4_has_1 rfl (fun hc => ?_) (fun hc => ?_)
  · have hf := it_p hc hf
    refine k_iconst (pc := 16) h dX4_has_16 kc_iconst_0 ?_
    obtain rfl := so1 hf
    exact k_drop [] rfl kj1
  · have hf := it_n hc hf
    refine k_iload_n (pc := 4) h dX4_has_4 rfl 1 rfl ?_
    refine k_aload_n (pc := 5) h dX4_has_5 rfl 0 rfl ?_
    refine k_getI (pc := 6) h fl_RX4_40 rfl rfl dX4_has_6 ?_
    refine k_icmp_ge (pc := 9) (tgt := 16) h dX4_has_9 rfl (fun hc => ?_) (fun hc => ?_)
    · have hf := it_p hc hf
      refine k_iconst (pc := 16) h dX4_has_16 kc_iconst_0 ?_
      obtain rfl := so1 hf
      exact k_drop [] rfl kj1
    · have hf := it_n hc hf
      refine k_iconst (pc := 12) h dX4_has_12 kc_iconst_1 ?_
      refine k_goto (pc := 13) (tgt := 17) h dX4_has_13 rfl ?_
      obtain rfl := so1 hf
      exact k_drop [] rfl kj1
theorem dX4_turn_0 : decode cX4_turn 0 = .ok (.aload_n 0, 1) := by decide +kernel
theorem dX4_turn_1 : decode cX4_turn 1 = .ok (.getfield 30, 3) := by decide +kernel
theorem dX4_turn_4 : decode cX4_turn 4 = .ok (.iload_n 1, 1) := by decide +kernel
theorem dX4_turn_5 : decode cX4_turn 5 = .ok (.iaload, 1) := by decide +kernel
theorem dX4_turn_6 : decode cX4_turn 6 = .ok (.iconst 3, 1) := by decide +kernel
theorem dX4_turn_7 : decode cX4_turn 7 = .ok (.if_icmp .lt 7, 3) := by decide +kernel
theorem dX4_turn_10 : decode cX4_turn 10 = .ok (.iconst 1, 1) := by decide +kernel
theorem dX4_turn_11 : decode cX4_turn 11 = .ok (.goto 4, 3) := by decide +kernel
theorem dX4_turn_14 : decode cX4_turn 14 = .ok (.iconst 0, 1) := by decide +kernel
theorem dX4_turn_15 : decode cX4_turn 15 = .ok (.istore_n 3, 1) := by decide +kernel
theorem dX4_turn_16 : decode cX4_turn 16 = .ok (.aload_n 0, 1) := by decide +kernel
theorem dX4_turn_17 : decode cX4_turn 17 = .ok (.getfield 9, 3) := by decide +kernel
theorem dX4_turn_20 : decode cX4_turn 20 = .ok (.iload_n 1, 1) := by decide +kernel
theorem dX4_turn_21 : decode cX4_turn 21 = .ok (.iload_n 2, 1) := by decide +kernel
theorem dX4_turn_22 : decode cX4_turn 22 = .ok (.iastore, 1) := by decide +kernel
theorem dX4_turn_23 : decode cX4_turn 23 = .ok (.aload_n 0, 1) := by decide +kernel
theorem dX4_turn_24 : decode cX4_turn 24 = .ok (.getfield 24, 3) := by decide +kernel
theorem dX4_turn_27 : decode cX4_turn 27 = .ok (.iload_n 1, 1) := by decide +kernel
theorem dX4_turn_28 : decode cX4_turn 28 = .ok (.iload_n 2, 1) := by decide +kernel
theorem dX4_turn_29 : decode cX4_turn 29 = .ok (.iconst 5, 1) := by decide +kernel
theorem dX4_turn_30 : decode cX4_turn 30 = .ok (.if_icmp .ne 11, 3) := by decide +kernel
theorem dX4_turn_33 : decode cX4_turn 33 = .ok (.iload_n 3, 1) := by decide +kernel
theorem dX4_turn_34 : decode cX4_turn 34 = .ok (.ifCond .eq 7, 3) := by decide +kernel
theorem dX4_turn_37 : decode cX4_turn 37 = .ok (.iconst 4, 1) := by decide +kernel
theorem dX4_turn_38 : decode cX4_turn 38 = .ok (.goto 4, 3) := by decide +kernel
theorem dX4_turn_41 : decode cX4_turn 41 = .ok (.iload_n 2, 1) := by decide +kernel
theorem dX4_turn_42 : decode cX4_turn 42 = .ok (.iastore, 1) := by decide +kernel
theorem dX4_turn_43 : decode cX4_turn 43 = .ok (.aload_n 0, 1) := by decide +kernel
theorem dX4_turn_44 : decode cX4_turn 44 = .ok (.getfield 33, 3) := by decide +kernel
theorem dX4_turn_47 : decode cX4_turn 47 = .ok (.iload_n 1, 1) := by decide +kernel
theorem dX4_turn_48 : decode cX4_turn 48 = .ok (.iload_n 2, 1) := by decide +kernel
theorem dX4_turn_49 : decode cX4_turn 49 = .ok (.iconst 3, 1) := by decide +kernel
theorem dX4_turn_50 : decode cX4_turn 50 = .ok (.if_icmp .eq 13, 3) := by decide +kernel
theorem dX4_turn_53 : decode cX4_turn 53 = .ok (.iload_n 2, 1) := by decide +kernel
theorem dX4_turn_54 : decode cX4_turn 54 = .ok (.iconst 4, 1) := by decide +kernel
theorem dX4_turn_55 : decode cX4_turn 55 = .ok (.if_icmp .eq 8, 3) := by decide +kernel
theorem dX4_turn_58 : decode cX4_turn 58 = .ok (.iload_n 2, 1) := by decide +kernel
theorem dX4_turn_59 : decode cX4_turn 59 = .ok (.iconst 5, 1) := by decide +kernel
theorem dX4_turn_60 : decode cX4_turn 60 = .ok (.if_icmp .ne 7, 3) := by decide +kernel
theorem dX4_turn_63 : decode cX4_turn 63 = .ok (.iconst 1, 1) := by decide +kernel
theorem dX4_turn_64 : decode cX4_turn 64 = .ok (.goto 4, 3) := by decide +kernel
theorem dX4_turn_67 : decode cX4_turn 67 = .ok (.iconst 0, 1) := by decide +kernel
theorem dX4_turn_68 : decode cX4_turn 68 = .ok (.bastore, 1) := by decide +kernel
theorem dX4_turn_69 : decode cX4_turn 69 = .ok (.aload_n 0, 1) := by decide +kernel
theorem dX4_turn_70 : decode cX4_turn 70 = .ok (.getfield 37, 3) := by decide +kernel
theorem dX4_turn_73 : decode cX4_turn 73 = .ok (.iload_n 1, 1) := by decide +kernel
theorem dX4_turn_74 : decode cX4_turn 74 = .ok (.iload_n 3, 1) := by decide +kernel
theorem dX4_turn_75 : decode cX4_turn 75 = .ok (.ifCond .eq 26, 3) := by decide +kernel
theorem dX4_turn_78 : decode cX4_turn 78 = .ok (.aload_n 0, 1) := by decide +kernel
theorem dX4_turn_79 : decode cX4_turn 79 = .ok (.getfield 33, 3) := by decide +kernel
theorem dX4_turn_82 : decode cX4_turn 82 = .ok (.iload_n 1, 1) := by decide +kernel
theorem dX4_turn_83 : decode cX4_turn 83 = .ok (.baload, 1) := by decide +kernel
theorem dX4_turn_84 : decode cX4_turn 84 = .ok (.ifCond .ne 13, 3) := by decide +kernel
theorem dX4_turn_87 : decode cX4_turn 87 = .ok (.iload_n 2, 1) := by decide +kernel
theorem dX4_turn_88 : decode cX4_turn 88 = .ok (.iconst 1, 1) := by decide +kernel
theorem dX4_turn_89 : decode cX4_turn 89 = .ok (.if_icmp .eq 8, 3) := by decide +kernel
theorem dX4_turn_92 : decode cX4_turn 92 = .ok (.iload_n 2, 1) := by decide +kernel
theorem dX4_turn_93 : decode cX4_turn 93 = .ok (.iconst 2, 1) := by decide +kernel
theorem dX4_turn_94 : decode cX4_turn 94 = .ok (.if_icmp .ne 7, 3) := by decide +kernel
theorem dX4_turn_97 : decode cX4_turn 97 = .ok (.iconst 1, 1) := by decide +kernel
theorem dX4_turn_98 : decode cX4_turn 98 = .ok (.goto 4, 3) := by decide +kernel
theorem dX4_turn_101 : decode cX4_turn 101 = .ok (.iconst 0, 1) := by decide +kernel
theorem dX4_turn_102 : decode cX4_turn 102 = .ok (.bastore, 1) := by decide +kernel
theorem dX4_turn_103 : decode cX4_turn 103 = .ok (.return_, 1) := by decide +kernel
def f_X4_turn (p1 : Int32) (p2 : Int32) (s0 : sh_S) : Option (sh_S) := gu (inb p1 24) (ob (if (s0 7 (ix p1)) < (3 : Int32) then some (0 : Int32) else some (1 : Int32)) (fun v2 => gu (inb p1 24) (lb (ur s0 1 (upd (s0 1) (ix p1) p2)) (fun s4 => ob (if p2 = (5 : Int32) then (if v2 = 0 then some p2 else some (4 : Int32)) else some p2) (fun v5 => gu (inb p1 24) (lb (ur s4 5 (upd (s4 5) (ix p1) v5)) (fun s7 => ob (if p2 = (3 : Int32) then some (1 : Int32) else (if p2 = (4 : Int32) then some (1 : Int32) else (if p2 = (5 : Int32) then some (1 : Int32) else some (0 : Int32)))) (fun v8 => gu (inb p1 24) (lb (ur s7 8 (upd (s7 8) (ix p1) (nz v8))) (fun s10 => ob (if v2 = 0 then some (0 : Int32) else gu (inb p1 24) ((if (s10 8 (ix p1)) = 0 then (if p2 = (1 : Int32) then some (1 : Int32) else (if p2 = (2 : Int32) then some (1 : Int32) else some (0 : Int32))) else some (1 : Int32)))) (fun v11 => gu (inb p1 24) (lb (ur s10 9 (upd (s10 9) (ix p1) (nz v11))) (fun s14 => some s14)))))))))))))
set_option maxRecDepth 100000 in
set_option maxHeartbeats 4000000 in
theorem c_X4_turn (p1 : Int32) (p2 : Int32) (s0 : sh_S) (s9x : sh_S) (hf : f_X4_turn p1 p2 s0 = some s9x) : Ctr yX4_turn cX4_turn 4 none ({ frames := 0, cells := 0, slots := 0, locals := 0 } : Room) shLI [.ref 0, .int p1, .int p2] s0 none s9x := by
  refine Ctr.mk (ri := .return_) (by decide) (Nat.le_of_ble_eq_true rfl) (Rt_v) ?_
  intro G h hL hR hret
  refine k_drop (lv' := [(0, .ref 0), (1, .int p1), (2, .int p2)]) [0, 1, 2] rfl ?_
  unfold f_X4_turn at hf
  refine k_aload_n (pc := 0) h dX4_turn_0 rfl 0 rfl ?_
  refine k_getR (pc := 1) h fl_RX4_30 rfl rfl dX4_turn_1 ?_
  refine k_iload_n (pc := 4) h dX4_turn_4 rfl 1 rfl ?_
  obtain ⟨g1, hf⟩ := gu_s hf
  refine k_iald (pc := 5) (n := 24) h rfl g1 dX4_turn_5 ?_
  refine k_iconst (pc := 6) h dX4_turn_6 kc_iconst_3 ?_
  obtain ⟨v2, hj, hf⟩ := ob_s hf
  have kj7 : sh_K G shLI 15 [(0, .ref 0), (1, .int p1), (2, .int p2)] [.int v2] s0 := by
    refine k_istore_n (pc := 15) h dX4_turn_15 rfl (nk hL (by decide)) (lv' := [(0, .ref 0), (1, .int p1), (2, .int p2), (3, .int v2)]) rfl ?_
    refine k_aload_n (pc := 16) h dX4_turn_16 rfl 0 rfl ?_
    refine k_getR (pc := 17) h fl_RX4_9 rfl rfl dX4_turn_17 ?_
    refine k_iload_n (pc := 20) h dX4_turn_20 rfl 1 rfl ?_
    refine k_iload_n (pc := 21) h dX4_turn_21 rfl 2 rfl ?_
    obtain ⟨g3, hf⟩ := gu_s hf
    obtain ⟨s4, es4, hf⟩ := lb_s hf
    refine k_iast (pc := 22) (n := 24) h rfl g3 dX4_turn_22 ?_
    refine k_heap es4 ?_
    refine k_aload_n (pc := 23) h dX4_turn_23 rfl 0 rfl ?_
    refine k_getR (pc := 24) h fl_RX4_24 rfl rfl dX4_turn_24 ?_
    refine k_iload_n (pc := 27) h dX4_turn_27 rfl 1 rfl ?_
    refine k_iload_n (pc := 28) h dX4_turn_28 rfl 2 rfl ?_
    refine k_iconst (pc := 29) h dX4_turn_29 kc_iconst_5 ?_
    obtain ⟨v5, hj, hf⟩ := ob_s hf
    have kj30 : sh_K G shLI 42 [(0, .ref 0), (1, .int p1), (2, .int p2), (3, .int v2)] [.int v5, .int p1, .ref 5] s4 := by
      obtain ⟨g6, hf⟩ := gu_s hf
      obtain ⟨s7, es7, hf⟩ := lb_s hf
      refine k_iast (pc := 42) (n := 24) h rfl g6 dX4_turn_42 ?_
      refine k_heap es7 ?_
      refine k_aload_n (pc := 43) h dX4_turn_43 rfl 0 rfl ?_
      refine k_getR (pc := 44) h fl_RX4_33 rfl rfl dX4_turn_44 ?_
      refine k_iload_n (pc := 47) h dX4_turn_47 rfl 1 rfl ?_
      refine k_iload_n (pc := 48) h dX4_turn_48 rfl 2 rfl ?_
      refine k_iconst (pc := 49) h dX4_turn_49 kc_iconst_3 ?_
      obtain ⟨v8, hj, hf⟩ := ob_s hf
      have kj50 : sh_K G shLI 68 [(0, .ref 0), (1, .int p1), (2, .int p2), (3, .int v2)] [.int v8, .int p1, .ref 8] s7 := by
        obtain ⟨g9, hf⟩ := gu_s hf
        obtain ⟨s10, es10, hf⟩ := lb_s hf
        refine k_zast (pc := 68) (n := 24) h rfl g9 dX4_turn_68 ?_
        refine k_heap es10 ?_
        refine k_aload_n (pc := 69) h dX4_turn_69 rfl 0 rfl ?_
        refine k_getR (pc := 70) h fl_RX4_37 rfl rfl dX4_turn_70 ?_
        refine k_iload_n (pc := 73) h dX4_turn_73 rfl 1 rfl ?_
        refine k_iload_n (pc := 74) h dX4_turn_74 rfl 3 rfl ?_
        obtain ⟨v11, hj, hf⟩ := ob_s hf
        have kj75 : sh_K G shLI 102 [] [.int v11, .int p1, .ref 9] s10 := by
          obtain ⟨g13, hf⟩ := gu_s hf
          obtain ⟨s14, es14, hf⟩ := lb_s hf
          refine k_zast (pc := 102) (n := 24) h rfl g13 dX4_turn_102 ?_
          refine k_heap es14 ?_
          obtain rfl := so1 hf
          exact hret 103 _ dX4_turn_103 trivial
        clear hf
        have hf := hj
        clear hj
        refine k_if_eq (pc := 75) (tgt := 101) h dX4_turn_75 rfl (fun hc => ?_) (fun hc => ?_)
        · have hf := it_p hc hf
          refine k_iconst (pc := 101) h dX4_turn_101 kc_iconst_0 ?_
          obtain rfl := so1 hf
          exact k_drop [] rfl kj75
        · have hf := it_n hc hf
          refine k_aload_n (pc := 78) h dX4_turn_78 rfl 0 rfl ?_
          refine k_getR (pc := 79) h fl_RX4_33 rfl rfl dX4_turn_79 ?_
          refine k_iload_n (pc := 82) h dX4_turn_82 rfl 1 rfl ?_
          obtain ⟨g12, hf⟩ := gu_s hf
          refine k_zald (pc := 83) (n := 24) h rfl g12 dX4_turn_83 ?_
          refine k_if_ne (pc := 84) (tgt := 97) h dX4_turn_84 rfl (fun hc => ?_) (fun hc => ?_)
          · have hf := it_n hc hf
            refine k_iconst (pc := 97) h dX4_turn_97 kc_iconst_1 ?_
            refine k_goto (pc := 98) (tgt := 102) h dX4_turn_98 rfl ?_
            obtain rfl := so1 hf
            exact k_drop [] rfl kj75
          · have hf := it_p hc hf
            refine k_iload_n (pc := 87) h dX4_turn_87 rfl 2 rfl ?_
            refine k_iconst (pc := 88) h dX4_turn_88 kc_iconst_1 ?_
            refine k_icmp_eq (pc := 89) (tgt := 97) h dX4_turn_89 rfl (fun hc => ?_) (fun hc => ?_)
            · have hf := it_p hc hf
              refine k_iconst (pc := 97) h dX4_turn_97 kc_iconst_1 ?_
              refine k_goto (pc := 98) (tgt := 102) h dX4_turn_98 rfl ?_
              obtain rfl := so1 hf
              exact k_drop [] rfl kj75
            · have hf := it_n hc hf
              refine k_iload_n (pc := 92) h dX4_turn_92 rfl 2 rfl ?_
              refine k_iconst (pc := 93) h dX4_turn_93 kc_iconst_2 ?_
              refine k_icmp_ne (pc := 94) (tgt := 101) h dX4_turn_94 rfl (fun hc => ?_) (fun hc => ?_)
              · have hf := it_n hc hf
                refine k_iconst (pc := 101) h dX4_turn_101 kc_iconst_0 ?_
                obtain rfl := so1 hf
                exact k_drop [] rfl kj75
              · have hf := it_p hc hf
                refine k_iconst (pc := 97) h dX4_turn_97 kc_iconst_1 ?_
                refine k_goto (pc := 98) (tgt := 102) h dX4_turn_98 rfl ?_
                obtain rfl := so1 hf
                exact k_drop [] rfl kj75
      clear hf
      have hf := hj
      clear hj
      refine k_icmp_eq (pc := 50) (tgt := 63) h dX4_turn_50 rfl (fun hc => ?_) (fun hc => ?_)
      · have hf := it_p hc hf
        refine k_iconst (pc := 63) h dX4_turn_63 kc_iconst_1 ?_
        refine k_goto (pc := 64) (tgt := 68) h dX4_turn_64 rfl ?_
        obtain rfl := so1 hf
        exact k_drop [0, 1, 2, 3] rfl kj50
      · have hf := it_n hc hf
        refine k_iload_n (pc := 53) h dX4_turn_53 rfl 2 rfl ?_
        refine k_iconst (pc := 54) h dX4_turn_54 kc_iconst_4 ?_
        refine k_icmp_eq (pc := 55) (tgt := 63) h dX4_turn_55 rfl (fun hc => ?_) (fun hc => ?_)
        · have hf := it_p hc hf
          refine k_iconst (pc := 63) h dX4_turn_63 kc_iconst_1 ?_
          refine k_goto (pc := 64) (tgt := 68) h dX4_turn_64 rfl ?_
          obtain rfl := so1 hf
          exact k_drop [0, 1, 2, 3] rfl kj50
        · have hf := it_n hc hf
          refine k_iload_n (pc := 58) h dX4_turn_58 rfl 2 rfl ?_
          refine k_iconst (pc := 59) h dX4_turn_59 kc_iconst_5 ?_
          refine k_icmp_ne (pc := 60) (tgt := 67) h dX4_turn_60 rfl (fun hc => ?_) (fun hc => ?_)
          · have hf := it_n hc hf
            refine k_iconst (pc := 67) h dX4_turn_67 kc_iconst_0 ?_
            obtain rfl := so1 hf
            exact k_drop [0, 1, 2, 3] rfl kj50
          · have hf := it_p hc hf
            refine k_iconst (pc := 63) h dX4_turn_63 kc_iconst_1 ?_
            refine k_goto (pc := 64) (tgt := 68) h dX4_turn_64 rfl ?_
            obtain rfl := so1 hf
            exact k_drop [0, 1, 2, 3] rfl kj50
    clear hf
    have hf := hj
    clear hj
    refine k_icmp_ne (pc := 30) (tgt := 41) h dX4_turn_30 rfl (fun hc => ?_) (fun hc => ?_)
    · have hf := it_n hc hf
      refine k_iload_n (pc := 41) h dX4_turn_41 rfl 2 rfl ?_
      obtain rfl := so1 hf
      exact k_drop [0, 1, 2, 3] rfl kj30
    · have hf := it_p hc hf
      refine k_iload_n (pc := 33) h dX4_turn_33 rfl 3 rfl ?_
      refine k_if_eq (pc := 34) (tgt := 41) h dX4_turn_34 rfl (fun hc => ?_) (fun hc => ?_)
      · have hf := it_p hc hf
        refine k_iload_n (pc := 41) h dX4_turn_41 rfl 2 rfl ?_
        obtain rfl := so1 hf
        exact k_drop [0, 1, 2, 3] rfl kj30
      · have hf := it_n hc hf
        refine k_iconst (pc := 37) h dX4_turn_37 kc_iconst_4 ?_
        refine k_goto (pc := 38) (tgt := 42) h dX4_turn_38 rfl ?_
        obtain rfl := so1 hf
        exact k_drop [0, 1, 2, 3] rfl kj30
  clear hf
  have hf := hj
  clear hj
  refine k_icmp_lt (pc := 7) (tgt := 14) h dX4_turn_7 rfl (fun hc => ?_) (fun hc => ?_)
  · have hf := it_p hc hf
    refine k_iconst (pc := 14) h dX4_turn_14 kc_iconst_0 ?_
    obtain rfl := so1 hf
    exact k_drop [0, 1, 2] rfl kj7
  · have hf := it_n hc hf
    refine k_iconst (pc := 10) h dX4_turn_10 kc_iconst_1 ?_
    refine k_goto (pc := 11) (tgt := 15) h dX4_turn_11 rfl ?_
    obtain rfl := so1 hf
    exact k_drop [0, 1, 2] rfl kj7
theorem dX4_fill_0 : decode cX4_fill 0 = .ok (.aload_n 0, 1) := by decide +kernel
theorem dX4_fill_1 : decode cX4_fill 1 = .ok (.getfield 15, 3) := by decide +kernel
theorem dX4_fill_4 : decode cX4_fill 4 = .ok (.iload_n 1, 1) := by decide +kernel
theorem dX4_fill_5 : decode cX4_fill 5 = .ok (.iload_n 3, 1) := by decide +kernel
theorem dX4_fill_6 : decode cX4_fill 6 = .ok (.iastore, 1) := by decide +kernel
theorem dX4_fill_7 : decode cX4_fill 7 = .ok (.aload_n 0, 1) := by decide +kernel
theorem dX4_fill_8 : decode cX4_fill 8 = .ok (.getfield 18, 3) := by decide +kernel
theorem dX4_fill_11 : decode cX4_fill 11 = .ok (.iload_n 1, 1) := by decide +kernel
theorem dX4_fill_12 : decode cX4_fill 12 = .ok (.iload 4, 2) := by decide +kernel
theorem dX4_fill_14 : decode cX4_fill 14 = .ok (.iastore, 1) := by decide +kernel
theorem dX4_fill_15 : decode cX4_fill 15 = .ok (.aload_n 0, 1) := by decide +kernel
theorem dX4_fill_16 : decode cX4_fill 16 = .ok (.getfield 21, 3) := by decide +kernel
theorem dX4_fill_19 : decode cX4_fill 19 = .ok (.iload_n 1, 1) := by decide +kernel
theorem dX4_fill_20 : decode cX4_fill 20 = .ok (.iload 5, 2) := by decide +kernel
theorem dX4_fill_22 : decode cX4_fill 22 = .ok (.iastore, 1) := by decide +kernel
theorem dX4_fill_23 : decode cX4_fill 23 = .ok (.aload_n 0, 1) := by decide +kernel
theorem dX4_fill_24 : decode cX4_fill 24 = .ok (.getfield 27, 3) := by decide +kernel
theorem dX4_fill_27 : decode cX4_fill 27 = .ok (.iload_n 1, 1) := by decide +kernel
theorem dX4_fill_28 : decode cX4_fill 28 = .ok (.iload 4, 2) := by decide +kernel
theorem dX4_fill_30 : decode cX4_fill 30 = .ok (.bipush 6, 2) := by decide +kernel
theorem dX4_fill_32 : decode cX4_fill 32 = .ok (.idiv, 1) := by decide +kernel
theorem dX4_fill_33 : decode cX4_fill 33 = .ok (.iastore, 1) := by decide +kernel
theorem dX4_fill_34 : decode cX4_fill 34 = .ok (.aload_n 0, 1) := by decide +kernel
theorem dX4_fill_35 : decode cX4_fill 35 = .ok (.getfield 30, 3) := by decide +kernel
theorem dX4_fill_38 : decode cX4_fill 38 = .ok (.iload_n 1, 1) := by decide +kernel
theorem dX4_fill_39 : decode cX4_fill 39 = .ok (.iload 4, 2) := by decide +kernel
theorem dX4_fill_41 : decode cX4_fill 41 = .ok (.bipush 6, 2) := by decide +kernel
theorem dX4_fill_43 : decode cX4_fill 43 = .ok (.irem, 1) := by decide +kernel
theorem dX4_fill_44 : decode cX4_fill 44 = .ok (.iastore, 1) := by decide +kernel
theorem dX4_fill_45 : decode cX4_fill 45 = .ok (.aload_n 0, 1) := by decide +kernel
theorem dX4_fill_46 : decode cX4_fill 46 = .ok (.iload_n 1, 1) := by decide +kernel
theorem dX4_fill_47 : decode cX4_fill 47 = .ok (.iload_n 2, 1) := by decide +kernel
theorem dX4_fill_48 : decode cX4_fill 48 = .ok (.invokevirtual 44, 3) := by decide +kernel
theorem dX4_fill_51 : decode cX4_fill 51 = .ok (.return_, 1) := by decide +kernel
def f_X4_fill (p1 : Int32) (p2 : Int32) (p3 : Int32) (p4 : Int32) (p5 : Int32) (s0 : sh_S) : Option (sh_S) := gu (inb p1 24) (lb (ur s0 2 (upd (s0 2) (ix p1) p3)) (fun s2 => gu (inb p1 24) (lb (ur s2 3 (upd (s2 3) (ix p1) p4)) (fun s4 => gu (inb p1 24) (lb (ur s4 4 (upd (s4 4) (ix p1) p5)) (fun s6 => gu (inb p1 24) (lb (ur s6 6 (upd (s6 6) (ix p1) (p4 / (6 : Int32)))) (fun s8 => gu (inb p1 24) (lb (ur s8 7 (upd (s8 7) (ix p1) (p4 - p4 / (6 : Int32) * (6 : Int32)))) (fun s10 => ob (f_X4_turn p1 p2 s10) (fun s11 => some s11)))))))))))
set_option maxRecDepth 100000 in
set_option maxHeartbeats 4000000 in
theorem c_X4_fill (p1 : Int32) (p2 : Int32) (p3 : Int32) (p4 : Int32) (p5 : Int32) (s0 : sh_S) (s9x : sh_S) (hf : f_X4_fill p1 p2 p3 p4 p5 s0 = some s9x) : Ctr yX4_fill cX4_fill 6 none ({ frames := 1, cells := 0, slots := 0, locals := 23 } : Room) shLI [.ref 0, .int p1, .int p2, .int p3, .int p4, .int p5] s0 none s9x := by
  refine Ctr.mk (ri := .return_) (by decide) (Nat.le_of_ble_eq_true rfl) (Rt_v) ?_
  intro G h hL hR hret
  refine k_drop (lv' := [(0, .ref 0), (1, .int p1), (2, .int p2), (3, .int p3), (4, .int p4), (5, .int p5)]) [0, 1, 2, 3, 4, 5] rfl ?_
  unfold f_X4_fill at hf
  refine k_aload_n (pc := 0) h dX4_fill_0 rfl 0 rfl ?_
  refine k_getR (pc := 1) h fl_RX4_15 rfl rfl dX4_fill_1 ?_
  refine k_iload_n (pc := 4) h dX4_fill_4 rfl 1 rfl ?_
  refine k_iload_n (pc := 5) h dX4_fill_5 rfl 3 rfl ?_
  obtain ⟨g1, hf⟩ := gu_s hf
  obtain ⟨s2, es2, hf⟩ := lb_s hf
  refine k_iast (pc := 6) (n := 24) h rfl g1 dX4_fill_6 ?_
  refine k_heap es2 ?_
  refine k_aload_n (pc := 7) h dX4_fill_7 rfl 0 rfl ?_
  refine k_getR (pc := 8) h fl_RX4_18 rfl rfl dX4_fill_8 ?_
  refine k_iload_n (pc := 11) h dX4_fill_11 rfl 1 rfl ?_
  refine k_iload (pc := 12) h dX4_fill_12 4 rfl ?_
  obtain ⟨g3, hf⟩ := gu_s hf
  obtain ⟨s4, es4, hf⟩ := lb_s hf
  refine k_iast (pc := 14) (n := 24) h rfl g3 dX4_fill_14 ?_
  refine k_heap es4 ?_
  refine k_aload_n (pc := 15) h dX4_fill_15 rfl 0 rfl ?_
  refine k_getR (pc := 16) h fl_RX4_21 rfl rfl dX4_fill_16 ?_
  refine k_iload_n (pc := 19) h dX4_fill_19 rfl 1 rfl ?_
  refine k_iload (pc := 20) h dX4_fill_20 5 rfl ?_
  obtain ⟨g5, hf⟩ := gu_s hf
  obtain ⟨s6, es6, hf⟩ := lb_s hf
  refine k_iast (pc := 22) (n := 24) h rfl g5 dX4_fill_22 ?_
  refine k_heap es6 ?_
  refine k_aload_n (pc := 23) h dX4_fill_23 rfl 0 rfl ?_
  refine k_getR (pc := 24) h fl_RX4_27 rfl rfl dX4_fill_24 ?_
  refine k_iload_n (pc := 27) h dX4_fill_27 rfl 1 rfl ?_
  refine k_iload (pc := 28) h dX4_fill_28 4 rfl ?_
  refine k_bipush (pc := 30) h dX4_fill_30 kc_bipush_6 ?_
  refine k_idiv (pc := 32) h dX4_fill_32 (by decide) ?_
  obtain ⟨g7, hf⟩ := gu_s hf
  obtain ⟨s8, es8, hf⟩ := lb_s hf
  refine k_iast (pc := 33) (n := 24) h rfl g7 dX4_fill_33 ?_
  refine k_heap es8 ?_
  refine k_aload_n (pc := 34) h dX4_fill_34 rfl 0 rfl ?_
  refine k_getR (pc := 35) h fl_RX4_30 rfl rfl dX4_fill_35 ?_
  refine k_iload_n (pc := 38) h dX4_fill_38 rfl 1 rfl ?_
  refine k_iload (pc := 39) h dX4_fill_39 4 rfl ?_
  refine k_bipush (pc := 41) h dX4_fill_41 kc_bipush_6 ?_
  refine k_irem (pc := 43) h dX4_fill_43 (by decide) ?_
  obtain ⟨g9, hf⟩ := gu_s hf
  obtain ⟨s10, es10, hf⟩ := lb_s hf
  refine k_iast (pc := 44) (n := 24) h rfl g9 dX4_fill_44 ?_
  refine k_heap es10 ?_
  refine k_aload_n (pc := 45) h dX4_fill_45 rfl 0 rfl ?_
  refine k_iload_n (pc := 46) h dX4_fill_46 rfl 1 rfl ?_
  refine k_iload_n (pc := 47) h dX4_fill_47 rfl 2 rfl ?_
  obtain ⟨s11, cs11, hf⟩ := ob_s hf
  refine k_callV0 (pc := 48) h cv_RX4_44 (c_X4_turn p1 p2 s10 s11 cs11) rfl rfl rfl (st1 := []) rfl ⟨rfl, rfl⟩ (rk hR (Nat.le_of_ble_eq_true rfl) (Nat.le_of_ble_eq_true rfl)) (Nat.le_of_ble_eq_true rfl) dX4_fill_48 ?_
  obtain rfl := so1 hf
  exact hret 51 _ dX4_fill_51 trivial
