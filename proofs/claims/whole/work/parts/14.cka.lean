theorem dX0_forget_0 : decode cX0_forget 0 = .ok (.aload_n 0, 1) := by decide +kernel
theorem dX0_forget_1 : decode cX0_forget 1 = .ok (.iconst 0, 1) := by decide +kernel
theorem dX0_forget_2 : decode cX0_forget 2 = .ok (.putfield 7, 3) := by decide +kernel
theorem dX0_forget_5 : decode cX0_forget 5 = .ok (.return_, 1) := by decide +kernel
def f_X0_forget  (s0 : sh_S) : Option (sh_S) := lb (ur s0 10 (upd (s0 10) 1 (0 : Int32))) (fun s1 => some s1)
set_option maxRecDepth 100000 in
set_option maxHeartbeats 4000000 in
theorem c_X0_forget  (s0 : sh_S) (s9x : sh_S) (hf : f_X0_forget  s0 = some s9x) : Ctr yX0_forget cX0_forget 1 none ({ frames := 0, cells := 0, slots := 0, locals := 0 } : Room) shCK [.ref 10] s0 none s9x := by
  refine Ctr.mk (ri := .return_) (by decide) (Nat.le_of_ble_eq_true rfl) (Rt_v) ?_
  intro G h hL hR hret
  refine k_drop (lv' := [(0, .ref 10)]) [0] rfl ?_
  unfold f_X0_forget at hf
  refine k_aload_n (pc := 0) h dX0_forget_0 rfl 0 rfl ?_
  refine k_iconst (pc := 1) h dX0_forget_1 kc_iconst_0 ?_
  obtain ⟨s1, es1, hf⟩ := lb_s hf
  refine k_put (pc := 2) h fl_RX0_7 fp_X0_1 rfl rfl rfl rfl dX0_forget_2 ?_
  refine k_heap es1 ?_
  obtain rfl := so1 hf
  exact hret 5 _ dX0_forget_5 trivial
theorem dX2_findNext_0 : decode cX2_findNext 0 = .ok (.aload_n 0, 1) := by decide +kernel
theorem dX2_findNext_1 : decode cX2_findNext 1 = .ok (.aload_n 1, 1) := by decide +kernel
theorem dX2_findNext_2 : decode cX2_findNext 2 = .ok (.getfield 40, 3) := by decide +kernel
theorem dX2_findNext_5 : decode cX2_findNext 5 = .ok (.putfield 33, 3) := by decide +kernel
theorem dX2_findNext_8 : decode cX2_findNext 8 = .ok (.iconst 0, 1) := by decide +kernel
theorem dX2_findNext_9 : decode cX2_findNext 9 = .ok (.istore_n 2, 1) := by decide +kernel
theorem dX2_findNext_10 : decode cX2_findNext 10 = .ok (.iload_n 2, 1) := by decide +kernel
theorem dX2_findNext_11 : decode cX2_findNext 11 = .ok (.aload_n 0, 1) := by decide +kernel
theorem dX2_findNext_12 : decode cX2_findNext 12 = .ok (.getfield 33, 3) := by decide +kernel
theorem dX2_findNext_15 : decode cX2_findNext 15 = .ok (.if_icmp .ge 103, 3) := by decide +kernel
theorem dX2_findNext_18 : decode cX2_findNext 18 = .ok (.aload_n 1, 1) := by decide +kernel
theorem dX2_findNext_19 : decode cX2_findNext 19 = .ok (.getfield 43, 3) := by decide +kernel
theorem dX2_findNext_22 : decode cX2_findNext 22 = .ok (.iload_n 2, 1) := by decide +kernel
theorem dX2_findNext_23 : decode cX2_findNext 23 = .ok (.iaload, 1) := by decide +kernel
theorem dX2_findNext_24 : decode cX2_findNext 24 = .ok (.istore_n 3, 1) := by decide +kernel
theorem dX2_findNext_25 : decode cX2_findNext 25 = .ok (.iload_n 3, 1) := by decide +kernel
theorem dX2_findNext_26 : decode cX2_findNext 26 = .ok (.bipush 8, 2) := by decide +kernel
theorem dX2_findNext_28 : decode cX2_findNext 28 = .ok (.if_icmp .eq 9, 3) := by decide +kernel
theorem dX2_findNext_31 : decode cX2_findNext 31 = .ok (.iload_n 3, 1) := by decide +kernel
theorem dX2_findNext_32 : decode cX2_findNext 32 = .ok (.bipush 9, 2) := by decide +kernel
theorem dX2_findNext_34 : decode cX2_findNext 34 = .ok (.if_icmp .ne 7, 3) := by decide +kernel
theorem dX2_findNext_37 : decode cX2_findNext 37 = .ok (.iconst (-1), 1) := by decide +kernel
theorem dX2_findNext_38 : decode cX2_findNext 38 = .ok (.goto 6, 3) := by decide +kernel
theorem dX2_findNext_41 : decode cX2_findNext 41 = .ok (.iload_n 2, 1) := by decide +kernel
theorem dX2_findNext_42 : decode cX2_findNext 42 = .ok (.iconst 1, 1) := by decide +kernel
theorem dX2_findNext_43 : decode cX2_findNext 43 = .ok (.iadd, 1) := by decide +kernel
theorem dX2_findNext_44 : decode cX2_findNext 44 = .ok (.istore 4, 2) := by decide +kernel
theorem dX2_findNext_46 : decode cX2_findNext 46 = .ok (.iload_n 3, 1) := by decide +kernel
theorem dX2_findNext_47 : decode cX2_findNext 47 = .ok (.bipush 8, 2) := by decide +kernel
theorem dX2_findNext_49 : decode cX2_findNext 49 = .ok (.if_icmp .eq 9, 3) := by decide +kernel
theorem dX2_findNext_52 : decode cX2_findNext 52 = .ok (.iload_n 3, 1) := by decide +kernel
theorem dX2_findNext_53 : decode cX2_findNext 53 = .ok (.bipush 7, 2) := by decide +kernel
theorem dX2_findNext_55 : decode cX2_findNext 55 = .ok (.if_icmp .ne 12, 3) := by decide +kernel
theorem dX2_findNext_58 : decode cX2_findNext 58 = .ok (.aload_n 1, 1) := by decide +kernel
theorem dX2_findNext_59 : decode cX2_findNext 59 = .ok (.getfield 46, 3) := by decide +kernel
theorem dX2_findNext_62 : decode cX2_findNext 62 = .ok (.iload_n 2, 1) := by decide +kernel
theorem dX2_findNext_63 : decode cX2_findNext 63 = .ok (.iaload, 1) := by decide +kernel
theorem dX2_findNext_64 : decode cX2_findNext 64 = .ok (.goto 4, 3) := by decide +kernel
theorem dX2_findNext_67 : decode cX2_findNext 67 = .ok (.iconst (-1), 1) := by decide +kernel
theorem dX2_findNext_68 : decode cX2_findNext 68 = .ok (.istore 5, 2) := by decide +kernel
theorem dX2_findNext_70 : decode cX2_findNext 70 = .ok (.aload_n 0, 1) := by decide +kernel
theorem dX2_findNext_71 : decode cX2_findNext 71 = .ok (.getfield 9, 3) := by decide +kernel
theorem dX2_findNext_74 : decode cX2_findNext 74 = .ok (.iload_n 2, 1) := by decide +kernel
theorem dX2_findNext_75 : decode cX2_findNext 75 = .ok (.aload_n 1, 1) := by decide +kernel
theorem dX2_findNext_76 : decode cX2_findNext 76 = .ok (.iload 4, 2) := by decide +kernel
theorem dX2_findNext_78 : decode cX2_findNext 78 = .ok (.invokevirtual 49, 3) := by decide +kernel
theorem dX2_findNext_81 : decode cX2_findNext 81 = .ok (.ifCond .eq 8, 3) := by decide +kernel
theorem dX2_findNext_84 : decode cX2_findNext 84 = .ok (.iload 4, 2) := by decide +kernel
theorem dX2_findNext_86 : decode cX2_findNext 86 = .ok (.goto 4, 3) := by decide +kernel
theorem dX2_findNext_89 : decode cX2_findNext 89 = .ok (.iconst (-1), 1) := by decide +kernel
theorem dX2_findNext_90 : decode cX2_findNext 90 = .ok (.iastore, 1) := by decide +kernel
theorem dX2_findNext_91 : decode cX2_findNext 91 = .ok (.aload_n 0, 1) := by decide +kernel
theorem dX2_findNext_92 : decode cX2_findNext 92 = .ok (.getfield 15, 3) := by decide +kernel
theorem dX2_findNext_95 : decode cX2_findNext 95 = .ok (.iload_n 2, 1) := by decide +kernel
theorem dX2_findNext_96 : decode cX2_findNext 96 = .ok (.aload_n 1, 1) := by decide +kernel
theorem dX2_findNext_97 : decode cX2_findNext 97 = .ok (.iload 5, 2) := by decide +kernel
theorem dX2_findNext_99 : decode cX2_findNext 99 = .ok (.invokevirtual 49, 3) := by decide +kernel
theorem dX2_findNext_102 : decode cX2_findNext 102 = .ok (.ifCond .eq 8, 3) := by decide +kernel
theorem dX2_findNext_105 : decode cX2_findNext 105 = .ok (.iload 5, 2) := by decide +kernel
theorem dX2_findNext_107 : decode cX2_findNext 107 = .ok (.goto 4, 3) := by decide +kernel
theorem dX2_findNext_110 : decode cX2_findNext 110 = .ok (.iconst (-1), 1) := by decide +kernel
theorem dX2_findNext_111 : decode cX2_findNext 111 = .ok (.iastore, 1) := by decide +kernel
theorem dX2_findNext_112 : decode cX2_findNext 112 = .ok (.iinc 2 1, 3) := by decide +kernel
theorem dX2_findNext_115 : decode cX2_findNext 115 = .ok (.goto (-105), 3) := by decide +kernel
theorem dX2_findNext_118 : decode cX2_findNext 118 = .ok (.return_, 1) := by decide +kernel
def f_X2_findNext_L10 (v2 : Int32) (s3 : sh_S) : Option ((Int32 × sh_S) ⊕ (sh_S)) := (if (s3 11 7) ≤ v2 then some (.inr s3) else gu (inb v2 24) (lb ((s3 5 (ix v2))) (fun v6 => ob (if v6 = (8 : Int32) then some (-1 : Int32) else (if v6 = (9 : Int32) then some (-1 : Int32) else some (v2 + (1 : Int32)))) (fun v7 => ob (if v6 = (8 : Int32) then gu (inb v2 24) (some (s3 4 (ix v2))) else (if v6 = (7 : Int32) then gu (inb v2 24) (some (s3 4 (ix v2))) else some (-1 : Int32))) (fun v8 => ob (f_X4_has v7 (rs em_LI s3)) (fun v11 => ob (if v11 = 0 then some (-1 : Int32) else some v7) (fun v12 => gu (inb v2 24) (lb (ur s3 12 (upd (s3 12) (ix v2) v12)) (fun s14 => ob (f_X4_has v8 (rs em_LI s14)) (fun v15 => ob (if v15 = 0 then some (-1 : Int32) else some v8) (fun v16 => gu (inb v2 24) (lb (ur s14 13 (upd (s14 13) (ix v2) v16)) (fun s18 => lb (v2 + (1 : Int32)) (fun v19 => some (.inl (v19, s18))))))))))))))))
def f_X2_findNext  (s0 : sh_S) : Option (sh_S) := lb (ur s0 11 (upd (s0 11) 7 (s0 0 9))) (fun s1 => ob (lp (fun q => f_X2_findNext_L10 q.1 q.2) FU ((0 : Int32), s1)) (fun s4 => some s4))
set_option maxRecDepth 100000 in
set_option maxHeartbeats 4000000 in
theorem c_X2_findNext  (s0 : sh_S) (s9x : sh_S) (hf : f_X2_findNext  s0 = some s9x) : Ctr yX2_findNext cX2_findNext 6 none ({ frames := 1, cells := 0, slots := 0, locals := 21 } : Room) shCK [.ref 11, .ref 0] s0 none s9x := by
  refine Ctr.mk (ri := .return_) (by decide) (Nat.le_of_ble_eq_true rfl) (Rt_v) ?_
  intro G h hL hR hret
  refine k_drop (lv' := [(0, .ref 11), (1, .ref 0)]) [0, 1] rfl ?_
  unfold f_X2_findNext at hf
  refine k_aload_n (pc := 0) h dX2_findNext_0 rfl 0 rfl ?_
  refine k_aload_n (pc := 1) h dX2_findNext_1 rfl 1 rfl ?_
  refine k_getI (pc := 2) h fl_RX2_40 rfl rfl dX2_findNext_2 ?_
  obtain ⟨s1, es1, hf⟩ := lb_s hf
  refine k_put (pc := 5) h fl_RX2_33 fp_X2_7 rfl rfl rfl rfl dX2_findNext_5 ?_
  refine k_heap es1 ?_
  refine k_iconst (pc := 8) h dX2_findNext_8 kc_iconst_0 ?_
  refine k_istore_n (pc := 9) h dX2_findNext_9 rfl (nk hL (by decide)) (lv' := [(0, .ref 11), (1, .ref 0), (2, .int (0 : Int32))]) rfl ?_
  obtain ⟨s4, hl, hf⟩ := ob_s hf
  refine k_drop (lv' := [(0, .ref 11), (1, .ref 0), (2, .int (0 : Int32))]) [0, 1, 2] rfl ?_
  refine lp_s (P := (fun q : Int32 × sh_S => sh_K G shCK 10 [(0, .ref 11), (1, .ref 0), (2, .int q.1)] [] q.2)) (Q := (fun q : sh_S => sh_K G shCK 118 [] [] q)) (s := ((0 : Int32), s1)) ?_ hl ?_
  · clear hf hl
    intro q rr hf kc10
    obtain ⟨v2, s3⟩ := q
    have hf : f_X2_findNext_L10 v2 s3 = some rr := hf
    unfold f_X2_findNext_L10 at hf
    refine k_iload_n (pc := 10) h dX2_findNext_10 rfl 2 rfl ?_
    refine k_aload_n (pc := 11) h dX2_findNext_11 rfl 0 rfl ?_
    refine k_getI (pc := 12) h fl_RX2_33 rfl rfl dX2_findNext_12 ?_
    refine k_icmp_ge (pc := 15) (tgt := 118) h dX2_findNext_15 rfl (fun hc => ?_) (fun hc => ?_)
    · have hf := it_p hc hf
      obtain rfl := so1 hf
      exact k_drop [] rfl kc10
    · have hf := it_n hc hf
      refine k_aload_n (pc := 18) h dX2_findNext_18 rfl 1 rfl ?_
      refine k_getR (pc := 19) h fl_RX2_43 rfl rfl dX2_findNext_19 ?_
      refine k_iload_n (pc := 22) h dX2_findNext_22 rfl 2 rfl ?_
      obtain ⟨g5, hf⟩ := gu_s hf
      refine k_iald (pc := 23) (n := 24) h rfl g5 dX2_findNext_23 ?_
      obtain ⟨v6, ev6, hf⟩ := lb_s hf
      refine k_top ev6 ?_
      refine k_istore_n (pc := 24) h dX2_findNext_24 rfl (nk hL (by decide)) (lv' := [(0, .ref 11), (1, .ref 0), (2, .int v2), (3, .int v6)]) rfl ?_
      refine k_iload_n (pc := 25) h dX2_findNext_25 rfl 3 rfl ?_
      refine k_bipush (pc := 26) h dX2_findNext_26 kc_bipush_8 ?_
      obtain ⟨v7, hj, hf⟩ := ob_s hf
      have kj28 : sh_K G shCK 44 [(0, .ref 11), (1, .ref 0), (2, .int v2), (3, .int v6)] [.int v7] s3 := by
        refine k_istore (pc := 44) h dX2_findNext_44 (nk hL (by decide)) (lv' := [(0, .ref 11), (1, .ref 0), (2, .int v2), (3, .int v6), (4, .int v7)]) rfl ?_
        refine k_iload_n (pc := 46) h dX2_findNext_46 rfl 3 rfl ?_
        refine k_bipush (pc := 47) h dX2_findNext_47 kc_bipush_8 ?_
        obtain ⟨v8, hj, hf⟩ := ob_s hf
        have kj49 : sh_K G shCK 68 [(0, .ref 11), (1, .ref 0), (2, .int v2), (4, .int v7)] [.int v8] s3 := by
          refine k_istore (pc := 68) h dX2_findNext_68 (nk hL (by decide)) (lv' := [(0, .ref 11), (1, .ref 0), (2, .int v2), (4, .int v7), (5, .int v8)]) rfl ?_
          refine k_aload_n (pc := 70) h dX2_findNext_70 rfl 0 rfl ?_
          refine k_getR (pc := 71) h fl_RX2_9 rfl rfl dX2_findNext_71 ?_
          refine k_iload_n (pc := 74) h dX2_findNext_74 rfl 2 rfl ?_
          refine k_aload_n (pc := 75) h dX2_findNext_75 rfl 1 rfl ?_
          refine k_iload (pc := 76) h dX2_findNext_76 3 rfl ?_
          obtain ⟨v11, cv11, hf⟩ := ob_s hf
          refine k_callVe (pc := 78) (em := em_LI) h cv_RX2_49 (c_X4_has v7 (rs em_LI s3) v11 cv11) emb_LI_CK rfl rfl rfl (st1 := [.int v11, .int v2, .ref 12]) rfl ⟨rfl, rfl⟩ (rk hR (Nat.le_of_ble_eq_true rfl) (Nat.le_of_ble_eq_true rfl)) (Nat.le_of_ble_eq_true rfl) dX2_findNext_78 (mg_rs em_LI s3) ?_
          obtain ⟨v12, hj, hf⟩ := ob_s hf
          have kj81 : sh_K G shCK 90 [(0, .ref 11), (1, .ref 0), (2, .int v2), (5, .int v8)] [.int v12, .int v2, .ref 12] s3 := by
            obtain ⟨g13, hf⟩ := gu_s hf
            obtain ⟨s14, es14, hf⟩ := lb_s hf
            refine k_iast (pc := 90) (n := 24) h rfl g13 dX2_findNext_90 ?_
            refine k_heap es14 ?_
            refine k_aload_n (pc := 91) h dX2_findNext_91 rfl 0 rfl ?_
            refine k_getR (pc := 92) h fl_RX2_15 rfl rfl dX2_findNext_92 ?_
            refine k_iload_n (pc := 95) h dX2_findNext_95 rfl 2 rfl ?_
            refine k_aload_n (pc := 96) h dX2_findNext_96 rfl 1 rfl ?_
            refine k_iload (pc := 97) h dX2_findNext_97 3 rfl ?_
            obtain ⟨v15, cv15, hf⟩ := ob_s hf
            refine k_callVe (pc := 99) (em := em_LI) h cv_RX2_49 (c_X4_has v8 (rs em_LI s14) v15 cv15) emb_LI_CK rfl rfl rfl (st1 := [.int v15, .int v2, .ref 13]) rfl ⟨rfl, rfl⟩ (rk hR (Nat.le_of_ble_eq_true rfl) (Nat.le_of_ble_eq_true rfl)) (Nat.le_of_ble_eq_true rfl) dX2_findNext_99 (mg_rs em_LI s14) ?_
            obtain ⟨v16, hj, hf⟩ := ob_s hf
            have kj102 : sh_K G shCK 111 [(0, .ref 11), (1, .ref 0), (2, .int v2)] [.int v16, .int v2, .ref 13] s14 := by
              obtain ⟨g17, hf⟩ := gu_s hf
              obtain ⟨s18, es18, hf⟩ := lb_s hf
              refine k_iast (pc := 111) (n := 24) h rfl g17 dX2_findNext_111 ?_
              refine k_heap es18 ?_
              obtain ⟨v19, ev19, hf⟩ := lb_s hf
              refine k_iinc (pc := 112) h dX2_findNext_112 2 rfl ((congrArg (_ + ·) kc_iconst_1).trans ev19.symm) (nk hL (by decide)) (lv' := [(0, .ref 11), (1, .ref 0), (2, .int v19)]) rfl ?_
              refine k_goto (pc := 115) (tgt := 10) h dX2_findNext_115 rfl ?_
              obtain rfl := so1 hf
              exact k_drop [0, 1, 2] rfl kc10
            clear hf
            have hf := hj
            clear hj
            refine k_if_eq (pc := 102) (tgt := 110) h dX2_findNext_102 rfl (fun hc => ?_) (fun hc => ?_)
            · have hf := it_p hc hf
              refine k_iconst (pc := 110) h dX2_findNext_110 kc_iconst_m1 ?_
              obtain rfl := so1 hf
              exact k_drop [0, 1, 2] rfl kj102
            · have hf := it_n hc hf
              refine k_iload (pc := 105) h dX2_findNext_105 3 rfl ?_
              refine k_goto (pc := 107) (tgt := 111) h dX2_findNext_107 rfl ?_
              obtain rfl := so1 hf
              exact k_drop [0, 1, 2] rfl kj102
          clear hf
          have hf := hj
          clear hj
          refine k_if_eq (pc := 81) (tgt := 89) h dX2_findNext_81 rfl (fun hc => ?_) (fun hc => ?_)
          · have hf := it_p hc hf
            refine k_iconst (pc := 89) h dX2_findNext_89 kc_iconst_m1 ?_
            obtain rfl := so1 hf
            exact k_drop [0, 1, 2, 4] rfl kj81
          · have hf := it_n hc hf
            refine k_iload (pc := 84) h dX2_findNext_84 3 rfl ?_
            refine k_goto (pc := 86) (tgt := 90) h dX2_findNext_86 rfl ?_
            obtain rfl := so1 hf
            exact k_drop [0, 1, 2, 4] rfl kj81
        clear hf
        have hf := hj
        clear hj
        refine k_icmp_eq (pc := 49) (tgt := 58) h dX2_findNext_49 rfl (fun hc => ?_) (fun hc => ?_)
        · have hf := it_p hc hf
          refine k_aload_n (pc := 58) h dX2_findNext_58 rfl 1 rfl ?_
          refine k_getR (pc := 59) h fl_RX2_46 rfl rfl dX2_findNext_59 ?_
          refine k_iload_n (pc := 62) h dX2_findNext_62 rfl 2 rfl ?_
          obtain ⟨g9, hf⟩ := gu_s hf
          refine k_iald (pc := 63) (n := 24) h rfl g9 dX2_findNext_63 ?_
          refine k_goto (pc := 64) (tgt := 68) h dX2_findNext_64 rfl ?_
          obtain rfl := so1 hf
          exact k_drop [0, 1, 2, 4] rfl kj49
        · have hf := it_n hc hf
          refine k_iload_n (pc := 52) h dX2_findNext_52 rfl 3 rfl ?_
          refine k_bipush (pc := 53) h dX2_findNext_53 kc_bipush_7 ?_
          refine k_icmp_ne (pc := 55) (tgt := 67) h dX2_findNext_55 rfl (fun hc => ?_) (fun hc => ?_)
          · have hf := it_n hc hf
            refine k_iconst (pc := 67) h dX2_findNext_67 kc_iconst_m1 ?_
            obtain rfl := so1 hf
            exact k_drop [0, 1, 2, 4] rfl kj49
          · have hf := it_p hc hf
            refine k_aload_n (pc := 58) h dX2_findNext_58 rfl 1 rfl ?_
            refine k_getR (pc := 59) h fl_RX2_46 rfl rfl dX2_findNext_59 ?_
            refine k_iload_n (pc := 62) h dX2_findNext_62 rfl 2 rfl ?_
            obtain ⟨g10, hf⟩ := gu_s hf
            refine k_iald (pc := 63) (n := 24) h rfl g10 dX2_findNext_63 ?_
            refine k_goto (pc := 64) (tgt := 68) h dX2_findNext_64 rfl ?_
            obtain rfl := so1 hf
            exact k_drop [0, 1, 2, 4] rfl kj49
      clear hf
      have hf := hj
      clear hj
      refine k_icmp_eq (pc := 28) (tgt := 37) h dX2_findNext_28 rfl (fun hc => ?_) (fun hc => ?_)
      · have hf := it_p hc hf
        refine k_iconst (pc := 37) h dX2_findNext_37 kc_iconst_m1 ?_
        refine k_goto (pc := 38) (tgt := 44) h dX2_findNext_38 rfl ?_
        obtain rfl := so1 hf
        exact k_drop [0, 1, 2, 3] rfl kj28
      · have hf := it_n hc hf
        refine k_iload_n (pc := 31) h dX2_findNext_31 rfl 3 rfl ?_
        refine k_bipush (pc := 32) h dX2_findNext_32 kc_bipush_9 ?_
        refine k_icmp_ne (pc := 34) (tgt := 41) h dX2_findNext_34 rfl (fun hc => ?_) (fun hc => ?_)
        · have hf := it_n hc hf
          refine k_iload_n (pc := 41) h dX2_findNext_41 rfl 2 rfl ?_
          refine k_iconst (pc := 42) h dX2_findNext_42 kc_iconst_1 ?_
          refine k_iadd (pc := 43) h dX2_findNext_43 ?_
          obtain rfl := so1 hf
          exact k_drop [0, 1, 2, 3] rfl kj28
        · have hf := it_p hc hf
          refine k_iconst (pc := 37) h dX2_findNext_37 kc_iconst_m1 ?_
          refine k_goto (pc := 38) (tgt := 44) h dX2_findNext_38 rfl ?_
          obtain rfl := so1 hf
          exact k_drop [0, 1, 2, 3] rfl kj28
  · obtain rfl := so1 hf
    exact hret 118 _ dX2_findNext_118 trivial
theorem dX2_findReached_0 : decode cX2_findReached 0 = .ok (.aload_n 0, 1) := by decide +kernel
theorem dX2_findReached_1 : decode cX2_findReached 1 = .ok (.aload_n 0, 1) := by decide +kernel
theorem dX2_findReached_2 : decode cX2_findReached 2 = .ok (.getfield 33, 3) := by decide +kernel
theorem dX2_findReached_5 : decode cX2_findReached 5 = .ok (.ifCond .le 7, 3) := by decide +kernel
theorem dX2_findReached_8 : decode cX2_findReached 8 = .ok (.iconst 1, 1) := by decide +kernel
theorem dX2_findReached_9 : decode cX2_findReached 9 = .ok (.goto 4, 3) := by decide +kernel
theorem dX2_findReached_12 : decode cX2_findReached 12 = .ok (.iconst 0, 1) := by decide +kernel
theorem dX2_findReached_13 : decode cX2_findReached 13 = .ok (.putfield 37, 3) := by decide +kernel
theorem dX2_findReached_16 : decode cX2_findReached 16 = .ok (.iconst 1, 1) := by decide +kernel
theorem dX2_findReached_17 : decode cX2_findReached 17 = .ok (.istore_n 1, 1) := by decide +kernel
theorem dX2_findReached_18 : decode cX2_findReached 18 = .ok (.iconst 0, 1) := by decide +kernel
theorem dX2_findReached_19 : decode cX2_findReached 19 = .ok (.istore_n 2, 1) := by decide +kernel
theorem dX2_findReached_20 : decode cX2_findReached 20 = .ok (.iload_n 1, 1) := by decide +kernel
theorem dX2_findReached_21 : decode cX2_findReached 21 = .ok (.ifCond .eq 95, 3) := by decide +kernel
theorem dX2_findReached_24 : decode cX2_findReached 24 = .ok (.iload_n 2, 1) := by decide +kernel
theorem dX2_findReached_25 : decode cX2_findReached 25 = .ok (.sipush 1000, 3) := by decide +kernel
theorem dX2_findReached_28 : decode cX2_findReached 28 = .ok (.if_icmp .ge 88, 3) := by decide +kernel
theorem dX2_findReached_31 : decode cX2_findReached 31 = .ok (.aload_n 0, 1) := by decide +kernel
theorem dX2_findReached_32 : decode cX2_findReached 32 = .ok (.getfield 37, 3) := by decide +kernel
theorem dX2_findReached_35 : decode cX2_findReached 35 = .ok (.istore_n 3, 1) := by decide +kernel
theorem dX2_findReached_36 : decode cX2_findReached 36 = .ok (.iconst 0, 1) := by decide +kernel
theorem dX2_findReached_37 : decode cX2_findReached 37 = .ok (.istore 4, 2) := by decide +kernel
theorem dX2_findReached_39 : decode cX2_findReached 39 = .ok (.iload 4, 2) := by decide +kernel
theorem dX2_findReached_41 : decode cX2_findReached 41 = .ok (.aload_n 0, 1) := by decide +kernel
theorem dX2_findReached_42 : decode cX2_findReached 42 = .ok (.getfield 33, 3) := by decide +kernel
theorem dX2_findReached_45 : decode cX2_findReached 45 = .ok (.if_icmp .ge 51, 3) := by decide +kernel
theorem dX2_findReached_48 : decode cX2_findReached 48 = .ok (.aload_n 0, 1) := by decide +kernel
theorem dX2_findReached_49 : decode cX2_findReached 49 = .ok (.getfield 37, 3) := by decide +kernel
theorem dX2_findReached_52 : decode cX2_findReached 52 = .ok (.iload 4, 2) := by decide +kernel
theorem dX2_findReached_54 : decode cX2_findReached 54 = .ok (.invokestatic 53, 3) := by decide +kernel
theorem dX2_findReached_57 : decode cX2_findReached 57 = .ok (.ifCond .eq 33, 3) := by decide +kernel
theorem dX2_findReached_60 : decode cX2_findReached 60 = .ok (.aload_n 0, 1) := by decide +kernel
theorem dX2_findReached_61 : decode cX2_findReached 61 = .ok (.dup, 1) := by decide +kernel
theorem dX2_findReached_62 : decode cX2_findReached 62 = .ok (.getfield 37, 3) := by decide +kernel
theorem dX2_findReached_65 : decode cX2_findReached 65 = .ok (.aload_n 0, 1) := by decide +kernel
theorem dX2_findReached_66 : decode cX2_findReached 66 = .ok (.getfield 9, 3) := by decide +kernel
theorem dX2_findReached_69 : decode cX2_findReached 69 = .ok (.iload 4, 2) := by decide +kernel
theorem dX2_findReached_71 : decode cX2_findReached 71 = .ok (.iaload, 1) := by decide +kernel
theorem dX2_findReached_72 : decode cX2_findReached 72 = .ok (.invokestatic 57, 3) := by decide +kernel
theorem dX2_findReached_75 : decode cX2_findReached 75 = .ok (.aload_n 0, 1) := by decide +kernel
theorem dX2_findReached_76 : decode cX2_findReached 76 = .ok (.getfield 15, 3) := by decide +kernel
theorem dX2_findReached_79 : decode cX2_findReached 79 = .ok (.iload 4, 2) := by decide +kernel
theorem dX2_findReached_81 : decode cX2_findReached 81 = .ok (.iaload, 1) := by decide +kernel
theorem dX2_findReached_82 : decode cX2_findReached 82 = .ok (.invokestatic 57, 3) := by decide +kernel
theorem dX2_findReached_85 : decode cX2_findReached 85 = .ok (.ior, 1) := by decide +kernel
theorem dX2_findReached_86 : decode cX2_findReached 86 = .ok (.ior, 1) := by decide +kernel
theorem dX2_findReached_87 : decode cX2_findReached 87 = .ok (.putfield 37, 3) := by decide +kernel
theorem dX2_findReached_90 : decode cX2_findReached 90 = .ok (.iinc 4 1, 3) := by decide +kernel
theorem dX2_findReached_93 : decode cX2_findReached 93 = .ok (.goto (-54), 3) := by decide +kernel
theorem dX2_findReached_96 : decode cX2_findReached 96 = .ok (.aload_n 0, 1) := by decide +kernel
theorem dX2_findReached_97 : decode cX2_findReached 97 = .ok (.getfield 37, 3) := by decide +kernel
theorem dX2_findReached_100 : decode cX2_findReached 100 = .ok (.iload_n 3, 1) := by decide +kernel
theorem dX2_findReached_101 : decode cX2_findReached 101 = .ok (.if_icmp .eq 7, 3) := by decide +kernel
theorem dX2_findReached_104 : decode cX2_findReached 104 = .ok (.iconst 1, 1) := by decide +kernel
theorem dX2_findReached_105 : decode cX2_findReached 105 = .ok (.goto 4, 3) := by decide +kernel
theorem dX2_findReached_108 : decode cX2_findReached 108 = .ok (.iconst 0, 1) := by decide +kernel
theorem dX2_findReached_109 : decode cX2_findReached 109 = .ok (.istore_n 1, 1) := by decide +kernel
theorem dX2_findReached_110 : decode cX2_findReached 110 = .ok (.iinc 2 1, 3) := by decide +kernel
theorem dX2_findReached_113 : decode cX2_findReached 113 = .ok (.goto (-93), 3) := by decide +kernel
theorem dX2_findReached_116 : decode cX2_findReached 116 = .ok (.return_, 1) := by decide +kernel
def f_X2_findReached_L39 (v8 : Int32) (s9 : sh_S) : Option ((Int32 × sh_S) ⊕ (sh_S)) := (if (s9 11 7) ≤ v8 then some (.inr s9) else ob (f_X9_hasBit (s9 11 8) v8) (fun v11 => ob (if v11 = 0 then some s9 else gu (inb v8 24) (ob (f_X9_bitOf (s9 12 (ix v8))) (fun v14 => gu (inb v8 24) (ob (f_X9_bitOf (s9 13 (ix v8))) (fun v16 => lb (ur s9 11 (upd (s9 11) 8 ((s9 11 8) ||| (v14 ||| v16)))) (fun s17 => some s17)))))) (fun s12 => lb (v8 + (1 : Int32)) (fun v18 => some (.inl (v18, s12))))))
def f_X2_findReached_L20 (v3 : Int32) (v4 : Int32) (s5 : sh_S) : Option ((Int32 × Int32 × sh_S) ⊕ (sh_S)) := (if v3 = 0 then some (.inr s5) else (if (1000 : Int32) ≤ v4 then some (.inr s5) else lb ((s5 11 8)) (fun v7 => ob (lp (fun q => f_X2_findReached_L39 q.1 q.2) FU ((0 : Int32), s5)) (fun s10 => ob (if (s10 11 8) = v7 then some (0 : Int32) else some (1 : Int32)) (fun v19 => lb (v4 + (1 : Int32)) (fun v20 => some (.inl (v19, v20, s10))))))))
def f_X2_findReached  (s0 : sh_S) : Option (sh_S) := ob (if (s0 11 7) ≤ 0 then some (0 : Int32) else some (1 : Int32)) (fun v1 => lb (ur s0 11 (upd (s0 11) 8 v1)) (fun s2 => ob (lp (fun q => f_X2_findReached_L20 q.1 q.2.1 q.2.2) FU ((1 : Int32), (0 : Int32), s2)) (fun s6 => some s6)))
set_option maxRecDepth 100000 in
set_option maxHeartbeats 4000000 in
theorem c_X2_findReached  (s0 : sh_S) (s9x : sh_S) (hf : f_X2_findReached  s0 = some s9x) : Ctr yX2_findReached cX2_findReached 5 none ({ frames := 1, cells := 0, slots := 0, locals := 21 } : Room) shCK [.ref 11] s0 none s9x := by
  refine Ctr.mk (ri := .return_) (by decide) (Nat.le_of_ble_eq_true rfl) (Rt_v) ?_
  intro G h hL hR hret
  refine k_drop (lv' := [(0, .ref 11)]) [0] rfl ?_
  unfold f_X2_findReached at hf
  refine k_aload_n (pc := 0) h dX2_findReached_0 rfl 0 rfl ?_
  refine k_aload_n (pc := 1) h dX2_findReached_1 rfl 0 rfl ?_
  refine k_getI (pc := 2) h fl_RX2_33 rfl rfl dX2_findReached_2 ?_
  obtain ⟨v1, hj, hf⟩ := ob_s hf
  have kj5 : sh_K G shCK 13 [(0, .ref 11)] [.int v1, .ref 11] s0 := by
    obtain ⟨s2, es2, hf⟩ := lb_s hf
    refine k_put (pc := 13) h fl_RX2_37 fp_X2_8 rfl rfl rfl rfl dX2_findReached_13 ?_
    refine k_heap es2 ?_
    refine k_iconst (pc := 16) h dX2_findReached_16 kc_iconst_1 ?_
    refine k_istore_n (pc := 17) h dX2_findReached_17 rfl (nk hL (by decide)) (lv' := [(0, .ref 11), (1, .int (1 : Int32))]) rfl ?_
    refine k_iconst (pc := 18) h dX2_findReached_18 kc_iconst_0 ?_
    refine k_istore_n (pc := 19) h dX2_findReached_19 rfl (nk hL (by decide)) (lv' := [(0, .ref 11), (1, .int (1 : Int32)), (2, .int (0 : Int32))]) rfl ?_
    obtain ⟨s6, hl, hf⟩ := ob_s hf
    refine k_drop (lv' := [(0, .ref 11), (1, .int (1 : Int32)), (2, .int (0 : Int32))]) [0, 1, 2] rfl ?_
    refine lp_s (P := (fun q : Int32 × Int32 × sh_S => sh_K G shCK 20 [(0, .ref 11), (1, .int q.1), (2, .int q.2.1)] [] q.2.2)) (Q := (fun q : sh_S => sh_K G shCK 116 [] [] q)) (s := ((1 : Int32), (0 : Int32), s2)) ?_ hl ?_
    · clear hf hl
      intro q rr hf kc20
      obtain ⟨v3, v4, s5⟩ := q
      have hf : f_X2_findReached_L20 v3 v4 s5 = some rr := hf
      unfold f_X2_findReached_L20 at hf
      refine k_iload_n (pc := 20) h dX2_findReached_20 rfl 1 rfl ?_
      refine k_if_eq (pc := 21) (tgt := 116) h dX2_findReached_21 rfl (fun hc => ?_) (fun hc => ?_)
      · have hf := it_p hc hf
        obtain rfl := so1 hf
        exact k_drop [] rfl kc20
      · have hf := it_n hc hf
        refine k_iload_n (pc := 24) h dX2_findReached_24 rfl 2 rfl ?_
        refine k_sipush (pc := 25) h dX2_findReached_25 kc_sipush_1000 ?_
        refine k_icmp_ge (pc := 28) (tgt := 116) h dX2_findReached_28 rfl (fun hc => ?_) (fun hc => ?_)
        · have hf := it_p hc hf
          obtain rfl := so1 hf
          exact k_drop [] rfl kc20
        · have hf := it_n hc hf
          refine k_aload_n (pc := 31) h dX2_findReached_31 rfl 0 rfl ?_
          refine k_getI (pc := 32) h fl_RX2_37 rfl rfl dX2_findReached_32 ?_
          obtain ⟨v7, ev7, hf⟩ := lb_s hf
          refine k_top ev7 ?_
          refine k_istore_n (pc := 35) h dX2_findReached_35 rfl (nk hL (by decide)) (lv' := [(0, .ref 11), (1, .int v3), (2, .int v4), (3, .int v7)]) rfl ?_
          refine k_iconst (pc := 36) h dX2_findReached_36 kc_iconst_0 ?_
          refine k_istore (pc := 37) h dX2_findReached_37 (nk hL (by decide)) (lv' := [(0, .ref 11), (1, .int v3), (2, .int v4), (3, .int v7), (4, .int (0 : Int32))]) rfl ?_
          obtain ⟨s10, hl, hf⟩ := ob_s hf
          refine k_drop (lv' := [(0, .ref 11), (2, .int v4), (3, .int v7), (4, .int (0 : Int32))]) [0, 2, 3, 4] rfl ?_
          refine lp_s (P := (fun q : Int32 × sh_S => sh_K G shCK 39 [(0, .ref 11), (2, .int v4), (3, .int v7), (4, .int q.1)] [] q.2)) (Q := (fun q : sh_S => sh_K G shCK 96 [(0, .ref 11), (2, .int v4), (3, .int v7)] [] q)) (s := ((0 : Int32), s5)) ?_ hl ?_
          · clear hf hl
            intro q rr hf kc39
            obtain ⟨v8, s9⟩ := q
            have hf : f_X2_findReached_L39 v8 s9 = some rr := hf
            unfold f_X2_findReached_L39 at hf
            refine k_iload (pc := 39) h dX2_findReached_39 3 rfl ?_
            refine k_aload_n (pc := 41) h dX2_findReached_41 rfl 0 rfl ?_
            refine k_getI (pc := 42) h fl_RX2_33 rfl rfl dX2_findReached_42 ?_
            refine k_icmp_ge (pc := 45) (tgt := 96) h dX2_findReached_45 rfl (fun hc => ?_) (fun hc => ?_)
            · have hf := it_p hc hf
              obtain rfl := so1 hf
              exact k_drop [0, 1, 2] rfl kc39
            · have hf := it_n hc hf
              refine k_aload_n (pc := 48) h dX2_findReached_48 rfl 0 rfl ?_
              refine k_getI (pc := 49) h fl_RX2_37 rfl rfl dX2_findReached_49 ?_
              refine k_iload (pc := 52) h dX2_findReached_52 3 rfl ?_
              obtain ⟨v11, cv11, hf⟩ := ob_s hf
              refine k_callNp (pc := 54) h cn_RX2_53 (c_X9_hasBit (s9 11 8) v8 _ v11 cv11) rfl rfl (st1 := [.int v11]) rfl ⟨rfl, rfl⟩ (rk hR (Nat.le_of_ble_eq_true rfl) (Nat.le_of_ble_eq_true rfl)) (Nat.le_of_ble_eq_true rfl) dX2_findReached_54 ?_
              obtain ⟨s12, hj, hf⟩ := ob_s hf
              have kj57 : sh_K G shCK 90 [(0, .ref 11), (2, .int v4), (3, .int v7), (4, .int v8)] [] s12 := by
                obtain ⟨v18, ev18, hf⟩ := lb_s hf
                refine k_iinc (pc := 90) h dX2_findReached_90 3 rfl ((congrArg (_ + ·) kc_iconst_1).trans ev18.symm) (nk hL (by decide)) (lv' := [(0, .ref 11), (2, .int v4), (3, .int v7), (4, .int v18)]) rfl ?_
                refine k_goto (pc := 93) (tgt := 39) h dX2_findReached_93 rfl ?_
                obtain rfl := so1 hf
                exact k_drop [0, 1, 2, 3] rfl kc39
              clear hf
              have hf := hj
              clear hj
              refine k_if_eq (pc := 57) (tgt := 90) h dX2_findReached_57 rfl (fun hc => ?_) (fun hc => ?_)
              · have hf := it_p hc hf
                obtain rfl := so1 hf
                exact k_drop [0, 1, 2, 3] rfl kj57
              · have hf := it_n hc hf
                refine k_aload_n (pc := 60) h dX2_findReached_60 rfl 0 rfl ?_
                refine k_dup (pc := 61) h dX2_findReached_61 rfl ?_
                refine k_getI (pc := 62) h fl_RX2_37 rfl rfl dX2_findReached_62 ?_
                refine k_aload_n (pc := 65) h dX2_findReached_65 rfl 0 rfl ?_
                refine k_getR (pc := 66) h fl_RX2_9 rfl rfl dX2_findReached_66 ?_
                refine k_iload (pc := 69) h dX2_findReached_69 3 rfl ?_
                obtain ⟨g13, hf⟩ := gu_s hf
                refine k_iald (pc := 71) (n := 24) h rfl g13 dX2_findReached_71 ?_
                obtain ⟨v14, cv14, hf⟩ := ob_s hf
                refine k_callNp (pc := 72) h cn_RX2_57 (c_X9_bitOf (s9 12 (ix v8)) _ v14 cv14) rfl rfl (st1 := [.int v14, .int (s9 11 8), .ref 11]) rfl ⟨rfl, rfl⟩ (rk hR (Nat.le_of_ble_eq_true rfl) (Nat.le_of_ble_eq_true rfl)) (Nat.le_of_ble_eq_true rfl) dX2_findReached_72 ?_
                refine k_aload_n (pc := 75) h dX2_findReached_75 rfl 0 rfl ?_
                refine k_getR (pc := 76) h fl_RX2_15 rfl rfl dX2_findReached_76 ?_
                refine k_iload (pc := 79) h dX2_findReached_79 3 rfl ?_
                obtain ⟨g15, hf⟩ := gu_s hf
                refine k_iald (pc := 81) (n := 24) h rfl g15 dX2_findReached_81 ?_
                obtain ⟨v16, cv16, hf⟩ := ob_s hf
                refine k_callNp (pc := 82) h cn_RX2_57 (c_X9_bitOf (s9 13 (ix v8)) _ v16 cv16) rfl rfl (st1 := [.int v16, .int v14, .int (s9 11 8), .ref 11]) rfl ⟨rfl, rfl⟩ (rk hR (Nat.le_of_ble_eq_true rfl) (Nat.le_of_ble_eq_true rfl)) (Nat.le_of_ble_eq_true rfl) dX2_findReached_82 ?_
                refine k_ior (pc := 85) h dX2_findReached_85 ?_
                refine k_ior (pc := 86) h dX2_findReached_86 ?_
                obtain ⟨s17, es17, hf⟩ := lb_s hf
                refine k_put (pc := 87) h fl_RX2_37 fp_X2_8 rfl rfl rfl rfl dX2_findReached_87 ?_
                refine k_heap es17 ?_
                obtain rfl := so1 hf
                exact k_drop [0, 1, 2, 3] rfl kj57
          · refine k_aload_n (pc := 96) h dX2_findReached_96 rfl 0 rfl ?_
            refine k_getI (pc := 97) h fl_RX2_37 rfl rfl dX2_findReached_97 ?_
            refine k_iload_n (pc := 100) h dX2_findReached_100 rfl 2 rfl ?_
            obtain ⟨v19, hj, hf⟩ := ob_s hf
            have kj101 : sh_K G shCK 109 [(0, .ref 11), (2, .int v4)] [.int v19] s10 := by
              refine k_istore_n (pc := 109) h dX2_findReached_109 rfl (nk hL (by decide)) (lv' := [(0, .ref 11), (1, .int v19), (2, .int v4)]) rfl ?_
              obtain ⟨v20, ev20, hf⟩ := lb_s hf
              refine k_iinc (pc := 110) h dX2_findReached_110 2 rfl ((congrArg (_ + ·) kc_iconst_1).trans ev20.symm) (nk hL (by decide)) (lv' := [(0, .ref 11), (1, .int v19), (2, .int v20)]) rfl ?_
              refine k_goto (pc := 113) (tgt := 20) h dX2_findReached_113 rfl ?_
              obtain rfl := so1 hf
              exact k_drop [0, 1, 2] rfl kc20
            clear hf
            have hf := hj
            clear hj
            refine k_icmp_eq (pc := 101) (tgt := 108) h dX2_findReached_101 rfl (fun hc => ?_) (fun hc => ?_)
            · have hf := it_p hc hf
              refine k_iconst (pc := 108) h dX2_findReached_108 kc_iconst_0 ?_
              obtain rfl := so1 hf
              exact k_drop [0, 1] rfl kj101
            · have hf := it_n hc hf
              refine k_iconst (pc := 104) h dX2_findReached_104 kc_iconst_1 ?_
              refine k_goto (pc := 105) (tgt := 109) h dX2_findReached_105 rfl ?_
              obtain rfl := so1 hf
              exact k_drop [0, 1] rfl kj101
    · obtain rfl := so1 hf
      exact hret 116 _ dX2_findReached_116 trivial
  clear hf
  have hf := hj
  clear hj
  refine k_if_le (pc := 5) (tgt := 12) h dX2_findReached_5 rfl (fun hc => ?_) (fun hc => ?_)
  · have hf := it_p hc hf
    refine k_iconst (pc := 12) h dX2_findReached_12 kc_iconst_0 ?_
    obtain rfl := so1 hf
    exact k_drop [0] rfl kj5
  · have hf := it_n hc hf
    refine k_iconst (pc := 8) h dX2_findReached_8 kc_iconst_1 ?_
    refine k_goto (pc := 9) (tgt := 13) h dX2_findReached_9 rfl ?_
    obtain rfl := so1 hf
    exact k_drop [0] rfl kj5
theorem dX2_findUses_0 : decode cX2_findUses 0 = .ok (.iconst 0, 1) := by decide +kernel
theorem dX2_findUses_1 : decode cX2_findUses 1 = .ok (.istore_n 2, 1) := by decide +kernel
theorem dX2_findUses_2 : decode cX2_findUses 2 = .ok (.iload_n 2, 1) := by decide +kernel
theorem dX2_findUses_3 : decode cX2_findUses 3 = .ok (.aload_n 0, 1) := by decide +kernel
theorem dX2_findUses_4 : decode cX2_findUses 4 = .ok (.getfield 33, 3) := by decide +kernel
theorem dX2_findUses_7 : decode cX2_findUses 7 = .ok (.if_icmp .ge 170, 3) := by decide +kernel
theorem dX2_findUses_10 : decode cX2_findUses 10 = .ok (.aload_n 1, 1) := by decide +kernel
theorem dX2_findUses_11 : decode cX2_findUses 11 = .ok (.getfield 43, 3) := by decide +kernel
theorem dX2_findUses_14 : decode cX2_findUses 14 = .ok (.iload_n 2, 1) := by decide +kernel
theorem dX2_findUses_15 : decode cX2_findUses 15 = .ok (.iaload, 1) := by decide +kernel
theorem dX2_findUses_16 : decode cX2_findUses 16 = .ok (.istore_n 3, 1) := by decide +kernel
theorem dX2_findUses_17 : decode cX2_findUses 17 = .ok (.aload_n 1, 1) := by decide +kernel
theorem dX2_findUses_18 : decode cX2_findUses 18 = .ok (.getfield 61, 3) := by decide +kernel
theorem dX2_findUses_21 : decode cX2_findUses 21 = .ok (.iload_n 2, 1) := by decide +kernel
theorem dX2_findUses_22 : decode cX2_findUses 22 = .ok (.baload, 1) := by decide +kernel
theorem dX2_findUses_23 : decode cX2_findUses 23 = .ok (.istore 4, 2) := by decide +kernel
theorem dX2_findUses_25 : decode cX2_findUses 25 = .ok (.aload_n 1, 1) := by decide +kernel
theorem dX2_findUses_26 : decode cX2_findUses 26 = .ok (.getfield 65, 3) := by decide +kernel
theorem dX2_findUses_29 : decode cX2_findUses 29 = .ok (.iload_n 2, 1) := by decide +kernel
theorem dX2_findUses_30 : decode cX2_findUses 30 = .ok (.baload, 1) := by decide +kernel
theorem dX2_findUses_31 : decode cX2_findUses 31 = .ok (.istore 5, 2) := by decide +kernel
theorem dX2_findUses_33 : decode cX2_findUses 33 = .ok (.iconst 1, 1) := by decide +kernel
theorem dX2_findUses_34 : decode cX2_findUses 34 = .ok (.aload_n 1, 1) := by decide +kernel
theorem dX2_findUses_35 : decode cX2_findUses 35 = .ok (.getfield 68, 3) := by decide +kernel
theorem dX2_findUses_38 : decode cX2_findUses 38 = .ok (.iload_n 2, 1) := by decide +kernel
theorem dX2_findUses_39 : decode cX2_findUses 39 = .ok (.iaload, 1) := by decide +kernel
theorem dX2_findUses_40 : decode cX2_findUses 40 = .ok (.ishl, 1) := by decide +kernel
theorem dX2_findUses_41 : decode cX2_findUses 41 = .ok (.istore 6, 2) := by decide +kernel
theorem dX2_findUses_43 : decode cX2_findUses 43 = .ok (.iconst 1, 1) := by decide +kernel
theorem dX2_findUses_44 : decode cX2_findUses 44 = .ok (.aload_n 1, 1) := by decide +kernel
theorem dX2_findUses_45 : decode cX2_findUses 45 = .ok (.getfield 71, 3) := by decide +kernel
theorem dX2_findUses_48 : decode cX2_findUses 48 = .ok (.iload_n 2, 1) := by decide +kernel
theorem dX2_findUses_49 : decode cX2_findUses 49 = .ok (.iaload, 1) := by decide +kernel
theorem dX2_findUses_50 : decode cX2_findUses 50 = .ok (.ishl, 1) := by decide +kernel
theorem dX2_findUses_51 : decode cX2_findUses 51 = .ok (.istore 7, 2) := by decide +kernel
theorem dX2_findUses_53 : decode cX2_findUses 53 = .ok (.iload_n 3, 1) := by decide +kernel
theorem dX2_findUses_54 : decode cX2_findUses 54 = .ok (.bipush 6, 2) := by decide +kernel
theorem dX2_findUses_56 : decode cX2_findUses 56 = .ok (.if_icmp .eq 13, 3) := by decide +kernel
theorem dX2_findUses_59 : decode cX2_findUses 59 = .ok (.iload_n 3, 1) := by decide +kernel
theorem dX2_findUses_60 : decode cX2_findUses 60 = .ok (.iconst 2, 1) := by decide +kernel
theorem dX2_findUses_61 : decode cX2_findUses 61 = .ok (.if_icmp .ne 12, 3) := by decide +kernel
theorem dX2_findUses_64 : decode cX2_findUses 64 = .ok (.iload 5, 2) := by decide +kernel
theorem dX2_findUses_66 : decode cX2_findUses 66 = .ok (.ifCond .ne 7, 3) := by decide +kernel
theorem dX2_findUses_69 : decode cX2_findUses 69 = .ok (.iconst 1, 1) := by decide +kernel
theorem dX2_findUses_70 : decode cX2_findUses 70 = .ok (.goto 4, 3) := by decide +kernel
theorem dX2_findUses_73 : decode cX2_findUses 73 = .ok (.iconst 0, 1) := by decide +kernel
theorem dX2_findUses_74 : decode cX2_findUses 74 = .ok (.istore 8, 2) := by decide +kernel
theorem dX2_findUses_76 : decode cX2_findUses 76 = .ok (.aload_n 0, 1) := by decide +kernel
theorem dX2_findUses_77 : decode cX2_findUses 77 = .ok (.getfield 18, 3) := by decide +kernel
theorem dX2_findUses_80 : decode cX2_findUses 80 = .ok (.iload_n 2, 1) := by decide +kernel
theorem dX2_findUses_81 : decode cX2_findUses 81 = .ok (.iload_n 3, 1) := by decide +kernel
theorem dX2_findUses_82 : decode cX2_findUses 82 = .ok (.iconst 1, 1) := by decide +kernel
theorem dX2_findUses_83 : decode cX2_findUses 83 = .ok (.if_icmp .eq 14, 3) := by decide +kernel
theorem dX2_findUses_86 : decode cX2_findUses 86 = .ok (.iload_n 3, 1) := by decide +kernel
theorem dX2_findUses_87 : decode cX2_findUses 87 = .ok (.bipush 6, 2) := by decide +kernel
theorem dX2_findUses_89 : decode cX2_findUses 89 = .ok (.if_icmp .eq 8, 3) := by decide +kernel
theorem dX2_findUses_92 : decode cX2_findUses 92 = .ok (.iload 5, 2) := by decide +kernel
theorem dX2_findUses_94 : decode cX2_findUses 94 = .ok (.ifCond .eq 8, 3) := by decide +kernel
theorem dX2_findUses_97 : decode cX2_findUses 97 = .ok (.iload 6, 2) := by decide +kernel
theorem dX2_findUses_99 : decode cX2_findUses 99 = .ok (.goto 4, 3) := by decide +kernel
theorem dX2_findUses_102 : decode cX2_findUses 102 = .ok (.iconst 0, 1) := by decide +kernel
theorem dX2_findUses_103 : decode cX2_findUses 103 = .ok (.iastore, 1) := by decide +kernel
theorem dX2_findUses_104 : decode cX2_findUses 104 = .ok (.aload_n 0, 1) := by decide +kernel
theorem dX2_findUses_105 : decode cX2_findUses 105 = .ok (.getfield 21, 3) := by decide +kernel
theorem dX2_findUses_108 : decode cX2_findUses 108 = .ok (.iload_n 2, 1) := by decide +kernel
theorem dX2_findUses_109 : decode cX2_findUses 109 = .ok (.iload 8, 2) := by decide +kernel
theorem dX2_findUses_111 : decode cX2_findUses 111 = .ok (.ifCond .eq 8, 3) := by decide +kernel
theorem dX2_findUses_114 : decode cX2_findUses 114 = .ok (.iload 6, 2) := by decide +kernel
theorem dX2_findUses_116 : decode cX2_findUses 116 = .ok (.goto 4, 3) := by decide +kernel
theorem dX2_findUses_119 : decode cX2_findUses 119 = .ok (.iconst 0, 1) := by decide +kernel
theorem dX2_findUses_120 : decode cX2_findUses 120 = .ok (.iload_n 3, 1) := by decide +kernel
theorem dX2_findUses_121 : decode cX2_findUses 121 = .ok (.bipush 6, 2) := by decide +kernel
theorem dX2_findUses_123 : decode cX2_findUses 123 = .ok (.if_icmp .eq 8, 3) := by decide +kernel
theorem dX2_findUses_126 : decode cX2_findUses 126 = .ok (.iload 4, 2) := by decide +kernel
theorem dX2_findUses_128 : decode cX2_findUses 128 = .ok (.ifCond .eq 8, 3) := by decide +kernel
theorem dX2_findUses_131 : decode cX2_findUses 131 = .ok (.iload 7, 2) := by decide +kernel
theorem dX2_findUses_133 : decode cX2_findUses 133 = .ok (.goto 4, 3) := by decide +kernel
theorem dX2_findUses_136 : decode cX2_findUses 136 = .ok (.iconst 0, 1) := by decide +kernel
theorem dX2_findUses_137 : decode cX2_findUses 137 = .ok (.ior, 1) := by decide +kernel
theorem dX2_findUses_138 : decode cX2_findUses 138 = .ok (.iastore, 1) := by decide +kernel
theorem dX2_findUses_139 : decode cX2_findUses 139 = .ok (.aload_n 0, 1) := by decide +kernel
theorem dX2_findUses_140 : decode cX2_findUses 140 = .ok (.getfield 27, 3) := by decide +kernel
theorem dX2_findUses_143 : decode cX2_findUses 143 = .ok (.iload_n 2, 1) := by decide +kernel
theorem dX2_findUses_144 : decode cX2_findUses 144 = .ok (.iload_n 3, 1) := by decide +kernel
theorem dX2_findUses_145 : decode cX2_findUses 145 = .ok (.bipush 6, 2) := by decide +kernel
theorem dX2_findUses_147 : decode cX2_findUses 147 = .ok (.if_icmp .eq 13, 3) := by decide +kernel
theorem dX2_findUses_150 : decode cX2_findUses 150 = .ok (.iload 4, 2) := by decide +kernel
theorem dX2_findUses_152 : decode cX2_findUses 152 = .ok (.ifCond .eq 17, 3) := by decide +kernel
theorem dX2_findUses_155 : decode cX2_findUses 155 = .ok (.iload 5, 2) := by decide +kernel
theorem dX2_findUses_157 : decode cX2_findUses 157 = .ok (.ifCond .eq 12, 3) := by decide +kernel
theorem dX2_findUses_160 : decode cX2_findUses 160 = .ok (.aload_n 1, 1) := by decide +kernel
theorem dX2_findUses_161 : decode cX2_findUses 161 = .ok (.getfield 68, 3) := by decide +kernel
theorem dX2_findUses_164 : decode cX2_findUses 164 = .ok (.iload_n 2, 1) := by decide +kernel
theorem dX2_findUses_165 : decode cX2_findUses 165 = .ok (.iaload, 1) := by decide +kernel
theorem dX2_findUses_166 : decode cX2_findUses 166 = .ok (.goto 4, 3) := by decide +kernel
theorem dX2_findUses_169 : decode cX2_findUses 169 = .ok (.iconst (-1), 1) := by decide +kernel
theorem dX2_findUses_170 : decode cX2_findUses 170 = .ok (.iastore, 1) := by decide +kernel
theorem dX2_findUses_171 : decode cX2_findUses 171 = .ok (.iinc 2 1, 3) := by decide +kernel
theorem dX2_findUses_174 : decode cX2_findUses 174 = .ok (.goto (-172), 3) := by decide +kernel
theorem dX2_findUses_177 : decode cX2_findUses 177 = .ok (.return_, 1) := by decide +kernel
def f_X2_findUses_L2 (v1 : Int32) (s2 : sh_S) : Option ((Int32 × sh_S) ⊕ (sh_S)) := (if (s2 11 7) ≤ v1 then some (.inr s2) else gu (inb v1 24) (lb ((s2 5 (ix v1))) (fun v5 => gu (inb v1 24) (lb ((s2 8 (ix v1))) (fun v7 => gu (inb v1 24) (lb ((s2 9 (ix v1))) (fun v9 => gu (inb v1 24) (lb (((1 : Int32) <<< ((s2 6 (ix v1)) &&& 31))) (fun v11 => gu (inb v1 24) (lb (((1 : Int32) <<< ((s2 2 (ix v1)) &&& 31))) (fun v13 => ob (if v5 = (6 : Int32) then some (1 : Int32) else (if v5 = (2 : Int32) then (if v9 = 0 then some (1 : Int32) else some (0 : Int32)) else some (0 : Int32))) (fun v14 => ob (if v5 = (1 : Int32) then some v11 else (if v5 = (6 : Int32) then some v11 else (if v9 = 0 then some (0 : Int32) else some v11))) (fun v15 => gu (inb v1 24) (lb (ur s2 14 (upd (s2 14) (ix v1) v15)) (fun s17 => ob (if v14 = 0 then some (0 : Int32) else some v11) (fun v18 => ob (if v5 = (6 : Int32) then some v13 else (if v7 = 0 then some (0 : Int32) else some v13)) (fun v19 => gu (inb v1 24) (lb (ur s17 15 (upd (s17 15) (ix v1) (v18 ||| v19))) (fun s21 => ob (if v5 = (6 : Int32) then gu (inb v1 24) (some (s21 6 (ix v1))) else (if v7 = 0 then some (-1 : Int32) else (if v9 = 0 then some (-1 : Int32) else gu (inb v1 24) (some (s21 6 (ix v1)))))) (fun v22 => gu (inb v1 24) (lb (ur s21 17 (upd (s21 17) (ix v1) v22)) (fun s26 => lb (v1 + (1 : Int32)) (fun v27 => some (.inl (v27, s26)))))))))))))))))))))))))
def f_X2_findUses  (s0 : sh_S) : Option (sh_S) := ob (lp (fun q => f_X2_findUses_L2 q.1 q.2) FU ((0 : Int32), s0)) (fun s3 => some s3)
set_option maxRecDepth 100000 in
set_option maxHeartbeats 4000000 in
theorem c_X2_findUses  (s0 : sh_S) (s9x : sh_S) (hf : f_X2_findUses  s0 = some s9x) : Ctr yX2_findUses cX2_findUses 9 none ({ frames := 0, cells := 0, slots := 0, locals := 0 } : Room) shCK [.ref 11, .ref 0] s0 none s9x := by
  refine Ctr.mk (ri := .return_) (by decide) (Nat.le_of_ble_eq_true rfl) (Rt_v) ?_
  intro G h hL hR hret
  refine k_drop (lv' := [(0, .ref 11), (1, .ref 0)]) [0, 1] rfl ?_
  unfold f_X2_findUses at hf
  refine k_iconst (pc := 0) h dX2_findUses_0 kc_iconst_0 ?_
  refine k_istore_n (pc := 1) h dX2_findUses_1 rfl (nk hL (by decide)) (lv' := [(0, .ref 11), (1, .ref 0), (2, .int (0 : Int32))]) rfl ?_
  obtain ⟨s3, hl, hf⟩ := ob_s hf
  refine k_drop (lv' := [(0, .ref 11), (1, .ref 0), (2, .int (0 : Int32))]) [0, 1, 2] rfl ?_
  refine lp_s (P := (fun q : Int32 × sh_S => sh_K G shCK 2 [(0, .ref 11), (1, .ref 0), (2, .int q.1)] [] q.2)) (Q := (fun q : sh_S => sh_K G shCK 177 [] [] q)) (s := ((0 : Int32), s0)) ?_ hl ?_
  · clear hf hl
    intro q rr hf kc2
    obtain ⟨v1, s2⟩ := q
    have hf : f_X2_findUses_L2 v1 s2 = some rr := hf
    unfold f_X2_findUses_L2 at hf
    refine k_iload_n (pc := 2) h dX2_findUses_2 rfl 2 rfl ?_
    refine k_aload_n (pc := 3) h dX2_findUses_3 rfl 0 rfl ?_
    refine k_getI (pc := 4) h fl_RX2_33 rfl rfl dX2_findUses_4 ?_
    refine k_icmp_ge (pc := 7) (tgt := 177) h dX2_findUses_7 rfl (fun hc => ?_) (fun hc => ?_)
    · have hf := it_p hc hf
      obtain rfl := so1 hf
      exact k_drop [] rfl kc2
    · have hf := it_n hc hf
      refine k_aload_n (pc := 10) h dX2_findUses_10 rfl 1 rfl ?_
      refine k_getR (pc := 11) h fl_RX2_43 rfl rfl dX2_findUses_11 ?_
      refine k_iload_n (pc := 14) h dX2_findUses_14 rfl 2 rfl ?_
      obtain ⟨g4, hf⟩ := gu_s hf
      refine k_iald (pc := 15) (n := 24) h rfl g4 dX2_findUses_15 ?_
      obtain ⟨v5, ev5, hf⟩ := lb_s hf
      refine k_top ev5 ?_
      refine k_istore_n (pc := 16) h dX2_findUses_16 rfl (nk hL (by decide)) (lv' := [(0, .ref 11), (1, .ref 0), (2, .int v1), (3, .int v5)]) rfl ?_
      refine k_aload_n (pc := 17) h dX2_findUses_17 rfl 1 rfl ?_
      refine k_getR (pc := 18) h fl_RX2_61 rfl rfl dX2_findUses_18 ?_
      refine k_iload_n (pc := 21) h dX2_findUses_21 rfl 2 rfl ?_
      obtain ⟨g6, hf⟩ := gu_s hf
      refine k_zald (pc := 22) (n := 24) h rfl g6 dX2_findUses_22 ?_
      obtain ⟨v7, ev7, hf⟩ := lb_s hf
      refine k_top ev7 ?_
      refine k_istore (pc := 23) h dX2_findUses_23 (nk hL (by decide)) (lv' := [(0, .ref 11), (1, .ref 0), (2, .int v1), (3, .int v5), (4, .int v7)]) rfl ?_
      refine k_aload_n (pc := 25) h dX2_findUses_25 rfl 1 rfl ?_
      refine k_getR (pc := 26) h fl_RX2_65 rfl rfl dX2_findUses_26 ?_
      refine k_iload_n (pc := 29) h dX2_findUses_29 rfl 2 rfl ?_
      obtain ⟨g8, hf⟩ := gu_s hf
      refine k_zald (pc := 30) (n := 24) h rfl g8 dX2_findUses_30 ?_
      obtain ⟨v9, ev9, hf⟩ := lb_s hf
      refine k_top ev9 ?_
      refine k_istore (pc := 31) h dX2_findUses_31 (nk hL (by decide)) (lv' := [(0, .ref 11), (1, .ref 0), (2, .int v1), (3, .int v5), (4, .int v7), (5, .int v9)]) rfl ?_
      refine k_iconst (pc := 33) h dX2_findUses_33 kc_iconst_1 ?_
      refine k_aload_n (pc := 34) h dX2_findUses_34 rfl 1 rfl ?_
      refine k_getR (pc := 35) h fl_RX2_68 rfl rfl dX2_findUses_35 ?_
      refine k_iload_n (pc := 38) h dX2_findUses_38 rfl 2 rfl ?_
      obtain ⟨g10, hf⟩ := gu_s hf
      refine k_iald (pc := 39) (n := 24) h rfl g10 dX2_findUses_39 ?_
      refine k_ishl (pc := 40) h dX2_findUses_40 ?_
      obtain ⟨v11, ev11, hf⟩ := lb_s hf
      refine k_top ev11 ?_
      refine k_istore (pc := 41) h dX2_findUses_41 (nk hL (by decide)) (lv' := [(0, .ref 11), (1, .ref 0), (2, .int v1), (3, .int v5), (4, .int v7), (5, .int v9), (6, .int v11)]) rfl ?_
      refine k_iconst (pc := 43) h dX2_findUses_43 kc_iconst_1 ?_
      refine k_aload_n (pc := 44) h dX2_findUses_44 rfl 1 rfl ?_
      refine k_getR (pc := 45) h fl_RX2_71 rfl rfl dX2_findUses_45 ?_
      refine k_iload_n (pc := 48) h dX2_findUses_48 rfl 2 rfl ?_
      obtain ⟨g12, hf⟩ := gu_s hf
      refine k_iald (pc := 49) (n := 24) h rfl g12 dX2_findUses_49 ?_
      refine k_ishl (pc := 50) h dX2_findUses_50 ?_
      obtain ⟨v13, ev13, hf⟩ := lb_s hf
      refine k_top ev13 ?_
      refine k_istore (pc := 51) h dX2_findUses_51 (nk hL (by decide)) (lv' := [(0, .ref 11), (1, .ref 0), (2, .int v1), (3, .int v5), (4, .int v7), (5, .int v9), (6, .int v11), (7, .int v13)]) rfl ?_
      refine k_iload_n (pc := 53) h dX2_findUses_53 rfl 3 rfl ?_
      refine k_bipush (pc := 54) h dX2_findUses_54 kc_bipush_6 ?_
      obtain ⟨v14, hj, hf⟩ := ob_s hf
      have kj56 : sh_K G shCK 74 [(0, .ref 11), (1, .ref 0), (2, .int v1), (3, .int v5), (4, .int v7), (5, .int v9), (6, .int v11), (7, .int v13)] [.int v14] s2 := by
        refine k_istore (pc := 74) h dX2_findUses_74 (nk hL (by decide)) (lv' := [(0, .ref 11), (1, .ref 0), (2, .int v1), (3, .int v5), (4, .int v7), (5, .int v9), (6, .int v11), (7, .int v13), (8, .int v14)]) rfl ?_
        refine k_aload_n (pc := 76) h dX2_findUses_76 rfl 0 rfl ?_
        refine k_getR (pc := 77) h fl_RX2_18 rfl rfl dX2_findUses_77 ?_
        refine k_iload_n (pc := 80) h dX2_findUses_80 rfl 2 rfl ?_
        refine k_iload_n (pc := 81) h dX2_findUses_81 rfl 3 rfl ?_
        refine k_iconst (pc := 82) h dX2_findUses_82 kc_iconst_1 ?_
        obtain ⟨v15, hj, hf⟩ := ob_s hf
        have kj83 : sh_K G shCK 103 [(0, .ref 11), (1, .ref 0), (2, .int v1), (3, .int v5), (4, .int v7), (5, .int v9), (6, .int v11), (7, .int v13), (8, .int v14)] [.int v15, .int v1, .ref 14] s2 := by
          obtain ⟨g16, hf⟩ := gu_s hf
          obtain ⟨s17, es17, hf⟩ := lb_s hf
          refine k_iast (pc := 103) (n := 24) h rfl g16 dX2_findUses_103 ?_
          refine k_heap es17 ?_
          refine k_aload_n (pc := 104) h dX2_findUses_104 rfl 0 rfl ?_
          refine k_getR (pc := 105) h fl_RX2_21 rfl rfl dX2_findUses_105 ?_
          refine k_iload_n (pc := 108) h dX2_findUses_108 rfl 2 rfl ?_
          refine k_iload (pc := 109) h dX2_findUses_109 8 rfl ?_
          obtain ⟨v18, hj, hf⟩ := ob_s hf
          have kj111 : sh_K G shCK 120 [(0, .ref 11), (1, .ref 0), (2, .int v1), (3, .int v5), (4, .int v7), (5, .int v9), (7, .int v13)] [.int v18, .int v1, .ref 15] s17 := by
            refine k_iload_n (pc := 120) h dX2_findUses_120 rfl 3 rfl ?_
            refine k_bipush (pc := 121) h dX2_findUses_121 kc_bipush_6 ?_
            obtain ⟨v19, hj, hf⟩ := ob_s hf
            have kj123 : sh_K G shCK 137 [(0, .ref 11), (1, .ref 0), (2, .int v1), (3, .int v5), (4, .int v7), (5, .int v9)] [.int v19, .int v18, .int v1, .ref 15] s17 := by
              refine k_ior (pc := 137) h dX2_findUses_137 ?_
              obtain ⟨g20, hf⟩ := gu_s hf
              obtain ⟨s21, es21, hf⟩ := lb_s hf
              refine k_iast (pc := 138) (n := 24) h rfl g20 dX2_findUses_138 ?_
              refine k_heap es21 ?_
              refine k_aload_n (pc := 139) h dX2_findUses_139 rfl 0 rfl ?_
              refine k_getR (pc := 140) h fl_RX2_27 rfl rfl dX2_findUses_140 ?_
              refine k_iload_n (pc := 143) h dX2_findUses_143 rfl 2 rfl ?_
              refine k_iload_n (pc := 144) h dX2_findUses_144 rfl 3 rfl ?_
              refine k_bipush (pc := 145) h dX2_findUses_145 kc_bipush_6 ?_
              obtain ⟨v22, hj, hf⟩ := ob_s hf
              have kj147 : sh_K G shCK 170 [(0, .ref 11), (1, .ref 0), (2, .int v1)] [.int v22, .int v1, .ref 17] s21 := by
                obtain ⟨g25, hf⟩ := gu_s hf
                obtain ⟨s26, es26, hf⟩ := lb_s hf
                refine k_iast (pc := 170) (n := 24) h rfl g25 dX2_findUses_170 ?_
                refine k_heap es26 ?_
                obtain ⟨v27, ev27, hf⟩ := lb_s hf
                refine k_iinc (pc := 171) h dX2_findUses_171 2 rfl ((congrArg (_ + ·) kc_iconst_1).trans ev27.symm) (nk hL (by decide)) (lv' := [(0, .ref 11), (1, .ref 0), (2, .int v27)]) rfl ?_
                refine k_goto (pc := 174) (tgt := 2) h dX2_findUses_174 rfl ?_
                obtain rfl := so1 hf
                exact k_drop [0, 1, 2] rfl kc2
              clear hf
              have hf := hj
              clear hj
              refine k_icmp_eq (pc := 147) (tgt := 160) h dX2_findUses_147 rfl (fun hc => ?_) (fun hc => ?_)
              · have hf := it_p hc hf
                refine k_aload_n (pc := 160) h dX2_findUses_160 rfl 1 rfl ?_
                refine k_getR (pc := 161) h fl_RX2_68 rfl rfl dX2_findUses_161 ?_
                refine k_iload_n (pc := 164) h dX2_findUses_164 rfl 2 rfl ?_
                obtain ⟨g23, hf⟩ := gu_s hf
                refine k_iald (pc := 165) (n := 24) h rfl g23 dX2_findUses_165 ?_
                refine k_goto (pc := 166) (tgt := 170) h dX2_findUses_166 rfl ?_
                obtain rfl := so1 hf
                exact k_drop [0, 1, 2] rfl kj147
              · have hf := it_n hc hf
                refine k_iload (pc := 150) h dX2_findUses_150 4 rfl ?_
                refine k_if_eq (pc := 152) (tgt := 169) h dX2_findUses_152 rfl (fun hc => ?_) (fun hc => ?_)
                · have hf := it_p hc hf
                  refine k_iconst (pc := 169) h dX2_findUses_169 kc_iconst_m1 ?_
                  obtain rfl := so1 hf
                  exact k_drop [0, 1, 2] rfl kj147
                · have hf := it_n hc hf
                  refine k_iload (pc := 155) h dX2_findUses_155 5 rfl ?_
                  refine k_if_eq (pc := 157) (tgt := 169) h dX2_findUses_157 rfl (fun hc => ?_) (fun hc => ?_)
                  · have hf := it_p hc hf
                    refine k_iconst (pc := 169) h dX2_findUses_169 kc_iconst_m1 ?_
                    obtain rfl := so1 hf
                    exact k_drop [0, 1, 2] rfl kj147
                  · have hf := it_n hc hf
                    refine k_aload_n (pc := 160) h dX2_findUses_160 rfl 1 rfl ?_
                    refine k_getR (pc := 161) h fl_RX2_68 rfl rfl dX2_findUses_161 ?_
                    refine k_iload_n (pc := 164) h dX2_findUses_164 rfl 2 rfl ?_
                    obtain ⟨g24, hf⟩ := gu_s hf
                    refine k_iald (pc := 165) (n := 24) h rfl g24 dX2_findUses_165 ?_
                    refine k_goto (pc := 166) (tgt := 170) h dX2_findUses_166 rfl ?_
                    obtain rfl := so1 hf
                    exact k_drop [0, 1, 2] rfl kj147
            clear hf
            have hf := hj
            clear hj
            refine k_icmp_eq (pc := 123) (tgt := 131) h dX2_findUses_123 rfl (fun hc => ?_) (fun hc => ?_)
            · have hf := it_p hc hf
              refine k_iload (pc := 131) h dX2_findUses_131 6 rfl ?_
              refine k_goto (pc := 133) (tgt := 137) h dX2_findUses_133 rfl ?_
              obtain rfl := so1 hf
              exact k_drop [0, 1, 2, 3, 4, 5] rfl kj123
            · have hf := it_n hc hf
              refine k_iload (pc := 126) h dX2_findUses_126 4 rfl ?_
              refine k_if_eq (pc := 128) (tgt := 136) h dX2_findUses_128 rfl (fun hc => ?_) (fun hc => ?_)
              · have hf := it_p hc hf
                refine k_iconst (pc := 136) h dX2_findUses_136 kc_iconst_0 ?_
                obtain rfl := so1 hf
                exact k_drop [0, 1, 2, 3, 4, 5] rfl kj123
              · have hf := it_n hc hf
                refine k_iload (pc := 131) h dX2_findUses_131 6 rfl ?_
                refine k_goto (pc := 133) (tgt := 137) h dX2_findUses_133 rfl ?_
                obtain rfl := so1 hf
                exact k_drop [0, 1, 2, 3, 4, 5] rfl kj123
          clear hf
          have hf := hj
          clear hj
          refine k_if_eq (pc := 111) (tgt := 119) h dX2_findUses_111 rfl (fun hc => ?_) (fun hc => ?_)
          · have hf := it_p hc hf
            refine k_iconst (pc := 119) h dX2_findUses_119 kc_iconst_0 ?_
            obtain rfl := so1 hf
            exact k_drop [0, 1, 2, 3, 4, 5, 7] rfl kj111
          · have hf := it_n hc hf
            refine k_iload (pc := 114) h dX2_findUses_114 6 rfl ?_
            refine k_goto (pc := 116) (tgt := 120) h dX2_findUses_116 rfl ?_
            obtain rfl := so1 hf
            exact k_drop [0, 1, 2, 3, 4, 5, 7] rfl kj111
        clear hf
        have hf := hj
        clear hj
        refine k_icmp_eq (pc := 83) (tgt := 97) h dX2_findUses_83 rfl (fun hc => ?_) (fun hc => ?_)
        · have hf := it_p hc hf
          refine k_iload (pc := 97) h dX2_findUses_97 6 rfl ?_
          refine k_goto (pc := 99) (tgt := 103) h dX2_findUses_99 rfl ?_
          obtain rfl := so1 hf
          exact k_drop [0, 1, 2, 3, 4, 5, 6, 7, 8] rfl kj83
        · have hf := it_n hc hf
          refine k_iload_n (pc := 86) h dX2_findUses_86 rfl 3 rfl ?_
          refine k_bipush (pc := 87) h dX2_findUses_87 kc_bipush_6 ?_
          refine k_icmp_eq (pc := 89) (tgt := 97) h dX2_findUses_89 rfl (fun hc => ?_) (fun hc => ?_)
          · have hf := it_p hc hf
            refine k_iload (pc := 97) h dX2_findUses_97 6 rfl ?_
            refine k_goto (pc := 99) (tgt := 103) h dX2_findUses_99 rfl ?_
            obtain rfl := so1 hf
            exact k_drop [0, 1, 2, 3, 4, 5, 6, 7, 8] rfl kj83
          · have hf := it_n hc hf
            refine k_iload (pc := 92) h dX2_findUses_92 5 rfl ?_
            refine k_if_eq (pc := 94) (tgt := 102) h dX2_findUses_94 rfl (fun hc => ?_) (fun hc => ?_)
            · have hf := it_p hc hf
              refine k_iconst (pc := 102) h dX2_findUses_102 kc_iconst_0 ?_
              obtain rfl := so1 hf
              exact k_drop [0, 1, 2, 3, 4, 5, 6, 7, 8] rfl kj83
            · have hf := it_n hc hf
              refine k_iload (pc := 97) h dX2_findUses_97 6 rfl ?_
              refine k_goto (pc := 99) (tgt := 103) h dX2_findUses_99 rfl ?_
              obtain rfl := so1 hf
              exact k_drop [0, 1, 2, 3, 4, 5, 6, 7, 8] rfl kj83
      clear hf
      have hf := hj
      clear hj
      refine k_icmp_eq (pc := 56) (tgt := 69) h dX2_findUses_56 rfl (fun hc => ?_) (fun hc => ?_)
      · have hf := it_p hc hf
        refine k_iconst (pc := 69) h dX2_findUses_69 kc_iconst_1 ?_
        refine k_goto (pc := 70) (tgt := 74) h dX2_findUses_70 rfl ?_
        obtain rfl := so1 hf
        exact k_drop [0, 1, 2, 3, 4, 5, 6, 7] rfl kj56
      · have hf := it_n hc hf
        refine k_iload_n (pc := 59) h dX2_findUses_59 rfl 3 rfl ?_
        refine k_iconst (pc := 60) h dX2_findUses_60 kc_iconst_2 ?_
        refine k_icmp_ne (pc := 61) (tgt := 73) h dX2_findUses_61 rfl (fun hc => ?_) (fun hc => ?_)
        · have hf := it_n hc hf
          refine k_iconst (pc := 73) h dX2_findUses_73 kc_iconst_0 ?_
          obtain rfl := so1 hf
          exact k_drop [0, 1, 2, 3, 4, 5, 6, 7] rfl kj56
        · have hf := it_p hc hf
          refine k_iload (pc := 64) h dX2_findUses_64 5 rfl ?_
          refine k_if_ne (pc := 66) (tgt := 73) h dX2_findUses_66 rfl (fun hc => ?_) (fun hc => ?_)
          · have hf := it_n hc hf
            refine k_iconst (pc := 73) h dX2_findUses_73 kc_iconst_0 ?_
            obtain rfl := so1 hf
            exact k_drop [0, 1, 2, 3, 4, 5, 6, 7] rfl kj56
          · have hf := it_p hc hf
            refine k_iconst (pc := 69) h dX2_findUses_69 kc_iconst_1 ?_
            refine k_goto (pc := 70) (tgt := 74) h dX2_findUses_70 rfl ?_
            obtain rfl := so1 hf
            exact k_drop [0, 1, 2, 3, 4, 5, 6, 7] rfl kj56
  · obtain rfl := so1 hf
    exact hret 177 _ dX2_findUses_177 trivial
theorem dX2_findLive_0 : decode cX2_findLive 0 = .ok (.iconst 0, 1) := by decide +kernel
theorem dX2_findLive_1 : decode cX2_findLive 1 = .ok (.istore_n 1, 1) := by decide +kernel
theorem dX2_findLive_2 : decode cX2_findLive 2 = .ok (.iload_n 1, 1) := by decide +kernel
theorem dX2_findLive_3 : decode cX2_findLive 3 = .ok (.aload_n 0, 1) := by decide +kernel
theorem dX2_findLive_4 : decode cX2_findLive 4 = .ok (.getfield 33, 3) := by decide +kernel
theorem dX2_findLive_7 : decode cX2_findLive 7 = .ok (.if_icmp .ge 16, 3) := by decide +kernel
theorem dX2_findLive_10 : decode cX2_findLive 10 = .ok (.aload_n 0, 1) := by decide +kernel
theorem dX2_findLive_11 : decode cX2_findLive 11 = .ok (.getfield 24, 3) := by decide +kernel
theorem dX2_findLive_14 : decode cX2_findLive 14 = .ok (.iload_n 1, 1) := by decide +kernel
theorem dX2_findLive_15 : decode cX2_findLive 15 = .ok (.iconst 0, 1) := by decide +kernel
theorem dX2_findLive_16 : decode cX2_findLive 16 = .ok (.iastore, 1) := by decide +kernel
theorem dX2_findLive_17 : decode cX2_findLive 17 = .ok (.iinc 1 1, 3) := by decide +kernel
theorem dX2_findLive_20 : decode cX2_findLive 20 = .ok (.goto (-18), 3) := by decide +kernel
theorem dX2_findLive_23 : decode cX2_findLive 23 = .ok (.iconst 1, 1) := by decide +kernel
theorem dX2_findLive_24 : decode cX2_findLive 24 = .ok (.istore_n 1, 1) := by decide +kernel
theorem dX2_findLive_25 : decode cX2_findLive 25 = .ok (.iconst 0, 1) := by decide +kernel
theorem dX2_findLive_26 : decode cX2_findLive 26 = .ok (.istore_n 2, 1) := by decide +kernel
theorem dX2_findLive_27 : decode cX2_findLive 27 = .ok (.iload_n 1, 1) := by decide +kernel
theorem dX2_findLive_28 : decode cX2_findLive 28 = .ok (.ifCond .eq 133, 3) := by decide +kernel
theorem dX2_findLive_31 : decode cX2_findLive 31 = .ok (.iload_n 2, 1) := by decide +kernel
theorem dX2_findLive_32 : decode cX2_findLive 32 = .ok (.sipush 1000, 3) := by decide +kernel
theorem dX2_findLive_35 : decode cX2_findLive 35 = .ok (.if_icmp .ge 126, 3) := by decide +kernel
theorem dX2_findLive_38 : decode cX2_findLive 38 = .ok (.iconst 0, 1) := by decide +kernel
theorem dX2_findLive_39 : decode cX2_findLive 39 = .ok (.istore_n 1, 1) := by decide +kernel
theorem dX2_findLive_40 : decode cX2_findLive 40 = .ok (.aload_n 0, 1) := by decide +kernel
theorem dX2_findLive_41 : decode cX2_findLive 41 = .ok (.getfield 33, 3) := by decide +kernel
theorem dX2_findLive_44 : decode cX2_findLive 44 = .ok (.iconst 1, 1) := by decide +kernel
theorem dX2_findLive_45 : decode cX2_findLive 45 = .ok (.isub, 1) := by decide +kernel
theorem dX2_findLive_46 : decode cX2_findLive 46 = .ok (.istore_n 3, 1) := by decide +kernel
theorem dX2_findLive_47 : decode cX2_findLive 47 = .ok (.iload_n 3, 1) := by decide +kernel
theorem dX2_findLive_48 : decode cX2_findLive 48 = .ok (.ifCond .lt 107, 3) := by decide +kernel
theorem dX2_findLive_51 : decode cX2_findLive 51 = .ok (.aload_n 0, 1) := by decide +kernel
theorem dX2_findLive_52 : decode cX2_findLive 52 = .ok (.getfield 9, 3) := by decide +kernel
theorem dX2_findLive_55 : decode cX2_findLive 55 = .ok (.iload_n 3, 1) := by decide +kernel
theorem dX2_findLive_56 : decode cX2_findLive 56 = .ok (.iaload, 1) := by decide +kernel
theorem dX2_findLive_57 : decode cX2_findLive 57 = .ok (.iconst (-1), 1) := by decide +kernel
theorem dX2_findLive_58 : decode cX2_findLive 58 = .ok (.if_icmp .ne 7, 3) := by decide +kernel
theorem dX2_findLive_61 : decode cX2_findLive 61 = .ok (.iconst 0, 1) := by decide +kernel
theorem dX2_findLive_62 : decode cX2_findLive 62 = .ok (.goto 14, 3) := by decide +kernel
theorem dX2_findLive_65 : decode cX2_findLive 65 = .ok (.aload_n 0, 1) := by decide +kernel
theorem dX2_findLive_66 : decode cX2_findLive 66 = .ok (.getfield 24, 3) := by decide +kernel
theorem dX2_findLive_69 : decode cX2_findLive 69 = .ok (.aload_n 0, 1) := by decide +kernel
theorem dX2_findLive_70 : decode cX2_findLive 70 = .ok (.getfield 9, 3) := by decide +kernel
theorem dX2_findLive_73 : decode cX2_findLive 73 = .ok (.iload_n 3, 1) := by decide +kernel
theorem dX2_findLive_74 : decode cX2_findLive 74 = .ok (.iaload, 1) := by decide +kernel
theorem dX2_findLive_75 : decode cX2_findLive 75 = .ok (.iaload, 1) := by decide +kernel
theorem dX2_findLive_76 : decode cX2_findLive 76 = .ok (.istore 4, 2) := by decide +kernel
theorem dX2_findLive_78 : decode cX2_findLive 78 = .ok (.iload 4, 2) := by decide +kernel
theorem dX2_findLive_80 : decode cX2_findLive 80 = .ok (.aload_n 0, 1) := by decide +kernel
theorem dX2_findLive_81 : decode cX2_findLive 81 = .ok (.getfield 15, 3) := by decide +kernel
theorem dX2_findLive_84 : decode cX2_findLive 84 = .ok (.iload_n 3, 1) := by decide +kernel
theorem dX2_findLive_85 : decode cX2_findLive 85 = .ok (.iaload, 1) := by decide +kernel
theorem dX2_findLive_86 : decode cX2_findLive 86 = .ok (.iconst (-1), 1) := by decide +kernel
theorem dX2_findLive_87 : decode cX2_findLive 87 = .ok (.if_icmp .ne 7, 3) := by decide +kernel
theorem dX2_findLive_90 : decode cX2_findLive 90 = .ok (.iconst 0, 1) := by decide +kernel
theorem dX2_findLive_91 : decode cX2_findLive 91 = .ok (.goto 14, 3) := by decide +kernel
theorem dX2_findLive_94 : decode cX2_findLive 94 = .ok (.aload_n 0, 1) := by decide +kernel
theorem dX2_findLive_95 : decode cX2_findLive 95 = .ok (.getfield 24, 3) := by decide +kernel
theorem dX2_findLive_98 : decode cX2_findLive 98 = .ok (.aload_n 0, 1) := by decide +kernel
theorem dX2_findLive_99 : decode cX2_findLive 99 = .ok (.getfield 15, 3) := by decide +kernel
theorem dX2_findLive_102 : decode cX2_findLive 102 = .ok (.iload_n 3, 1) := by decide +kernel
theorem dX2_findLive_103 : decode cX2_findLive 103 = .ok (.iaload, 1) := by decide +kernel
theorem dX2_findLive_104 : decode cX2_findLive 104 = .ok (.iaload, 1) := by decide +kernel
theorem dX2_findLive_105 : decode cX2_findLive 105 = .ok (.ior, 1) := by decide +kernel
theorem dX2_findLive_106 : decode cX2_findLive 106 = .ok (.istore 4, 2) := by decide +kernel
theorem dX2_findLive_108 : decode cX2_findLive 108 = .ok (.aload_n 0, 1) := by decide +kernel
theorem dX2_findLive_109 : decode cX2_findLive 109 = .ok (.getfield 18, 3) := by decide +kernel
theorem dX2_findLive_112 : decode cX2_findLive 112 = .ok (.iload_n 3, 1) := by decide +kernel
theorem dX2_findLive_113 : decode cX2_findLive 113 = .ok (.iaload, 1) := by decide +kernel
theorem dX2_findLive_114 : decode cX2_findLive 114 = .ok (.iload 4, 2) := by decide +kernel
theorem dX2_findLive_116 : decode cX2_findLive 116 = .ok (.aload_n 0, 1) := by decide +kernel
theorem dX2_findLive_117 : decode cX2_findLive 117 = .ok (.getfield 21, 3) := by decide +kernel
theorem dX2_findLive_120 : decode cX2_findLive 120 = .ok (.iload_n 3, 1) := by decide +kernel
theorem dX2_findLive_121 : decode cX2_findLive 121 = .ok (.iaload, 1) := by decide +kernel
theorem dX2_findLive_122 : decode cX2_findLive 122 = .ok (.iconst (-1), 1) := by decide +kernel
theorem dX2_findLive_123 : decode cX2_findLive 123 = .ok (.ixor, 1) := by decide +kernel
theorem dX2_findLive_124 : decode cX2_findLive 124 = .ok (.iand, 1) := by decide +kernel
theorem dX2_findLive_125 : decode cX2_findLive 125 = .ok (.ior, 1) := by decide +kernel
theorem dX2_findLive_126 : decode cX2_findLive 126 = .ok (.istore 5, 2) := by decide +kernel
theorem dX2_findLive_128 : decode cX2_findLive 128 = .ok (.iload 5, 2) := by decide +kernel
theorem dX2_findLive_130 : decode cX2_findLive 130 = .ok (.aload_n 0, 1) := by decide +kernel
theorem dX2_findLive_131 : decode cX2_findLive 131 = .ok (.getfield 24, 3) := by decide +kernel
theorem dX2_findLive_134 : decode cX2_findLive 134 = .ok (.iload_n 3, 1) := by decide +kernel
theorem dX2_findLive_135 : decode cX2_findLive 135 = .ok (.iaload, 1) := by decide +kernel
theorem dX2_findLive_136 : decode cX2_findLive 136 = .ok (.if_icmp .eq 13, 3) := by decide +kernel
theorem dX2_findLive_139 : decode cX2_findLive 139 = .ok (.aload_n 0, 1) := by decide +kernel
theorem dX2_findLive_140 : decode cX2_findLive 140 = .ok (.getfield 24, 3) := by decide +kernel
theorem dX2_findLive_143 : decode cX2_findLive 143 = .ok (.iload_n 3, 1) := by decide +kernel
theorem dX2_findLive_144 : decode cX2_findLive 144 = .ok (.iload 5, 2) := by decide +kernel
theorem dX2_findLive_146 : decode cX2_findLive 146 = .ok (.iastore, 1) := by decide +kernel
theorem dX2_findLive_147 : decode cX2_findLive 147 = .ok (.iconst 1, 1) := by decide +kernel
theorem dX2_findLive_148 : decode cX2_findLive 148 = .ok (.istore_n 1, 1) := by decide +kernel
theorem dX2_findLive_149 : decode cX2_findLive 149 = .ok (.iinc 3 (-1), 3) := by decide +kernel
theorem dX2_findLive_152 : decode cX2_findLive 152 = .ok (.goto (-105), 3) := by decide +kernel
theorem dX2_findLive_155 : decode cX2_findLive 155 = .ok (.iinc 2 1, 3) := by decide +kernel
theorem dX2_findLive_158 : decode cX2_findLive 158 = .ok (.goto (-131), 3) := by decide +kernel
theorem dX2_findLive_161 : decode cX2_findLive 161 = .ok (.return_, 1) := by decide +kernel
def f_X2_findLive_L2 (v1 : Int32) (s2 : sh_S) : Option ((Int32 × sh_S) ⊕ (sh_S)) := (if (s2 11 7) ≤ v1 then some (.inr s2) else gu (inb v1 24) (lb (ur s2 16 (upd (s2 16) (ix v1) (0 : Int32))) (fun s5 => lb (v1 + (1 : Int32)) (fun v6 => some (.inl (v6, s5))))))
def f_X2_findLive_L47 (v12 : Int32) (v13 : Int32) (s14 : sh_S) : Option ((Int32 × Int32 × sh_S) ⊕ (Int32 × sh_S)) := (if v13 < 0 then some (.inr (v12, s14)) else gu (inb v13 24) (ob (if (s14 12 (ix v13)) = (-1 : Int32) then some (0 : Int32) else gu (inb v13 24) (gu (inb (s14 12 (ix v13)) 24) (some (s14 16 (ix (s14 12 (ix v13))))))) (fun v18 => gu (inb v13 24) (ob (if (s14 13 (ix v13)) = (-1 : Int32) then some (0 : Int32) else gu (inb v13 24) (gu (inb (s14 13 (ix v13)) 24) (some (s14 16 (ix (s14 13 (ix v13))))))) (fun v22 => lb ((v18 ||| v22)) (fun v25 => gu (inb v13 24) (gu (inb v13 24) (lb (((s14 14 (ix v13)) ||| (v25 &&& ((s14 15 (ix v13)) ^^^ (-1 : Int32))))) (fun v28 => gu (inb v13 24) (ob2 (if v28 = (s14 16 (ix v13)) then some (v12, s14) else gu (inb v13 24) (lb (ur s14 16 (upd (s14 16) (ix v13) v28)) (fun s33 => some ((1 : Int32), s33)))) (fun v30 s31 => lb (v13 + (-1 : Int32)) (fun v34 => some (.inl (v30, v34, s31))))))))))))))
def f_X2_findLive_L27 (v7 : Int32) (v8 : Int32) (s9 : sh_S) : Option ((Int32 × Int32 × sh_S) ⊕ (sh_S)) := (if v7 = 0 then some (.inr s9) else (if (1000 : Int32) ≤ v8 then some (.inr s9) else lb (((s9 11 7) - (1 : Int32))) (fun v11 => ob2 (lp (fun q => f_X2_findLive_L47 q.1 q.2.1 q.2.2) FU ((0 : Int32), v11, s9)) (fun v15 s16 => lb (v8 + (1 : Int32)) (fun v35 => some (.inl (v15, v35, s16)))))))
def f_X2_findLive  (s0 : sh_S) : Option (sh_S) := ob (lp (fun q => f_X2_findLive_L2 q.1 q.2) FU ((0 : Int32), s0)) (fun s3 => ob (lp (fun q => f_X2_findLive_L27 q.1 q.2.1 q.2.2) FU ((1 : Int32), (0 : Int32), s3)) (fun s10 => some s10))
set_option maxRecDepth 100000 in
set_option maxHeartbeats 4000000 in
theorem c_X2_findLive  (s0 : sh_S) (s9x : sh_S) (hf : f_X2_findLive  s0 = some s9x) : Ctr yX2_findLive cX2_findLive 6 none ({ frames := 0, cells := 0, slots := 0, locals := 0 } : Room) shCK [.ref 11] s0 none s9x := by
  refine Ctr.mk (ri := .return_) (by decide) (Nat.le_of_ble_eq_true rfl) (Rt_v) ?_
  intro G h hL hR hret
  refine k_drop (lv' := [(0, .ref 11)]) [0] rfl ?_
  unfold f_X2_findLive at hf
  refine k_iconst (pc := 0) h dX2_findLive_0 kc_iconst_0 ?_
  refine k_istore_n (pc := 1) h dX2_findLive_1 rfl (nk hL (by decide)) (lv' := [(0, .ref 11), (1, .int (0 : Int32))]) rfl ?_
  obtain ⟨s3, hl, hf⟩ := ob_s hf
  refine k_drop (lv' := [(0, .ref 11), (1, .int (0 : Int32))]) [0, 1] rfl ?_
  refine lp_s (P := (fun q : Int32 × sh_S => sh_K G shCK 2 [(0, .ref 11), (1, .int q.1)] [] q.2)) (Q := (fun q : sh_S => sh_K G shCK 23 [(0, .ref 11)] [] q)) (s := ((0 : Int32), s0)) ?_ hl ?_
  · clear hf hl
    intro q rr hf kc2
    obtain ⟨v1, s2⟩ := q
    have hf : f_X2_findLive_L2 v1 s2 = some rr := hf
    unfold f_X2_findLive_L2 at hf
    refine k_iload_n (pc := 2) h dX2_findLive_2 rfl 1 rfl ?_
    refine k_aload_n (pc := 3) h dX2_findLive_3 rfl 0 rfl ?_
    refine k_getI (pc := 4) h fl_RX2_33 rfl rfl dX2_findLive_4 ?_
    refine k_icmp_ge (pc := 7) (tgt := 23) h dX2_findLive_7 rfl (fun hc => ?_) (fun hc => ?_)
    · have hf := it_p hc hf
      obtain rfl := so1 hf
      exact k_drop [0] rfl kc2
    · have hf := it_n hc hf
      refine k_aload_n (pc := 10) h dX2_findLive_10 rfl 0 rfl ?_
      refine k_getR (pc := 11) h fl_RX2_24 rfl rfl dX2_findLive_11 ?_
      refine k_iload_n (pc := 14) h dX2_findLive_14 rfl 1 rfl ?_
      refine k_iconst (pc := 15) h dX2_findLive_15 kc_iconst_0 ?_
      obtain ⟨g4, hf⟩ := gu_s hf
      obtain ⟨s5, es5, hf⟩ := lb_s hf
      refine k_iast (pc := 16) (n := 24) h rfl g4 dX2_findLive_16 ?_
      refine k_heap es5 ?_
      obtain ⟨v6, ev6, hf⟩ := lb_s hf
      refine k_iinc (pc := 17) h dX2_findLive_17 1 rfl ((congrArg (_ + ·) kc_iconst_1).trans ev6.symm) (nk hL (by decide)) (lv' := [(0, .ref 11), (1, .int v6)]) rfl ?_
      refine k_goto (pc := 20) (tgt := 2) h dX2_findLive_20 rfl ?_
      obtain rfl := so1 hf
      exact k_drop [0, 1] rfl kc2
  · refine k_iconst (pc := 23) h dX2_findLive_23 kc_iconst_1 ?_
    refine k_istore_n (pc := 24) h dX2_findLive_24 rfl (nk hL (by decide)) (lv' := [(0, .ref 11), (1, .int (1 : Int32))]) rfl ?_
    refine k_iconst (pc := 25) h dX2_findLive_25 kc_iconst_0 ?_
    refine k_istore_n (pc := 26) h dX2_findLive_26 rfl (nk hL (by decide)) (lv' := [(0, .ref 11), (1, .int (1 : Int32)), (2, .int (0 : Int32))]) rfl ?_
    obtain ⟨s10, hl, hf⟩ := ob_s hf
    refine k_drop (lv' := [(0, .ref 11), (1, .int (1 : Int32)), (2, .int (0 : Int32))]) [0, 1, 2] rfl ?_
    refine lp_s (P := (fun q : Int32 × Int32 × sh_S => sh_K G shCK 27 [(0, .ref 11), (1, .int q.1), (2, .int q.2.1)] [] q.2.2)) (Q := (fun q : sh_S => sh_K G shCK 161 [] [] q)) (s := ((1 : Int32), (0 : Int32), s3)) ?_ hl ?_
    · clear hf hl
      intro q rr hf kc27
      obtain ⟨v7, v8, s9⟩ := q
      have hf : f_X2_findLive_L27 v7 v8 s9 = some rr := hf
      unfold f_X2_findLive_L27 at hf
      refine k_iload_n (pc := 27) h dX2_findLive_27 rfl 1 rfl ?_
      refine k_if_eq (pc := 28) (tgt := 161) h dX2_findLive_28 rfl (fun hc => ?_) (fun hc => ?_)
      · have hf := it_p hc hf
        obtain rfl := so1 hf
        exact k_drop [] rfl kc27
      · have hf := it_n hc hf
        refine k_iload_n (pc := 31) h dX2_findLive_31 rfl 2 rfl ?_
        refine k_sipush (pc := 32) h dX2_findLive_32 kc_sipush_1000 ?_
        refine k_icmp_ge (pc := 35) (tgt := 161) h dX2_findLive_35 rfl (fun hc => ?_) (fun hc => ?_)
        · have hf := it_p hc hf
          obtain rfl := so1 hf
          exact k_drop [] rfl kc27
        · have hf := it_n hc hf
          refine k_iconst (pc := 38) h dX2_findLive_38 kc_iconst_0 ?_
          refine k_istore_n (pc := 39) h dX2_findLive_39 rfl (nk hL (by decide)) (lv' := [(0, .ref 11), (1, .int (0 : Int32)), (2, .int v8)]) rfl ?_
          refine k_aload_n (pc := 40) h dX2_findLive_40 rfl 0 rfl ?_
          refine k_getI (pc := 41) h fl_RX2_33 rfl rfl dX2_findLive_41 ?_
          refine k_iconst (pc := 44) h dX2_findLive_44 kc_iconst_1 ?_
          refine k_isub (pc := 45) h dX2_findLive_45 ?_
          obtain ⟨v11, ev11, hf⟩ := lb_s hf
          refine k_top ev11 ?_
          refine k_istore_n (pc := 46) h dX2_findLive_46 rfl (nk hL (by decide)) (lv' := [(0, .ref 11), (1, .int (0 : Int32)), (2, .int v8), (3, .int v11)]) rfl ?_
          obtain ⟨v15, s16, hl, hf⟩ := ob2_s hf
          refine k_drop (lv' := [(0, .ref 11), (1, .int (0 : Int32)), (2, .int v8), (3, .int v11)]) [0, 1, 2, 3] rfl ?_
          refine lp_s (P := (fun q : Int32 × Int32 × sh_S => sh_K G shCK 47 [(0, .ref 11), (1, .int q.1), (2, .int v8), (3, .int q.2.1)] [] q.2.2)) (Q := (fun q : Int32 × sh_S => sh_K G shCK 155 [(0, .ref 11), (1, .int q.1), (2, .int v8)] [] q.2)) (s := ((0 : Int32), v11, s9)) ?_ hl ?_
          · clear hf hl
            intro q rr hf kc47
            obtain ⟨v12, v13, s14⟩ := q
            have hf : f_X2_findLive_L47 v12 v13 s14 = some rr := hf
            unfold f_X2_findLive_L47 at hf
            refine k_iload_n (pc := 47) h dX2_findLive_47 rfl 3 rfl ?_
            refine k_if_lt (pc := 48) (tgt := 155) h dX2_findLive_48 rfl (fun hc => ?_) (fun hc => ?_)
            · have hf := it_p hc hf
              obtain rfl := so1 hf
              exact k_drop [0, 1, 2] rfl kc47
            · have hf := it_n hc hf
              refine k_aload_n (pc := 51) h dX2_findLive_51 rfl 0 rfl ?_
              refine k_getR (pc := 52) h fl_RX2_9 rfl rfl dX2_findLive_52 ?_
              refine k_iload_n (pc := 55) h dX2_findLive_55 rfl 3 rfl ?_
              obtain ⟨g17, hf⟩ := gu_s hf
              refine k_iald (pc := 56) (n := 24) h rfl g17 dX2_findLive_56 ?_
              refine k_iconst (pc := 57) h dX2_findLive_57 kc_iconst_m1 ?_
              obtain ⟨v18, hj, hf⟩ := ob_s hf
              have kj58 : sh_K G shCK 76 [(0, .ref 11), (1, .int v12), (2, .int v8), (3, .int v13)] [.int v18] s14 := by
                refine k_istore (pc := 76) h dX2_findLive_76 (nk hL (by decide)) (lv' := [(0, .ref 11), (1, .int v12), (2, .int v8), (3, .int v13), (4, .int v18)]) rfl ?_
                refine k_iload (pc := 78) h dX2_findLive_78 4 rfl ?_
                refine k_aload_n (pc := 80) h dX2_findLive_80 rfl 0 rfl ?_
                refine k_getR (pc := 81) h fl_RX2_15 rfl rfl dX2_findLive_81 ?_
                refine k_iload_n (pc := 84) h dX2_findLive_84 rfl 3 rfl ?_
                obtain ⟨g21, hf⟩ := gu_s hf
                refine k_iald (pc := 85) (n := 24) h rfl g21 dX2_findLive_85 ?_
                refine k_iconst (pc := 86) h dX2_findLive_86 kc_iconst_m1 ?_
                obtain ⟨v22, hj, hf⟩ := ob_s hf
                have kj87 : sh_K G shCK 105 [(0, .ref 11), (1, .int v12), (2, .int v8), (3, .int v13)] [.int v22, .int v18] s14 := by
                  refine k_ior (pc := 105) h dX2_findLive_105 ?_
                  obtain ⟨v25, ev25, hf⟩ := lb_s hf
                  refine k_top ev25 ?_
                  refine k_istore (pc := 106) h dX2_findLive_106 (nk hL (by decide)) (lv' := [(0, .ref 11), (1, .int v12), (2, .int v8), (3, .int v13), (4, .int v25)]) rfl ?_
                  refine k_aload_n (pc := 108) h dX2_findLive_108 rfl 0 rfl ?_
                  refine k_getR (pc := 109) h fl_RX2_18 rfl rfl dX2_findLive_109 ?_
                  refine k_iload_n (pc := 112) h dX2_findLive_112 rfl 3 rfl ?_
                  obtain ⟨g26, hf⟩ := gu_s hf
                  refine k_iald (pc := 113) (n := 24) h rfl g26 dX2_findLive_113 ?_
                  refine k_iload (pc := 114) h dX2_findLive_114 4 rfl ?_
                  refine k_aload_n (pc := 116) h dX2_findLive_116 rfl 0 rfl ?_
                  refine k_getR (pc := 117) h fl_RX2_21 rfl rfl dX2_findLive_117 ?_
                  refine k_iload_n (pc := 120) h dX2_findLive_120 rfl 3 rfl ?_
                  obtain ⟨g27, hf⟩ := gu_s hf
                  refine k_iald (pc := 121) (n := 24) h rfl g27 dX2_findLive_121 ?_
                  refine k_iconst (pc := 122) h dX2_findLive_122 kc_iconst_m1 ?_
                  refine k_ixor (pc := 123) h dX2_findLive_123 ?_
                  refine k_iand (pc := 124) h dX2_findLive_124 ?_
                  refine k_ior (pc := 125) h dX2_findLive_125 ?_
                  obtain ⟨v28, ev28, hf⟩ := lb_s hf
                  refine k_top ev28 ?_
                  refine k_istore (pc := 126) h dX2_findLive_126 (nk hL (by decide)) (lv' := [(0, .ref 11), (1, .int v12), (2, .int v8), (3, .int v13), (4, .int v25), (5, .int v28)]) rfl ?_
                  refine k_iload (pc := 128) h dX2_findLive_128 5 rfl ?_
                  refine k_aload_n (pc := 130) h dX2_findLive_130 rfl 0 rfl ?_
                  refine k_getR (pc := 131) h fl_RX2_24 rfl rfl dX2_findLive_131 ?_
                  refine k_iload_n (pc := 134) h dX2_findLive_134 rfl 3 rfl ?_
                  obtain ⟨g29, hf⟩ := gu_s hf
                  refine k_iald (pc := 135) (n := 24) h rfl g29 dX2_findLive_135 ?_
                  obtain ⟨v30, s31, hj, hf⟩ := ob2_s hf
                  have kj136 : sh_K G shCK 149 [(0, .ref 11), (1, .int v30), (2, .int v8), (3, .int v13)] [] s31 := by
                    obtain ⟨v34, ev34, hf⟩ := lb_s hf
                    refine k_iinc (pc := 149) h dX2_findLive_149 3 rfl ((congrArg (_ + ·) kc_iconst_m1).trans ev34.symm) (nk hL (by decide)) (lv' := [(0, .ref 11), (1, .int v30), (2, .int v8), (3, .int v34)]) rfl ?_
                    refine k_goto (pc := 152) (tgt := 47) h dX2_findLive_152 rfl ?_
                    obtain rfl := so1 hf
                    exact k_drop [0, 1, 2, 3] rfl kc47
                  clear hf
                  have hf := hj
                  clear hj
                  refine k_icmp_eq (pc := 136) (tgt := 149) h dX2_findLive_136 rfl (fun hc => ?_) (fun hc => ?_)
                  · have hf := it_p hc hf
                    obtain ⟨rfl, rfl⟩ := so2 hf
                    exact k_drop [0, 1, 2, 3] rfl kj136
                  · have hf := it_n hc hf
                    refine k_aload_n (pc := 139) h dX2_findLive_139 rfl 0 rfl ?_
                    refine k_getR (pc := 140) h fl_RX2_24 rfl rfl dX2_findLive_140 ?_
                    refine k_iload_n (pc := 143) h dX2_findLive_143 rfl 3 rfl ?_
                    refine k_iload (pc := 144) h dX2_findLive_144 5 rfl ?_
                    obtain ⟨g32, hf⟩ := gu_s hf
                    obtain ⟨s33, es33, hf⟩ := lb_s hf
                    refine k_iast (pc := 146) (n := 24) h rfl g32 dX2_findLive_146 ?_
                    refine k_heap es33 ?_
                    refine k_iconst (pc := 147) h dX2_findLive_147 kc_iconst_1 ?_
                    refine k_istore_n (pc := 148) h dX2_findLive_148 rfl (nk hL (by decide)) (lv' := [(0, .ref 11), (1, .int (1 : Int32)), (2, .int v8), (3, .int v13), (4, .int v25), (5, .int v28)]) rfl ?_
                    obtain ⟨rfl, rfl⟩ := so2 hf
                    exact k_drop [0, 1, 2, 3] rfl kj136
                clear hf
                have hf := hj
                clear hj
                refine k_icmp_ne (pc := 87) (tgt := 94) h dX2_findLive_87 rfl (fun hc => ?_) (fun hc => ?_)
                · have hf := it_n hc hf
                  refine k_aload_n (pc := 94) h dX2_findLive_94 rfl 0 rfl ?_
                  refine k_getR (pc := 95) h fl_RX2_24 rfl rfl dX2_findLive_95 ?_
                  refine k_aload_n (pc := 98) h dX2_findLive_98 rfl 0 rfl ?_
                  refine k_getR (pc := 99) h fl_RX2_15 rfl rfl dX2_findLive_99 ?_
                  refine k_iload_n (pc := 102) h dX2_findLive_102 rfl 3 rfl ?_
                  obtain ⟨g23, hf⟩ := gu_s hf
                  refine k_iald (pc := 103) (n := 24) h rfl g23 dX2_findLive_103 ?_
                  obtain ⟨g24, hf⟩ := gu_s hf
                  refine k_iald (pc := 104) (n := 24) h rfl g24 dX2_findLive_104 ?_
                  obtain rfl := so1 hf
                  exact k_drop [0, 1, 2, 3] rfl kj87
                · have hf := it_p hc hf
                  refine k_iconst (pc := 90) h dX2_findLive_90 kc_iconst_0 ?_
                  refine k_goto (pc := 91) (tgt := 105) h dX2_findLive_91 rfl ?_
                  obtain rfl := so1 hf
                  exact k_drop [0, 1, 2, 3] rfl kj87
              clear hf
              have hf := hj
              clear hj
              refine k_icmp_ne (pc := 58) (tgt := 65) h dX2_findLive_58 rfl (fun hc => ?_) (fun hc => ?_)
              · have hf := it_n hc hf
                refine k_aload_n (pc := 65) h dX2_findLive_65 rfl 0 rfl ?_
                refine k_getR (pc := 66) h fl_RX2_24 rfl rfl dX2_findLive_66 ?_
                refine k_aload_n (pc := 69) h dX2_findLive_69 rfl 0 rfl ?_
                refine k_getR (pc := 70) h fl_RX2_9 rfl rfl dX2_findLive_70 ?_
                refine k_iload_n (pc := 73) h dX2_findLive_73 rfl 3 rfl ?_
                obtain ⟨g19, hf⟩ := gu_s hf
                refine k_iald (pc := 74) (n := 24) h rfl g19 dX2_findLive_74 ?_
                obtain ⟨g20, hf⟩ := gu_s hf
                refine k_iald (pc := 75) (n := 24) h rfl g20 dX2_findLive_75 ?_
                obtain rfl := so1 hf
                exact k_drop [0, 1, 2, 3] rfl kj58
              · have hf := it_p hc hf
                refine k_iconst (pc := 61) h dX2_findLive_61 kc_iconst_0 ?_
                refine k_goto (pc := 62) (tgt := 76) h dX2_findLive_62 rfl ?_
                obtain rfl := so1 hf
                exact k_drop [0, 1, 2, 3] rfl kj58
          · obtain ⟨v35, ev35, hf⟩ := lb_s hf
            refine k_iinc (pc := 155) h dX2_findLive_155 2 rfl ((congrArg (_ + ·) kc_iconst_1).trans ev35.symm) (nk hL (by decide)) (lv' := [(0, .ref 11), (1, .int v15), (2, .int v35)]) rfl ?_
            refine k_goto (pc := 158) (tgt := 27) h dX2_findLive_158 rfl ?_
            obtain rfl := so1 hf
            exact k_drop [0, 1, 2] rfl kc27
    · obtain rfl := so1 hf
      exact hret 161 _ dX2_findLive_161 trivial
theorem dX2_livePoints_0 : decode cX2_livePoints 0 = .ok (.iconst 0, 1) := by decide +kernel
theorem dX2_livePoints_1 : decode cX2_livePoints 1 = .ok (.istore_n 2, 1) := by decide +kernel
theorem dX2_livePoints_2 : decode cX2_livePoints 2 = .ok (.iconst 0, 1) := by decide +kernel
theorem dX2_livePoints_3 : decode cX2_livePoints 3 = .ok (.istore_n 3, 1) := by decide +kernel
theorem dX2_livePoints_4 : decode cX2_livePoints 4 = .ok (.iload_n 3, 1) := by decide +kernel
theorem dX2_livePoints_5 : decode cX2_livePoints 5 = .ok (.aload_n 0, 1) := by decide +kernel
theorem dX2_livePoints_6 : decode cX2_livePoints 6 = .ok (.getfield 33, 3) := by decide +kernel
theorem dX2_livePoints_9 : decode cX2_livePoints 9 = .ok (.if_icmp .ge 24, 3) := by decide +kernel
theorem dX2_livePoints_12 : decode cX2_livePoints 12 = .ok (.iload_n 2, 1) := by decide +kernel
theorem dX2_livePoints_13 : decode cX2_livePoints 13 = .ok (.aload_n 0, 1) := by decide +kernel
theorem dX2_livePoints_14 : decode cX2_livePoints 14 = .ok (.getfield 24, 3) := by decide +kernel
theorem dX2_livePoints_17 : decode cX2_livePoints 17 = .ok (.iload_n 3, 1) := by decide +kernel
theorem dX2_livePoints_18 : decode cX2_livePoints 18 = .ok (.iaload, 1) := by decide +kernel
theorem dX2_livePoints_19 : decode cX2_livePoints 19 = .ok (.iload_n 1, 1) := by decide +kernel
theorem dX2_livePoints_20 : decode cX2_livePoints 20 = .ok (.ishr, 1) := by decide +kernel
theorem dX2_livePoints_21 : decode cX2_livePoints 21 = .ok (.iconst 1, 1) := by decide +kernel
theorem dX2_livePoints_22 : decode cX2_livePoints 22 = .ok (.iand, 1) := by decide +kernel
theorem dX2_livePoints_23 : decode cX2_livePoints 23 = .ok (.iload_n 3, 1) := by decide +kernel
theorem dX2_livePoints_24 : decode cX2_livePoints 24 = .ok (.ishl, 1) := by decide +kernel
theorem dX2_livePoints_25 : decode cX2_livePoints 25 = .ok (.ior, 1) := by decide +kernel
theorem dX2_livePoints_26 : decode cX2_livePoints 26 = .ok (.istore_n 2, 1) := by decide +kernel
theorem dX2_livePoints_27 : decode cX2_livePoints 27 = .ok (.iinc 3 1, 3) := by decide +kernel
theorem dX2_livePoints_30 : decode cX2_livePoints 30 = .ok (.goto (-26), 3) := by decide +kernel
theorem dX2_livePoints_33 : decode cX2_livePoints 33 = .ok (.iload_n 2, 1) := by decide +kernel
theorem dX2_livePoints_34 : decode cX2_livePoints 34 = .ok (.ireturn, 1) := by decide +kernel
def f_X2_livePoints_L4 (p1 : Int32) (s0 : sh_S) (v1 : Int32) (v2 : Int32) : Option ((Int32 × Int32) ⊕ (Int32)) := (if (s0 11 7) ≤ v2 then some (.inr v1) else gu (inb v2 24) (lb ((v1 ||| ((((s0 16 (ix v2)) >>> (p1 &&& 31)) &&& (1 : Int32)) <<< (v2 &&& 31)))) (fun v5 => lb (v2 + (1 : Int32)) (fun v6 => some (.inl (v5, v6))))))
def f_X2_livePoints (p1 : Int32) (s0 : sh_S) : Option (Int32) := ob (lp (fun q => f_X2_livePoints_L4 p1 s0 q.1 q.2) FU ((0 : Int32), (0 : Int32))) (fun v3 => some v3)
set_option maxRecDepth 100000 in
set_option maxHeartbeats 4000000 in
theorem c_X2_livePoints (p1 : Int32) (s0 : sh_S) (r : Int32) (hf : f_X2_livePoints p1 s0 = some r) : Ctr yX2_livePoints cX2_livePoints 4 (some .int) ({ frames := 0, cells := 0, slots := 0, locals := 0 } : Room) shCK [.ref 11, .int p1] s0 (some (.int r)) s0 := by
  refine Ctr.mk (ri := .ireturn) (by decide) (Nat.le_of_ble_eq_true rfl) (Rt_i r) ?_
  intro G h hL hR hret
  refine k_drop (lv' := [(0, .ref 11), (1, .int p1)]) [0, 1] rfl ?_
  unfold f_X2_livePoints at hf
  refine k_iconst (pc := 0) h dX2_livePoints_0 kc_iconst_0 ?_
  refine k_istore_n (pc := 1) h dX2_livePoints_1 rfl (nk hL (by decide)) (lv' := [(0, .ref 11), (1, .int p1), (2, .int (0 : Int32))]) rfl ?_
  refine k_iconst (pc := 2) h dX2_livePoints_2 kc_iconst_0 ?_
  refine k_istore_n (pc := 3) h dX2_livePoints_3 rfl (nk hL (by decide)) (lv' := [(0, .ref 11), (1, .int p1), (2, .int (0 : Int32)), (3, .int (0 : Int32))]) rfl ?_
  obtain ⟨v3, hl, hf⟩ := ob_s hf
  refine k_drop (lv' := [(0, .ref 11), (1, .int p1), (2, .int (0 : Int32)), (3, .int (0 : Int32))]) [0, 1, 2, 3] rfl ?_
  refine lp_s (P := (fun q : Int32 × Int32 => sh_K G shCK 4 [(0, .ref 11), (1, .int p1), (2, .int q.1), (3, .int q.2)] [] s0)) (Q := (fun q : Int32 => sh_K G shCK 33 [(2, .int q)] [] s0)) (s := ((0 : Int32), (0 : Int32))) ?_ hl ?_
  · clear hf hl
    intro q rr hf kc4
    obtain ⟨v1, v2⟩ := q
    have hf : f_X2_livePoints_L4 p1 s0 v1 v2 = some rr := hf
    unfold f_X2_livePoints_L4 at hf
    refine k_iload_n (pc := 4) h dX2_livePoints_4 rfl 3 rfl ?_
    refine k_aload_n (pc := 5) h dX2_livePoints_5 rfl 0 rfl ?_
    refine k_getI (pc := 6) h fl_RX2_33 rfl rfl dX2_livePoints_6 ?_
    refine k_icmp_ge (pc := 9) (tgt := 33) h dX2_livePoints_9 rfl (fun hc => ?_) (fun hc => ?_)
    · have hf := it_p hc hf
      obtain rfl := so1 hf
      exact k_drop [2] rfl kc4
    · have hf := it_n hc hf
      refine k_iload_n (pc := 12) h dX2_livePoints_12 rfl 2 rfl ?_
      refine k_aload_n (pc := 13) h dX2_livePoints_13 rfl 0 rfl ?_
      refine k_getR (pc := 14) h fl_RX2_24 rfl rfl dX2_livePoints_14 ?_
      refine k_iload_n (pc := 17) h dX2_livePoints_17 rfl 3 rfl ?_
      obtain ⟨g4, hf⟩ := gu_s hf
      refine k_iald (pc := 18) (n := 24) h rfl g4 dX2_livePoints_18 ?_
      refine k_iload_n (pc := 19) h dX2_livePoints_19 rfl 1 rfl ?_
      refine k_ishr (pc := 20) h dX2_livePoints_20 ?_
      refine k_iconst (pc := 21) h dX2_livePoints_21 kc_iconst_1 ?_
      refine k_iand (pc := 22) h dX2_livePoints_22 ?_
      refine k_iload_n (pc := 23) h dX2_livePoints_23 rfl 3 rfl ?_
      refine k_ishl (pc := 24) h dX2_livePoints_24 ?_
      refine k_ior (pc := 25) h dX2_livePoints_25 ?_
      obtain ⟨v5, ev5, hf⟩ := lb_s hf
      refine k_top ev5 ?_
      refine k_istore_n (pc := 26) h dX2_livePoints_26 rfl (nk hL (by decide)) (lv' := [(0, .ref 11), (1, .int p1), (2, .int v5), (3, .int v2)]) rfl ?_
      obtain ⟨v6, ev6, hf⟩ := lb_s hf
      refine k_iinc (pc := 27) h dX2_livePoints_27 3 rfl ((congrArg (_ + ·) kc_iconst_1).trans ev6.symm) (nk hL (by decide)) (lv' := [(0, .ref 11), (1, .int p1), (2, .int v5), (3, .int v6)]) rfl ?_
      refine k_goto (pc := 30) (tgt := 4) h dX2_livePoints_30 rfl ?_
      obtain rfl := so1 hf
      exact k_drop [0, 1, 2, 3] rfl kc4
  · refine k_iload_n (pc := 33) h dX2_livePoints_33 rfl 0 rfl ?_
    obtain rfl := so1 hf
    exact hret 34 _ dX2_livePoints_34 trivial
theorem dX2_findRegions_0 : decode cX2_findRegions 0 = .ok (.iconst 0, 1) := by decide +kernel
theorem dX2_findRegions_1 : decode cX2_findRegions 1 = .ok (.istore_n 2, 1) := by decide +kernel
theorem dX2_findRegions_2 : decode cX2_findRegions 2 = .ok (.iload_n 2, 1) := by decide +kernel
theorem dX2_findRegions_3 : decode cX2_findRegions 3 = .ok (.bipush 8, 2) := by decide +kernel
theorem dX2_findRegions_5 : decode cX2_findRegions 5 = .ok (.if_icmp .ge 25, 3) := by decide +kernel
theorem dX2_findRegions_8 : decode cX2_findRegions 8 = .ok (.aload_n 0, 1) := by decide +kernel
theorem dX2_findRegions_9 : decode cX2_findRegions 9 = .ok (.getfield 30, 3) := by decide +kernel
theorem dX2_findRegions_12 : decode cX2_findRegions 12 = .ok (.iload_n 2, 1) := by decide +kernel
theorem dX2_findRegions_13 : decode cX2_findRegions 13 = .ok (.aload_n 0, 1) := by decide +kernel
theorem dX2_findRegions_14 : decode cX2_findRegions 14 = .ok (.iload_n 2, 1) := by decide +kernel
theorem dX2_findRegions_15 : decode cX2_findRegions 15 = .ok (.invokevirtual 74, 3) := by decide +kernel
theorem dX2_findRegions_18 : decode cX2_findRegions 18 = .ok (.aload_n 0, 1) := by decide +kernel
theorem dX2_findRegions_19 : decode cX2_findRegions 19 = .ok (.getfield 37, 3) := by decide +kernel
theorem dX2_findRegions_22 : decode cX2_findRegions 22 = .ok (.iand, 1) := by decide +kernel
theorem dX2_findRegions_23 : decode cX2_findRegions 23 = .ok (.iastore, 1) := by decide +kernel
theorem dX2_findRegions_24 : decode cX2_findRegions 24 = .ok (.iinc 2 1, 3) := by decide +kernel
theorem dX2_findRegions_27 : decode cX2_findRegions 27 = .ok (.goto (-25), 3) := by decide +kernel
theorem dX2_findRegions_30 : decode cX2_findRegions 30 = .ok (.iconst 1, 1) := by decide +kernel
theorem dX2_findRegions_31 : decode cX2_findRegions 31 = .ok (.istore_n 2, 1) := by decide +kernel
theorem dX2_findRegions_32 : decode cX2_findRegions 32 = .ok (.iconst 0, 1) := by decide +kernel
theorem dX2_findRegions_33 : decode cX2_findRegions 33 = .ok (.istore_n 3, 1) := by decide +kernel
theorem dX2_findRegions_34 : decode cX2_findRegions 34 = .ok (.iload_n 2, 1) := by decide +kernel
theorem dX2_findRegions_35 : decode cX2_findRegions 35 = .ok (.ifCond .eq 108, 3) := by decide +kernel
theorem dX2_findRegions_38 : decode cX2_findRegions 38 = .ok (.iload_n 3, 1) := by decide +kernel
theorem dX2_findRegions_39 : decode cX2_findRegions 39 = .ok (.sipush 1000, 3) := by decide +kernel
theorem dX2_findRegions_42 : decode cX2_findRegions 42 = .ok (.if_icmp .ge 101, 3) := by decide +kernel
theorem dX2_findRegions_45 : decode cX2_findRegions 45 = .ok (.iconst 0, 1) := by decide +kernel
theorem dX2_findRegions_46 : decode cX2_findRegions 46 = .ok (.istore_n 2, 1) := by decide +kernel
theorem dX2_findRegions_47 : decode cX2_findRegions 47 = .ok (.iconst 0, 1) := by decide +kernel
theorem dX2_findRegions_48 : decode cX2_findRegions 48 = .ok (.istore 4, 2) := by decide +kernel
theorem dX2_findRegions_50 : decode cX2_findRegions 50 = .ok (.iload 4, 2) := by decide +kernel
theorem dX2_findRegions_52 : decode cX2_findRegions 52 = .ok (.aload_n 0, 1) := by decide +kernel
theorem dX2_findRegions_53 : decode cX2_findRegions 53 = .ok (.getfield 33, 3) := by decide +kernel
theorem dX2_findRegions_56 : decode cX2_findRegions 56 = .ok (.if_icmp .ge 81, 3) := by decide +kernel
theorem dX2_findRegions_59 : decode cX2_findRegions 59 = .ok (.aload_n 0, 1) := by decide +kernel
theorem dX2_findRegions_60 : decode cX2_findRegions 60 = .ok (.getfield 27, 3) := by decide +kernel
theorem dX2_findRegions_63 : decode cX2_findRegions 63 = .ok (.iload 4, 2) := by decide +kernel
theorem dX2_findRegions_65 : decode cX2_findRegions 65 = .ok (.iaload, 1) := by decide +kernel
theorem dX2_findRegions_66 : decode cX2_findRegions 66 = .ok (.istore 5, 2) := by decide +kernel
theorem dX2_findRegions_68 : decode cX2_findRegions 68 = .ok (.iload 5, 2) := by decide +kernel
theorem dX2_findRegions_70 : decode cX2_findRegions 70 = .ok (.iconst (-1), 1) := by decide +kernel
theorem dX2_findRegions_71 : decode cX2_findRegions 71 = .ok (.if_icmp .eq 60, 3) := by decide +kernel
theorem dX2_findRegions_74 : decode cX2_findRegions 74 = .ok (.aload_n 0, 1) := by decide +kernel
theorem dX2_findRegions_75 : decode cX2_findRegions 75 = .ok (.getfield 37, 3) := by decide +kernel
theorem dX2_findRegions_78 : decode cX2_findRegions 78 = .ok (.iload 4, 2) := by decide +kernel
theorem dX2_findRegions_80 : decode cX2_findRegions 80 = .ok (.invokestatic 53, 3) := by decide +kernel
theorem dX2_findRegions_83 : decode cX2_findRegions 83 = .ok (.ifCond .eq 48, 3) := by decide +kernel
theorem dX2_findRegions_86 : decode cX2_findRegions 86 = .ok (.aload_n 0, 1) := by decide +kernel
theorem dX2_findRegions_87 : decode cX2_findRegions 87 = .ok (.getfield 30, 3) := by decide +kernel
theorem dX2_findRegions_90 : decode cX2_findRegions 90 = .ok (.iload 5, 2) := by decide +kernel
theorem dX2_findRegions_92 : decode cX2_findRegions 92 = .ok (.iaload, 1) := by decide +kernel
theorem dX2_findRegions_93 : decode cX2_findRegions 93 = .ok (.aload_n 0, 1) := by decide +kernel
theorem dX2_findRegions_94 : decode cX2_findRegions 94 = .ok (.getfield 30, 3) := by decide +kernel
theorem dX2_findRegions_97 : decode cX2_findRegions 97 = .ok (.aload_n 1, 1) := by decide +kernel
theorem dX2_findRegions_98 : decode cX2_findRegions 98 = .ok (.getfield 71, 3) := by decide +kernel
theorem dX2_findRegions_101 : decode cX2_findRegions 101 = .ok (.iload 4, 2) := by decide +kernel
theorem dX2_findRegions_103 : decode cX2_findRegions 103 = .ok (.iaload, 1) := by decide +kernel
theorem dX2_findRegions_104 : decode cX2_findRegions 104 = .ok (.iaload, 1) := by decide +kernel
theorem dX2_findRegions_105 : decode cX2_findRegions 105 = .ok (.ior, 1) := by decide +kernel
theorem dX2_findRegions_106 : decode cX2_findRegions 106 = .ok (.istore 6, 2) := by decide +kernel
theorem dX2_findRegions_108 : decode cX2_findRegions 108 = .ok (.iload 6, 2) := by decide +kernel
theorem dX2_findRegions_110 : decode cX2_findRegions 110 = .ok (.aload_n 0, 1) := by decide +kernel
theorem dX2_findRegions_111 : decode cX2_findRegions 111 = .ok (.getfield 30, 3) := by decide +kernel
theorem dX2_findRegions_114 : decode cX2_findRegions 114 = .ok (.iload 5, 2) := by decide +kernel
theorem dX2_findRegions_116 : decode cX2_findRegions 116 = .ok (.iaload, 1) := by decide +kernel
theorem dX2_findRegions_117 : decode cX2_findRegions 117 = .ok (.if_icmp .eq 14, 3) := by decide +kernel
theorem dX2_findRegions_120 : decode cX2_findRegions 120 = .ok (.aload_n 0, 1) := by decide +kernel
theorem dX2_findRegions_121 : decode cX2_findRegions 121 = .ok (.getfield 30, 3) := by decide +kernel
theorem dX2_findRegions_124 : decode cX2_findRegions 124 = .ok (.iload 5, 2) := by decide +kernel
theorem dX2_findRegions_126 : decode cX2_findRegions 126 = .ok (.iload 6, 2) := by decide +kernel
theorem dX2_findRegions_128 : decode cX2_findRegions 128 = .ok (.iastore, 1) := by decide +kernel
theorem dX2_findRegions_129 : decode cX2_findRegions 129 = .ok (.iconst 1, 1) := by decide +kernel
theorem dX2_findRegions_130 : decode cX2_findRegions 130 = .ok (.istore_n 2, 1) := by decide +kernel
theorem dX2_findRegions_131 : decode cX2_findRegions 131 = .ok (.iinc 4 1, 3) := by decide +kernel
theorem dX2_findRegions_134 : decode cX2_findRegions 134 = .ok (.goto (-84), 3) := by decide +kernel
theorem dX2_findRegions_137 : decode cX2_findRegions 137 = .ok (.iinc 3 1, 3) := by decide +kernel
theorem dX2_findRegions_140 : decode cX2_findRegions 140 = .ok (.goto (-106), 3) := by decide +kernel
theorem dX2_findRegions_143 : decode cX2_findRegions 143 = .ok (.return_, 1) := by decide +kernel
def f_X2_findRegions_L2 (v1 : Int32) (s2 : sh_S) : Option ((Int32 × sh_S) ⊕ (sh_S)) := (if (8 : Int32) ≤ v1 then some (.inr s2) else ob (f_X2_livePoints v1 s2) (fun v4 => gu (inb v1 8) (lb (ur s2 18 (upd (s2 18) (ix v1) (v4 &&& (s2 11 8)))) (fun s6 => lb (v1 + (1 : Int32)) (fun v7 => some (.inl (v7, s6)))))))
def f_X2_findRegions_L50 (v12 : Int32) (v13 : Int32) (s14 : sh_S) : Option ((Int32 × Int32 × sh_S) ⊕ (Int32 × sh_S)) := (if (s14 11 7) ≤ v13 then some (.inr (v12, s14)) else gu (inb v13 24) (lb ((s14 17 (ix v13))) (fun v18 => ob2 (if v18 = (-1 : Int32) then some (v12, s14) else ob (f_X9_hasBit (s14 11 8) v13) (fun v21 => (if v21 = 0 then some (v12, s14) else gu (inb v18 8) (gu (inb v13 24) (gu (inb (s14 2 (ix v13)) 8) (lb (((s14 18 (ix v18)) ||| (s14 18 (ix (s14 2 (ix v13)))))) (fun v25 => gu (inb v18 8) ((if v25 = (s14 18 (ix v18)) then some (v12, s14) else gu (inb v18 8) (lb (ur s14 18 (upd (s14 18) (ix v18) v25)) (fun s28 => some ((1 : Int32), s28)))))))))))) (fun v19 s20 => lb (v13 + (1 : Int32)) (fun v29 => some (.inl (v19, v29, s20)))))))
def f_X2_findRegions_L34 (v8 : Int32) (v9 : Int32) (s10 : sh_S) : Option ((Int32 × Int32 × sh_S) ⊕ (sh_S)) := (if v8 = 0 then some (.inr s10) else (if (1000 : Int32) ≤ v9 then some (.inr s10) else ob2 (lp (fun q => f_X2_findRegions_L50 q.1 q.2.1 q.2.2) FU ((0 : Int32), (0 : Int32), s10)) (fun v15 s16 => lb (v9 + (1 : Int32)) (fun v30 => some (.inl (v15, v30, s16))))))
def f_X2_findRegions  (s0 : sh_S) : Option (sh_S) := ob (lp (fun q => f_X2_findRegions_L2 q.1 q.2) FU ((0 : Int32), s0)) (fun s3 => ob (lp (fun q => f_X2_findRegions_L34 q.1 q.2.1 q.2.2) FU ((1 : Int32), (0 : Int32), s3)) (fun s11 => some s11))
set_option maxRecDepth 100000 in
set_option maxHeartbeats 4000000 in
theorem c_X2_findRegions  (s0 : sh_S) (s9x : sh_S) (hf : f_X2_findRegions  s0 = some s9x) : Ctr yX2_findRegions cX2_findRegions 7 none ({ frames := 1, cells := 0, slots := 0, locals := 23 } : Room) shCK [.ref 11, .ref 0] s0 none s9x := by
  refine Ctr.mk (ri := .return_) (by decide) (Nat.le_of_ble_eq_true rfl) (Rt_v) ?_
  intro G h hL hR hret
  refine k_drop (lv' := [(0, .ref 11), (1, .ref 0)]) [0, 1] rfl ?_
  unfold f_X2_findRegions at hf
  refine k_iconst (pc := 0) h dX2_findRegions_0 kc_iconst_0 ?_
  refine k_istore_n (pc := 1) h dX2_findRegions_1 rfl (nk hL (by decide)) (lv' := [(0, .ref 11), (1, .ref 0), (2, .int (0 : Int32))]) rfl ?_
  obtain ⟨s3, hl, hf⟩ := ob_s hf
  refine k_drop (lv' := [(0, .ref 11), (1, .ref 0), (2, .int (0 : Int32))]) [0, 1, 2] rfl ?_
  refine lp_s (P := (fun q : Int32 × sh_S => sh_K G shCK 2 [(0, .ref 11), (1, .ref 0), (2, .int q.1)] [] q.2)) (Q := (fun q : sh_S => sh_K G shCK 30 [(0, .ref 11), (1, .ref 0)] [] q)) (s := ((0 : Int32), s0)) ?_ hl ?_
  · clear hf hl
    intro q rr hf kc2
    obtain ⟨v1, s2⟩ := q
    have hf : f_X2_findRegions_L2 v1 s2 = some rr := hf
    unfold f_X2_findRegions_L2 at hf
    refine k_iload_n (pc := 2) h dX2_findRegions_2 rfl 2 rfl ?_
    refine k_bipush (pc := 3) h dX2_findRegions_3 kc_bipush_8 ?_
    refine k_icmp_ge (pc := 5) (tgt := 30) h dX2_findRegions_5 rfl (fun hc => ?_) (fun hc => ?_)
    · have hf := it_p hc hf
      obtain rfl := so1 hf
      exact k_drop [0, 1] rfl kc2
    · have hf := it_n hc hf
      refine k_aload_n (pc := 8) h dX2_findRegions_8 rfl 0 rfl ?_
      refine k_getR (pc := 9) h fl_RX2_30 rfl rfl dX2_findRegions_9 ?_
      refine k_iload_n (pc := 12) h dX2_findRegions_12 rfl 2 rfl ?_
      refine k_aload_n (pc := 13) h dX2_findRegions_13 rfl 0 rfl ?_
      refine k_iload_n (pc := 14) h dX2_findRegions_14 rfl 2 rfl ?_
      obtain ⟨v4, cv4, hf⟩ := ob_s hf
      refine k_callV0 (pc := 15) h cv_RX2_74 (c_X2_livePoints v1 s2 v4 cv4) rfl rfl rfl (st1 := [.int v4, .int v1, .ref 18]) rfl ⟨rfl, rfl⟩ (rk hR (Nat.le_of_ble_eq_true rfl) (Nat.le_of_ble_eq_true rfl)) (Nat.le_of_ble_eq_true rfl) dX2_findRegions_15 ?_
      refine k_aload_n (pc := 18) h dX2_findRegions_18 rfl 0 rfl ?_
      refine k_getI (pc := 19) h fl_RX2_37 rfl rfl dX2_findRegions_19 ?_
      refine k_iand (pc := 22) h dX2_findRegions_22 ?_
      obtain ⟨g5, hf⟩ := gu_s hf
      obtain ⟨s6, es6, hf⟩ := lb_s hf
      refine k_iast (pc := 23) (n := 8) h rfl g5 dX2_findRegions_23 ?_
      refine k_heap es6 ?_
      obtain ⟨v7, ev7, hf⟩ := lb_s hf
      refine k_iinc (pc := 24) h dX2_findRegions_24 2 rfl ((congrArg (_ + ·) kc_iconst_1).trans ev7.symm) (nk hL (by decide)) (lv' := [(0, .ref 11), (1, .ref 0), (2, .int v7)]) rfl ?_
      refine k_goto (pc := 27) (tgt := 2) h dX2_findRegions_27 rfl ?_
      obtain rfl := so1 hf
      exact k_drop [0, 1, 2] rfl kc2
  · refine k_iconst (pc := 30) h dX2_findRegions_30 kc_iconst_1 ?_
    refine k_istore_n (pc := 31) h dX2_findRegions_31 rfl (nk hL (by decide)) (lv' := [(0, .ref 11), (1, .ref 0), (2, .int (1 : Int32))]) rfl ?_
    refine k_iconst (pc := 32) h dX2_findRegions_32 kc_iconst_0 ?_
    refine k_istore_n (pc := 33) h dX2_findRegions_33 rfl (nk hL (by decide)) (lv' := [(0, .ref 11), (1, .ref 0), (2, .int (1 : Int32)), (3, .int (0 : Int32))]) rfl ?_
    obtain ⟨s11, hl, hf⟩ := ob_s hf
    refine k_drop (lv' := [(0, .ref 11), (1, .ref 0), (2, .int (1 : Int32)), (3, .int (0 : Int32))]) [0, 1, 2, 3] rfl ?_
    refine lp_s (P := (fun q : Int32 × Int32 × sh_S => sh_K G shCK 34 [(0, .ref 11), (1, .ref 0), (2, .int q.1), (3, .int q.2.1)] [] q.2.2)) (Q := (fun q : sh_S => sh_K G shCK 143 [] [] q)) (s := ((1 : Int32), (0 : Int32), s3)) ?_ hl ?_
    · clear hf hl
      intro q rr hf kc34
      obtain ⟨v8, v9, s10⟩ := q
      have hf : f_X2_findRegions_L34 v8 v9 s10 = some rr := hf
      unfold f_X2_findRegions_L34 at hf
      refine k_iload_n (pc := 34) h dX2_findRegions_34 rfl 2 rfl ?_
      refine k_if_eq (pc := 35) (tgt := 143) h dX2_findRegions_35 rfl (fun hc => ?_) (fun hc => ?_)
      · have hf := it_p hc hf
        obtain rfl := so1 hf
        exact k_drop [] rfl kc34
      · have hf := it_n hc hf
        refine k_iload_n (pc := 38) h dX2_findRegions_38 rfl 3 rfl ?_
        refine k_sipush (pc := 39) h dX2_findRegions_39 kc_sipush_1000 ?_
        refine k_icmp_ge (pc := 42) (tgt := 143) h dX2_findRegions_42 rfl (fun hc => ?_) (fun hc => ?_)
        · have hf := it_p hc hf
          obtain rfl := so1 hf
          exact k_drop [] rfl kc34
        · have hf := it_n hc hf
          refine k_iconst (pc := 45) h dX2_findRegions_45 kc_iconst_0 ?_
          refine k_istore_n (pc := 46) h dX2_findRegions_46 rfl (nk hL (by decide)) (lv' := [(0, .ref 11), (1, .ref 0), (2, .int (0 : Int32)), (3, .int v9)]) rfl ?_
          refine k_iconst (pc := 47) h dX2_findRegions_47 kc_iconst_0 ?_
          refine k_istore (pc := 48) h dX2_findRegions_48 (nk hL (by decide)) (lv' := [(0, .ref 11), (1, .ref 0), (2, .int (0 : Int32)), (3, .int v9), (4, .int (0 : Int32))]) rfl ?_
          obtain ⟨v15, s16, hl, hf⟩ := ob2_s hf
          refine k_drop (lv' := [(0, .ref 11), (1, .ref 0), (2, .int (0 : Int32)), (3, .int v9), (4, .int (0 : Int32))]) [0, 1, 2, 3, 4] rfl ?_
          refine lp_s (P := (fun q : Int32 × Int32 × sh_S => sh_K G shCK 50 [(0, .ref 11), (1, .ref 0), (2, .int q.1), (3, .int v9), (4, .int q.2.1)] [] q.2.2)) (Q := (fun q : Int32 × sh_S => sh_K G shCK 137 [(0, .ref 11), (1, .ref 0), (2, .int q.1), (3, .int v9)] [] q.2)) (s := ((0 : Int32), (0 : Int32), s10)) ?_ hl ?_
          · clear hf hl
            intro q rr hf kc50
            obtain ⟨v12, v13, s14⟩ := q
            have hf : f_X2_findRegions_L50 v12 v13 s14 = some rr := hf
            unfold f_X2_findRegions_L50 at hf
            refine k_iload (pc := 50) h dX2_findRegions_50 4 rfl ?_
            refine k_aload_n (pc := 52) h dX2_findRegions_52 rfl 0 rfl ?_
            refine k_getI (pc := 53) h fl_RX2_33 rfl rfl dX2_findRegions_53 ?_
            refine k_icmp_ge (pc := 56) (tgt := 137) h dX2_findRegions_56 rfl (fun hc => ?_) (fun hc => ?_)
            · have hf := it_p hc hf
              obtain rfl := so1 hf
              exact k_drop [0, 1, 2, 3] rfl kc50
            · have hf := it_n hc hf
              refine k_aload_n (pc := 59) h dX2_findRegions_59 rfl 0 rfl ?_
              refine k_getR (pc := 60) h fl_RX2_27 rfl rfl dX2_findRegions_60 ?_
              refine k_iload (pc := 63) h dX2_findRegions_63 4 rfl ?_
              obtain ⟨g17, hf⟩ := gu_s hf
              refine k_iald (pc := 65) (n := 24) h rfl g17 dX2_findRegions_65 ?_
              obtain ⟨v18, ev18, hf⟩ := lb_s hf
              refine k_top ev18 ?_
              refine k_istore (pc := 66) h dX2_findRegions_66 (nk hL (by decide)) (lv' := [(0, .ref 11), (1, .ref 0), (2, .int v12), (3, .int v9), (4, .int v13), (5, .int v18)]) rfl ?_
              refine k_iload (pc := 68) h dX2_findRegions_68 5 rfl ?_
              refine k_iconst (pc := 70) h dX2_findRegions_70 kc_iconst_m1 ?_
              obtain ⟨v19, s20, hj, hf⟩ := ob2_s hf
              have kj71 : sh_K G shCK 131 [(0, .ref 11), (1, .ref 0), (2, .int v19), (3, .int v9), (4, .int v13)] [] s20 := by
                obtain ⟨v29, ev29, hf⟩ := lb_s hf
                refine k_iinc (pc := 131) h dX2_findRegions_131 4 rfl ((congrArg (_ + ·) kc_iconst_1).trans ev29.symm) (nk hL (by decide)) (lv' := [(0, .ref 11), (1, .ref 0), (2, .int v19), (3, .int v9), (4, .int v29)]) rfl ?_
                refine k_goto (pc := 134) (tgt := 50) h dX2_findRegions_134 rfl ?_
                obtain rfl := so1 hf
                exact k_drop [0, 1, 2, 3, 4] rfl kc50
              clear hf
              have hf := hj
              clear hj
              refine k_icmp_eq (pc := 71) (tgt := 131) h dX2_findRegions_71 rfl (fun hc => ?_) (fun hc => ?_)
              · have hf := it_p hc hf
                obtain ⟨rfl, rfl⟩ := so2 hf
                exact k_drop [0, 1, 2, 3, 4] rfl kj71
              · have hf := it_n hc hf
                refine k_aload_n (pc := 74) h dX2_findRegions_74 rfl 0 rfl ?_
                refine k_getI (pc := 75) h fl_RX2_37 rfl rfl dX2_findRegions_75 ?_
                refine k_iload (pc := 78) h dX2_findRegions_78 4 rfl ?_
                obtain ⟨v21, cv21, hf⟩ := ob_s hf
                refine k_callNp (pc := 80) h cn_RX2_53 (c_X9_hasBit (s14 11 8) v13 _ v21 cv21) rfl rfl (st1 := [.int v21]) rfl ⟨rfl, rfl⟩ (rk hR (Nat.le_of_ble_eq_true rfl) (Nat.le_of_ble_eq_true rfl)) (Nat.le_of_ble_eq_true rfl) dX2_findRegions_80 ?_
                refine k_if_eq (pc := 83) (tgt := 131) h dX2_findRegions_83 rfl (fun hc => ?_) (fun hc => ?_)
                · have hf := it_p hc hf
                  obtain ⟨rfl, rfl⟩ := so2 hf
                  exact k_drop [0, 1, 2, 3, 4] rfl kj71
                · have hf := it_n hc hf
                  refine k_aload_n (pc := 86) h dX2_findRegions_86 rfl 0 rfl ?_
                  refine k_getR (pc := 87) h fl_RX2_30 rfl rfl dX2_findRegions_87 ?_
                  refine k_iload (pc := 90) h dX2_findRegions_90 5 rfl ?_
                  obtain ⟨g22, hf⟩ := gu_s hf
                  refine k_iald (pc := 92) (n := 8) h rfl g22 dX2_findRegions_92 ?_
                  refine k_aload_n (pc := 93) h dX2_findRegions_93 rfl 0 rfl ?_
                  refine k_getR (pc := 94) h fl_RX2_30 rfl rfl dX2_findRegions_94 ?_
                  refine k_aload_n (pc := 97) h dX2_findRegions_97 rfl 1 rfl ?_
                  refine k_getR (pc := 98) h fl_RX2_71 rfl rfl dX2_findRegions_98 ?_
                  refine k_iload (pc := 101) h dX2_findRegions_101 4 rfl ?_
                  obtain ⟨g23, hf⟩ := gu_s hf
                  refine k_iald (pc := 103) (n := 24) h rfl g23 dX2_findRegions_103 ?_
                  obtain ⟨g24, hf⟩ := gu_s hf
                  refine k_iald (pc := 104) (n := 8) h rfl g24 dX2_findRegions_104 ?_
                  refine k_ior (pc := 105) h dX2_findRegions_105 ?_
                  obtain ⟨v25, ev25, hf⟩ := lb_s hf
                  refine k_top ev25 ?_
                  refine k_istore (pc := 106) h dX2_findRegions_106 (nk hL (by decide)) (lv' := [(0, .ref 11), (1, .ref 0), (2, .int v12), (3, .int v9), (4, .int v13), (5, .int v18), (6, .int v25)]) rfl ?_
                  refine k_iload (pc := 108) h dX2_findRegions_108 6 rfl ?_
                  refine k_aload_n (pc := 110) h dX2_findRegions_110 rfl 0 rfl ?_
                  refine k_getR (pc := 111) h fl_RX2_30 rfl rfl dX2_findRegions_111 ?_
                  refine k_iload (pc := 114) h dX2_findRegions_114 5 rfl ?_
                  obtain ⟨g26, hf⟩ := gu_s hf
                  refine k_iald (pc := 116) (n := 8) h rfl g26 dX2_findRegions_116 ?_
                  refine k_icmp_eq (pc := 117) (tgt := 131) h dX2_findRegions_117 rfl (fun hc => ?_) (fun hc => ?_)
                  · have hf := it_p hc hf
                    obtain ⟨rfl, rfl⟩ := so2 hf
                    exact k_drop [0, 1, 2, 3, 4] rfl kj71
                  · have hf := it_n hc hf
                    refine k_aload_n (pc := 120) h dX2_findRegions_120 rfl 0 rfl ?_
                    refine k_getR (pc := 121) h fl_RX2_30 rfl rfl dX2_findRegions_121 ?_
                    refine k_iload (pc := 124) h dX2_findRegions_124 5 rfl ?_
                    refine k_iload (pc := 126) h dX2_findRegions_126 6 rfl ?_
                    obtain ⟨g27, hf⟩ := gu_s hf
                    obtain ⟨s28, es28, hf⟩ := lb_s hf
                    refine k_iast (pc := 128) (n := 8) h rfl g27 dX2_findRegions_128 ?_
                    refine k_heap es28 ?_
                    refine k_iconst (pc := 129) h dX2_findRegions_129 kc_iconst_1 ?_
                    refine k_istore_n (pc := 130) h dX2_findRegions_130 rfl (nk hL (by decide)) (lv' := [(0, .ref 11), (1, .ref 0), (2, .int (1 : Int32)), (3, .int v9), (4, .int v13), (5, .int v18), (6, .int v25)]) rfl ?_
                    obtain ⟨rfl, rfl⟩ := so2 hf
                    exact k_drop [0, 1, 2, 3, 4] rfl kj71
          · obtain ⟨v30, ev30, hf⟩ := lb_s hf
            refine k_iinc (pc := 137) h dX2_findRegions_137 3 rfl ((congrArg (_ + ·) kc_iconst_1).trans ev30.symm) (nk hL (by decide)) (lv' := [(0, .ref 11), (1, .ref 0), (2, .int v15), (3, .int v30)]) rfl ?_
            refine k_goto (pc := 140) (tgt := 34) h dX2_findRegions_140 rfl ?_
            obtain rfl := so1 hf
            exact k_drop [0, 1, 2, 3] rfl kc34
    · obtain rfl := so1 hf
      exact hret 143 _ dX2_findRegions_143 trivial
theorem dX3_sortLoan_0 : decode cX3_sortLoan 0 = .ok (.aload_n 1, 1) := by decide +kernel
theorem dX3_sortLoan_1 : decode cX3_sortLoan 1 = .ok (.getfield 72, 3) := by decide +kernel
theorem dX3_sortLoan_4 : decode cX3_sortLoan 4 = .ok (.iload_n 2, 1) := by decide +kernel
theorem dX3_sortLoan_5 : decode cX3_sortLoan 5 = .ok (.iaload, 1) := by decide +kernel
theorem dX3_sortLoan_6 : decode cX3_sortLoan 6 = .ok (.istore_n 3, 1) := by decide +kernel
theorem dX3_sortLoan_7 : decode cX3_sortLoan 7 = .ok (.iconst 1, 1) := by decide +kernel
theorem dX3_sortLoan_8 : decode cX3_sortLoan 8 = .ok (.iload_n 2, 1) := by decide +kernel
theorem dX3_sortLoan_9 : decode cX3_sortLoan 9 = .ok (.ishl, 1) := by decide +kernel
theorem dX3_sortLoan_10 : decode cX3_sortLoan 10 = .ok (.istore 4, 2) := by decide +kernel
theorem dX3_sortLoan_12 : decode cX3_sortLoan 12 = .ok (.aload_n 0, 1) := by decide +kernel
theorem dX3_sortLoan_13 : decode cX3_sortLoan 13 = .ok (.dup, 1) := by decide +kernel
theorem dX3_sortLoan_14 : decode cX3_sortLoan 14 = .ok (.getfield 9, 3) := by decide +kernel
theorem dX3_sortLoan_17 : decode cX3_sortLoan 17 = .ok (.iload 4, 2) := by decide +kernel
theorem dX3_sortLoan_19 : decode cX3_sortLoan 19 = .ok (.ior, 1) := by decide +kernel
theorem dX3_sortLoan_20 : decode cX3_sortLoan 20 = .ok (.putfield 9, 3) := by decide +kernel
theorem dX3_sortLoan_23 : decode cX3_sortLoan 23 = .ok (.aload_n 0, 1) := by decide +kernel
theorem dX3_sortLoan_24 : decode cX3_sortLoan 24 = .ok (.dup, 1) := by decide +kernel
theorem dX3_sortLoan_25 : decode cX3_sortLoan 25 = .ok (.getfield 15, 3) := by decide +kernel
theorem dX3_sortLoan_28 : decode cX3_sortLoan 28 = .ok (.iload_n 3, 1) := by decide +kernel
theorem dX3_sortLoan_29 : decode cX3_sortLoan 29 = .ok (.iconst 3, 1) := by decide +kernel
theorem dX3_sortLoan_30 : decode cX3_sortLoan 30 = .ok (.if_icmp .ne 8, 3) := by decide +kernel
theorem dX3_sortLoan_33 : decode cX3_sortLoan 33 = .ok (.iload 4, 2) := by decide +kernel
theorem dX3_sortLoan_35 : decode cX3_sortLoan 35 = .ok (.goto 4, 3) := by decide +kernel
theorem dX3_sortLoan_38 : decode cX3_sortLoan 38 = .ok (.iconst 0, 1) := by decide +kernel
theorem dX3_sortLoan_39 : decode cX3_sortLoan 39 = .ok (.ior, 1) := by decide +kernel
theorem dX3_sortLoan_40 : decode cX3_sortLoan 40 = .ok (.putfield 15, 3) := by decide +kernel
theorem dX3_sortLoan_43 : decode cX3_sortLoan 43 = .ok (.aload_n 0, 1) := by decide +kernel
theorem dX3_sortLoan_44 : decode cX3_sortLoan 44 = .ok (.dup, 1) := by decide +kernel
theorem dX3_sortLoan_45 : decode cX3_sortLoan 45 = .ok (.getfield 18, 3) := by decide +kernel
theorem dX3_sortLoan_48 : decode cX3_sortLoan 48 = .ok (.iload_n 3, 1) := by decide +kernel
theorem dX3_sortLoan_49 : decode cX3_sortLoan 49 = .ok (.iconst 4, 1) := by decide +kernel
theorem dX3_sortLoan_50 : decode cX3_sortLoan 50 = .ok (.if_icmp .ne 8, 3) := by decide +kernel
theorem dX3_sortLoan_53 : decode cX3_sortLoan 53 = .ok (.iload 4, 2) := by decide +kernel
theorem dX3_sortLoan_55 : decode cX3_sortLoan 55 = .ok (.goto 4, 3) := by decide +kernel
theorem dX3_sortLoan_58 : decode cX3_sortLoan 58 = .ok (.iconst 0, 1) := by decide +kernel
theorem dX3_sortLoan_59 : decode cX3_sortLoan 59 = .ok (.ior, 1) := by decide +kernel
theorem dX3_sortLoan_60 : decode cX3_sortLoan 60 = .ok (.putfield 18, 3) := by decide +kernel
theorem dX3_sortLoan_63 : decode cX3_sortLoan 63 = .ok (.aload_n 0, 1) := by decide +kernel
theorem dX3_sortLoan_64 : decode cX3_sortLoan 64 = .ok (.dup, 1) := by decide +kernel
theorem dX3_sortLoan_65 : decode cX3_sortLoan 65 = .ok (.getfield 21, 3) := by decide +kernel
theorem dX3_sortLoan_68 : decode cX3_sortLoan 68 = .ok (.iload_n 3, 1) := by decide +kernel
theorem dX3_sortLoan_69 : decode cX3_sortLoan 69 = .ok (.iconst 5, 1) := by decide +kernel
theorem dX3_sortLoan_70 : decode cX3_sortLoan 70 = .ok (.if_icmp .ne 8, 3) := by decide +kernel
theorem dX3_sortLoan_73 : decode cX3_sortLoan 73 = .ok (.iload 4, 2) := by decide +kernel
theorem dX3_sortLoan_75 : decode cX3_sortLoan 75 = .ok (.goto 4, 3) := by decide +kernel
theorem dX3_sortLoan_78 : decode cX3_sortLoan 78 = .ok (.iconst 0, 1) := by decide +kernel
theorem dX3_sortLoan_79 : decode cX3_sortLoan 79 = .ok (.ior, 1) := by decide +kernel
theorem dX3_sortLoan_80 : decode cX3_sortLoan 80 = .ok (.putfield 21, 3) := by decide +kernel
theorem dX3_sortLoan_83 : decode cX3_sortLoan 83 = .ok (.aload_n 1, 1) := by decide +kernel
theorem dX3_sortLoan_84 : decode cX3_sortLoan 84 = .ok (.getfield 75, 3) := by decide +kernel
theorem dX3_sortLoan_87 : decode cX3_sortLoan 87 = .ok (.iload_n 2, 1) := by decide +kernel
theorem dX3_sortLoan_88 : decode cX3_sortLoan 88 = .ok (.baload, 1) := by decide +kernel
theorem dX3_sortLoan_89 : decode cX3_sortLoan 89 = .ok (.istore 5, 2) := by decide +kernel
theorem dX3_sortLoan_91 : decode cX3_sortLoan 91 = .ok (.aload_n 1, 1) := by decide +kernel
theorem dX3_sortLoan_92 : decode cX3_sortLoan 92 = .ok (.getfield 78, 3) := by decide +kernel
theorem dX3_sortLoan_95 : decode cX3_sortLoan 95 = .ok (.iload_n 2, 1) := by decide +kernel
theorem dX3_sortLoan_96 : decode cX3_sortLoan 96 = .ok (.iaload, 1) := by decide +kernel
theorem dX3_sortLoan_97 : decode cX3_sortLoan 97 = .ok (.istore 6, 2) := by decide +kernel
theorem dX3_sortLoan_99 : decode cX3_sortLoan 99 = .ok (.aload_n 1, 1) := by decide +kernel
theorem dX3_sortLoan_100 : decode cX3_sortLoan 100 = .ok (.getfield 81, 3) := by decide +kernel
theorem dX3_sortLoan_103 : decode cX3_sortLoan 103 = .ok (.iload_n 2, 1) := by decide +kernel
theorem dX3_sortLoan_104 : decode cX3_sortLoan 104 = .ok (.iaload, 1) := by decide +kernel
theorem dX3_sortLoan_105 : decode cX3_sortLoan 105 = .ok (.istore 7, 2) := by decide +kernel
theorem dX3_sortLoan_107 : decode cX3_sortLoan 107 = .ok (.iload 5, 2) := by decide +kernel
theorem dX3_sortLoan_109 : decode cX3_sortLoan 109 = .ok (.ifCond .eq 15, 3) := by decide +kernel
theorem dX3_sortLoan_112 : decode cX3_sortLoan 112 = .ok (.aload_n 0, 1) := by decide +kernel
theorem dX3_sortLoan_113 : decode cX3_sortLoan 113 = .ok (.getfield 49, 3) := by decide +kernel
theorem dX3_sortLoan_116 : decode cX3_sortLoan 116 = .ok (.iload 6, 2) := by decide +kernel
theorem dX3_sortLoan_118 : decode cX3_sortLoan 118 = .ok (.dup2, 1) := by decide +kernel
theorem dX3_sortLoan_119 : decode cX3_sortLoan 119 = .ok (.iaload, 1) := by decide +kernel
theorem dX3_sortLoan_120 : decode cX3_sortLoan 120 = .ok (.iload 4, 2) := by decide +kernel
theorem dX3_sortLoan_122 : decode cX3_sortLoan 122 = .ok (.ior, 1) := by decide +kernel
theorem dX3_sortLoan_123 : decode cX3_sortLoan 123 = .ok (.iastore, 1) := by decide +kernel
theorem dX3_sortLoan_124 : decode cX3_sortLoan 124 = .ok (.iload 5, 2) := by decide +kernel
theorem dX3_sortLoan_126 : decode cX3_sortLoan 126 = .ok (.ifCond .eq 10, 3) := by decide +kernel
theorem dX3_sortLoan_129 : decode cX3_sortLoan 129 = .ok (.iload 6, 2) := by decide +kernel
theorem dX3_sortLoan_131 : decode cX3_sortLoan 131 = .ok (.iload 7, 2) := by decide +kernel
theorem dX3_sortLoan_133 : decode cX3_sortLoan 133 = .ok (.if_icmp .eq 15, 3) := by decide +kernel
theorem dX3_sortLoan_136 : decode cX3_sortLoan 136 = .ok (.aload_n 0, 1) := by decide +kernel
theorem dX3_sortLoan_137 : decode cX3_sortLoan 137 = .ok (.getfield 52, 3) := by decide +kernel
theorem dX3_sortLoan_140 : decode cX3_sortLoan 140 = .ok (.iload 7, 2) := by decide +kernel
theorem dX3_sortLoan_142 : decode cX3_sortLoan 142 = .ok (.dup2, 1) := by decide +kernel
theorem dX3_sortLoan_143 : decode cX3_sortLoan 143 = .ok (.iaload, 1) := by decide +kernel
theorem dX3_sortLoan_144 : decode cX3_sortLoan 144 = .ok (.iload 4, 2) := by decide +kernel
theorem dX3_sortLoan_146 : decode cX3_sortLoan 146 = .ok (.ior, 1) := by decide +kernel
theorem dX3_sortLoan_147 : decode cX3_sortLoan 147 = .ok (.iastore, 1) := by decide +kernel
theorem dX3_sortLoan_148 : decode cX3_sortLoan 148 = .ok (.return_, 1) := by decide +kernel
def f_X3_sortLoan (p2 : Int32) (s0 : sh_S) : Option (sh_S) := gu (inb p2 24) (lb ((s0 5 (ix p2))) (fun v2 => lb (((1 : Int32) <<< (p2 &&& 31))) (fun v3 => lb (ur s0 19 (upd (s0 19) 0 ((s0 19 0) ||| v3))) (fun s4 => ob (if v2 = (3 : Int32) then some v3 else some (0 : Int32)) (fun v5 => lb (ur s4 19 (upd (s4 19) 1 ((s4 19 1) ||| v5))) (fun s6 => ob (if v2 = (4 : Int32) then some v3 else some (0 : Int32)) (fun v7 => lb (ur s6 19 (upd (s6 19) 2 ((s6 19 2) ||| v7))) (fun s8 => ob (if v2 = (5 : Int32) then some v3 else some (0 : Int32)) (fun v9 => lb (ur s8 19 (upd (s8 19) 3 ((s8 19 3) ||| v9))) (fun s10 => gu (inb p2 24) (lb ((s10 9 (ix p2))) (fun v12 => gu (inb p2 24) (lb ((s10 6 (ix p2))) (fun v14 => gu (inb p2 24) (lb ((s10 2 (ix p2))) (fun v16 => ob (if v12 = 0 then some s10 else gu (inb v14 8) (gu (inb v14 8) (lb (ur s10 27 (upd (s10 27) (ix v14) ((s10 27 (ix v14)) ||| v3))) (fun s20 => some s20)))) (fun s17 => ob (if v12 = 0 then gu (inb v16 8) (gu (inb v16 8) (lb (ur s17 28 (upd (s17 28) (ix v16) ((s17 28 (ix v16)) ||| v3))) (fun s24 => some s24))) else (if v14 = v16 then some s17 else gu (inb v16 8) (gu (inb v16 8) (lb (ur s17 28 (upd (s17 28) (ix v16) ((s17 28 (ix v16)) ||| v3))) (fun s27 => some s27))))) (fun s21 => some s21))))))))))))))))))
set_option maxRecDepth 100000 in
set_option maxHeartbeats 4000000 in
theorem c_X3_sortLoan (p2 : Int32) (s0 : sh_S) (s9x : sh_S) (hf : f_X3_sortLoan p2 s0 = some s9x) : Ctr yX3_sortLoan cX3_sortLoan 8 none ({ frames := 0, cells := 0, slots := 0, locals := 0 } : Room) shCK [.ref 19, .ref 0, .int p2] s0 none s9x := by
  refine Ctr.mk (ri := .return_) (by decide) (Nat.le_of_ble_eq_true rfl) (Rt_v) ?_
  intro G h hL hR hret
  refine k_drop (lv' := [(0, .ref 19), (1, .ref 0), (2, .int p2)]) [0, 1, 2] rfl ?_
  unfold f_X3_sortLoan at hf
  refine k_aload_n (pc := 0) h dX3_sortLoan_0 rfl 1 rfl ?_
  refine k_getR (pc := 1) h fl_RX3_72 rfl rfl dX3_sortLoan_1 ?_
  refine k_iload_n (pc := 4) h dX3_sortLoan_4 rfl 2 rfl ?_
  obtain ⟨g1, hf⟩ := gu_s hf
  refine k_iald (pc := 5) (n := 24) h rfl g1 dX3_sortLoan_5 ?_
  obtain ⟨v2, ev2, hf⟩ := lb_s hf
  refine k_top ev2 ?_
  refine k_istore_n (pc := 6) h dX3_sortLoan_6 rfl (nk hL (by decide)) (lv' := [(0, .ref 19), (1, .ref 0), (2, .int p2), (3, .int v2)]) rfl ?_
  refine k_iconst (pc := 7) h dX3_sortLoan_7 kc_iconst_1 ?_
  refine k_iload_n (pc := 8) h dX3_sortLoan_8 rfl 2 rfl ?_
  refine k_ishl (pc := 9) h dX3_sortLoan_9 ?_
  obtain ⟨v3, ev3, hf⟩ := lb_s hf
  refine k_top ev3 ?_
  refine k_istore (pc := 10) h dX3_sortLoan_10 (nk hL (by decide)) (lv' := [(0, .ref 19), (1, .ref 0), (2, .int p2), (3, .int v2), (4, .int v3)]) rfl ?_
  refine k_aload_n (pc := 12) h dX3_sortLoan_12 rfl 0 rfl ?_
  refine k_dup (pc := 13) h dX3_sortLoan_13 rfl ?_
  refine k_getI (pc := 14) h fl_RX3_9 rfl rfl dX3_sortLoan_14 ?_
  refine k_iload (pc := 17) h dX3_sortLoan_17 4 rfl ?_
  refine k_ior (pc := 19) h dX3_sortLoan_19 ?_
  obtain ⟨s4, es4, hf⟩ := lb_s hf
  refine k_put (pc := 20) h fl_RX3_9 fp_X3_0 rfl rfl rfl rfl dX3_sortLoan_20 ?_
  refine k_heap es4 ?_
  refine k_aload_n (pc := 23) h dX3_sortLoan_23 rfl 0 rfl ?_
  refine k_dup (pc := 24) h dX3_sortLoan_24 rfl ?_
  refine k_getI (pc := 25) h fl_RX3_15 rfl rfl dX3_sortLoan_25 ?_
  refine k_iload_n (pc := 28) h dX3_sortLoan_28 rfl 3 rfl ?_
  refine k_iconst (pc := 29) h dX3_sortLoan_29 kc_iconst_3 ?_
  obtain ⟨v5, hj, hf⟩ := ob_s hf
  have kj30 : sh_K G shCK 39 [(0, .ref 19), (1, .ref 0), (2, .int p2), (3, .int v2), (4, .int v3)] [.int v5, .int (s4 19 1), .ref 19] s4 := by
    refine k_ior (pc := 39) h dX3_sortLoan_39 ?_
    obtain ⟨s6, es6, hf⟩ := lb_s hf
    refine k_put (pc := 40) h fl_RX3_15 fp_X3_1 rfl rfl rfl rfl dX3_sortLoan_40 ?_
    refine k_heap es6 ?_
    refine k_aload_n (pc := 43) h dX3_sortLoan_43 rfl 0 rfl ?_
    refine k_dup (pc := 44) h dX3_sortLoan_44 rfl ?_
    refine k_getI (pc := 45) h fl_RX3_18 rfl rfl dX3_sortLoan_45 ?_
    refine k_iload_n (pc := 48) h dX3_sortLoan_48 rfl 3 rfl ?_
    refine k_iconst (pc := 49) h dX3_sortLoan_49 kc_iconst_4 ?_
    obtain ⟨v7, hj, hf⟩ := ob_s hf
    have kj50 : sh_K G shCK 59 [(0, .ref 19), (1, .ref 0), (2, .int p2), (3, .int v2), (4, .int v3)] [.int v7, .int (s6 19 2), .ref 19] s6 := by
      refine k_ior (pc := 59) h dX3_sortLoan_59 ?_
      obtain ⟨s8, es8, hf⟩ := lb_s hf
      refine k_put (pc := 60) h fl_RX3_18 fp_X3_2 rfl rfl rfl rfl dX3_sortLoan_60 ?_
      refine k_heap es8 ?_
      refine k_aload_n (pc := 63) h dX3_sortLoan_63 rfl 0 rfl ?_
      refine k_dup (pc := 64) h dX3_sortLoan_64 rfl ?_
      refine k_getI (pc := 65) h fl_RX3_21 rfl rfl dX3_sortLoan_65 ?_
      refine k_iload_n (pc := 68) h dX3_sortLoan_68 rfl 3 rfl ?_
      refine k_iconst (pc := 69) h dX3_sortLoan_69 kc_iconst_5 ?_
      obtain ⟨v9, hj, hf⟩ := ob_s hf
      have kj70 : sh_K G shCK 79 [(0, .ref 19), (1, .ref 0), (2, .int p2), (4, .int v3)] [.int v9, .int (s8 19 3), .ref 19] s8 := by
        refine k_ior (pc := 79) h dX3_sortLoan_79 ?_
        obtain ⟨s10, es10, hf⟩ := lb_s hf
        refine k_put (pc := 80) h fl_RX3_21 fp_X3_3 rfl rfl rfl rfl dX3_sortLoan_80 ?_
        refine k_heap es10 ?_
        refine k_aload_n (pc := 83) h dX3_sortLoan_83 rfl 1 rfl ?_
        refine k_getR (pc := 84) h fl_RX3_75 rfl rfl dX3_sortLoan_84 ?_
        refine k_iload_n (pc := 87) h dX3_sortLoan_87 rfl 2 rfl ?_
        obtain ⟨g11, hf⟩ := gu_s hf
        refine k_zald (pc := 88) (n := 24) h rfl g11 dX3_sortLoan_88 ?_
        obtain ⟨v12, ev12, hf⟩ := lb_s hf
        refine k_top ev12 ?_
        refine k_istore (pc := 89) h dX3_sortLoan_89 (nk hL (by decide)) (lv' := [(0, .ref 19), (1, .ref 0), (2, .int p2), (4, .int v3), (5, .int v12)]) rfl ?_
        refine k_aload_n (pc := 91) h dX3_sortLoan_91 rfl 1 rfl ?_
        refine k_getR (pc := 92) h fl_RX3_78 rfl rfl dX3_sortLoan_92 ?_
        refine k_iload_n (pc := 95) h dX3_sortLoan_95 rfl 2 rfl ?_
        obtain ⟨g13, hf⟩ := gu_s hf
        refine k_iald (pc := 96) (n := 24) h rfl g13 dX3_sortLoan_96 ?_
        obtain ⟨v14, ev14, hf⟩ := lb_s hf
        refine k_top ev14 ?_
        refine k_istore (pc := 97) h dX3_sortLoan_97 (nk hL (by decide)) (lv' := [(0, .ref 19), (1, .ref 0), (2, .int p2), (4, .int v3), (5, .int v12), (6, .int v14)]) rfl ?_
        refine k_aload_n (pc := 99) h dX3_sortLoan_99 rfl 1 rfl ?_
        refine k_getR (pc := 100) h fl_RX3_81 rfl rfl dX3_sortLoan_100 ?_
        refine k_iload_n (pc := 103) h dX3_sortLoan_103 rfl 2 rfl ?_
        obtain ⟨g15, hf⟩ := gu_s hf
        refine k_iald (pc := 104) (n := 24) h rfl g15 dX3_sortLoan_104 ?_
        obtain ⟨v16, ev16, hf⟩ := lb_s hf
        refine k_top ev16 ?_
        refine k_istore (pc := 105) h dX3_sortLoan_105 (nk hL (by decide)) (lv' := [(0, .ref 19), (1, .ref 0), (2, .int p2), (4, .int v3), (5, .int v12), (6, .int v14), (7, .int v16)]) rfl ?_
        refine k_iload (pc := 107) h dX3_sortLoan_107 4 rfl ?_
        obtain ⟨s17, hj, hf⟩ := ob_s hf
        have kj109 : sh_K G shCK 124 [(0, .ref 19), (4, .int v3), (5, .int v12), (6, .int v14), (7, .int v16)] [] s17 := by
          refine k_iload (pc := 124) h dX3_sortLoan_124 2 rfl ?_
          obtain ⟨s21, hj, hf⟩ := ob_s hf
          have kj126 : sh_K G shCK 148 [] [] s21 := by
            obtain rfl := so1 hf
            exact hret 148 _ dX3_sortLoan_148 trivial
          clear hf
          have hf := hj
          clear hj
          refine k_if_eq (pc := 126) (tgt := 136) h dX3_sortLoan_126 rfl (fun hc => ?_) (fun hc => ?_)
          · have hf := it_p hc hf
            refine k_aload_n (pc := 136) h dX3_sortLoan_136 rfl 0 rfl ?_
            refine k_getR (pc := 137) h fl_RX3_52 rfl rfl dX3_sortLoan_137 ?_
            refine k_iload (pc := 140) h dX3_sortLoan_140 4 rfl ?_
            refine k_dup2 (pc := 142) h dX3_sortLoan_142 rfl rfl ?_
            obtain ⟨g22, hf⟩ := gu_s hf
            refine k_iald (pc := 143) (n := 8) h rfl g22 dX3_sortLoan_143 ?_
            refine k_iload (pc := 144) h dX3_sortLoan_144 1 rfl ?_
            refine k_ior (pc := 146) h dX3_sortLoan_146 ?_
            obtain ⟨g23, hf⟩ := gu_s hf
            obtain ⟨s24, es24, hf⟩ := lb_s hf
            refine k_iast (pc := 147) (n := 8) h rfl g23 dX3_sortLoan_147 ?_
            refine k_heap es24 ?_
            obtain rfl := so1 hf
            exact k_drop [] rfl kj126
          · have hf := it_n hc hf
            refine k_iload (pc := 129) h dX3_sortLoan_129 3 rfl ?_
            refine k_iload (pc := 131) h dX3_sortLoan_131 4 rfl ?_
            refine k_icmp_eq (pc := 133) (tgt := 148) h dX3_sortLoan_133 rfl (fun hc => ?_) (fun hc => ?_)
            · have hf := it_p hc hf
              obtain rfl := so1 hf
              exact k_drop [] rfl kj126
            · have hf := it_n hc hf
              refine k_aload_n (pc := 136) h dX3_sortLoan_136 rfl 0 rfl ?_
              refine k_getR (pc := 137) h fl_RX3_52 rfl rfl dX3_sortLoan_137 ?_
              refine k_iload (pc := 140) h dX3_sortLoan_140 4 rfl ?_
              refine k_dup2 (pc := 142) h dX3_sortLoan_142 rfl rfl ?_
              obtain ⟨g25, hf⟩ := gu_s hf
              refine k_iald (pc := 143) (n := 8) h rfl g25 dX3_sortLoan_143 ?_
              refine k_iload (pc := 144) h dX3_sortLoan_144 1 rfl ?_
              refine k_ior (pc := 146) h dX3_sortLoan_146 ?_
              obtain ⟨g26, hf⟩ := gu_s hf
              obtain ⟨s27, es27, hf⟩ := lb_s hf
              refine k_iast (pc := 147) (n := 8) h rfl g26 dX3_sortLoan_147 ?_
              refine k_heap es27 ?_
              obtain rfl := so1 hf
              exact k_drop [] rfl kj126
        clear hf
        have hf := hj
        clear hj
        refine k_if_eq (pc := 109) (tgt := 124) h dX3_sortLoan_109 rfl (fun hc => ?_) (fun hc => ?_)
        · have hf := it_p hc hf
          obtain rfl := so1 hf
          exact k_drop [0, 3, 4, 5, 6] rfl kj109
        · have hf := it_n hc hf
          refine k_aload_n (pc := 112) h dX3_sortLoan_112 rfl 0 rfl ?_
          refine k_getR (pc := 113) h fl_RX3_49 rfl rfl dX3_sortLoan_113 ?_
          refine k_iload (pc := 116) h dX3_sortLoan_116 5 rfl ?_
          refine k_dup2 (pc := 118) h dX3_sortLoan_118 rfl rfl ?_
          obtain ⟨g18, hf⟩ := gu_s hf
          refine k_iald (pc := 119) (n := 8) h rfl g18 dX3_sortLoan_119 ?_
          refine k_iload (pc := 120) h dX3_sortLoan_120 3 rfl ?_
          refine k_ior (pc := 122) h dX3_sortLoan_122 ?_
          obtain ⟨g19, hf⟩ := gu_s hf
          obtain ⟨s20, es20, hf⟩ := lb_s hf
          refine k_iast (pc := 123) (n := 8) h rfl g19 dX3_sortLoan_123 ?_
          refine k_heap es20 ?_
          obtain rfl := so1 hf
          exact k_drop [0, 3, 4, 5, 6] rfl kj109
      clear hf
      have hf := hj
      clear hj
      refine k_icmp_ne (pc := 70) (tgt := 78) h dX3_sortLoan_70 rfl (fun hc => ?_) (fun hc => ?_)
      · have hf := it_n hc hf
        refine k_iconst (pc := 78) h dX3_sortLoan_78 kc_iconst_0 ?_
        obtain rfl := so1 hf
        exact k_drop [0, 1, 2, 4] rfl kj70
      · have hf := it_p hc hf
        refine k_iload (pc := 73) h dX3_sortLoan_73 4 rfl ?_
        refine k_goto (pc := 75) (tgt := 79) h dX3_sortLoan_75 rfl ?_
        obtain rfl := so1 hf
        exact k_drop [0, 1, 2, 4] rfl kj70
    clear hf
    have hf := hj
    clear hj
    refine k_icmp_ne (pc := 50) (tgt := 58) h dX3_sortLoan_50 rfl (fun hc => ?_) (fun hc => ?_)
    · have hf := it_n hc hf
      refine k_iconst (pc := 58) h dX3_sortLoan_58 kc_iconst_0 ?_
      obtain rfl := so1 hf
      exact k_drop [0, 1, 2, 3, 4] rfl kj50
    · have hf := it_p hc hf
      refine k_iload (pc := 53) h dX3_sortLoan_53 4 rfl ?_
      refine k_goto (pc := 55) (tgt := 59) h dX3_sortLoan_55 rfl ?_
      obtain rfl := so1 hf
      exact k_drop [0, 1, 2, 3, 4] rfl kj50
  clear hf
  have hf := hj
  clear hj
  refine k_icmp_ne (pc := 30) (tgt := 38) h dX3_sortLoan_30 rfl (fun hc => ?_) (fun hc => ?_)
  · have hf := it_n hc hf
    refine k_iconst (pc := 38) h dX3_sortLoan_38 kc_iconst_0 ?_
    obtain rfl := so1 hf
    exact k_drop [0, 1, 2, 3, 4] rfl kj30
  · have hf := it_p hc hf
    refine k_iload (pc := 33) h dX3_sortLoan_33 4 rfl ?_
    refine k_goto (pc := 35) (tgt := 39) h dX3_sortLoan_35 rfl ?_
    obtain rfl := so1 hf
    exact k_drop [0, 1, 2, 3, 4] rfl kj30
theorem dX3_findLoans_0 : decode cX3_findLoans 0 = .ok (.aload_n 0, 1) := by decide +kernel
theorem dX3_findLoans_1 : decode cX3_findLoans 1 = .ok (.iconst 0, 1) := by decide +kernel
theorem dX3_findLoans_2 : decode cX3_findLoans 2 = .ok (.putfield 9, 3) := by decide +kernel
theorem dX3_findLoans_5 : decode cX3_findLoans 5 = .ok (.aload_n 0, 1) := by decide +kernel
theorem dX3_findLoans_6 : decode cX3_findLoans 6 = .ok (.iconst 0, 1) := by decide +kernel
theorem dX3_findLoans_7 : decode cX3_findLoans 7 = .ok (.putfield 15, 3) := by decide +kernel
theorem dX3_findLoans_10 : decode cX3_findLoans 10 = .ok (.aload_n 0, 1) := by decide +kernel
theorem dX3_findLoans_11 : decode cX3_findLoans 11 = .ok (.iconst 0, 1) := by decide +kernel
theorem dX3_findLoans_12 : decode cX3_findLoans 12 = .ok (.putfield 18, 3) := by decide +kernel
theorem dX3_findLoans_15 : decode cX3_findLoans 15 = .ok (.aload_n 0, 1) := by decide +kernel
theorem dX3_findLoans_16 : decode cX3_findLoans 16 = .ok (.iconst 0, 1) := by decide +kernel
theorem dX3_findLoans_17 : decode cX3_findLoans 17 = .ok (.putfield 21, 3) := by decide +kernel
theorem dX3_findLoans_20 : decode cX3_findLoans 20 = .ok (.iconst 0, 1) := by decide +kernel
theorem dX3_findLoans_21 : decode cX3_findLoans 21 = .ok (.istore_n 3, 1) := by decide +kernel
theorem dX3_findLoans_22 : decode cX3_findLoans 22 = .ok (.iload_n 3, 1) := by decide +kernel
theorem dX3_findLoans_23 : decode cX3_findLoans 23 = .ok (.bipush 8, 2) := by decide +kernel
theorem dX3_findLoans_25 : decode cX3_findLoans 25 = .ok (.if_icmp .ge 23, 3) := by decide +kernel
theorem dX3_findLoans_28 : decode cX3_findLoans 28 = .ok (.aload_n 0, 1) := by decide +kernel
theorem dX3_findLoans_29 : decode cX3_findLoans 29 = .ok (.getfield 49, 3) := by decide +kernel
theorem dX3_findLoans_32 : decode cX3_findLoans 32 = .ok (.iload_n 3, 1) := by decide +kernel
theorem dX3_findLoans_33 : decode cX3_findLoans 33 = .ok (.iconst 0, 1) := by decide +kernel
theorem dX3_findLoans_34 : decode cX3_findLoans 34 = .ok (.iastore, 1) := by decide +kernel
theorem dX3_findLoans_35 : decode cX3_findLoans 35 = .ok (.aload_n 0, 1) := by decide +kernel
theorem dX3_findLoans_36 : decode cX3_findLoans 36 = .ok (.getfield 52, 3) := by decide +kernel
theorem dX3_findLoans_39 : decode cX3_findLoans 39 = .ok (.iload_n 3, 1) := by decide +kernel
theorem dX3_findLoans_40 : decode cX3_findLoans 40 = .ok (.iconst 0, 1) := by decide +kernel
theorem dX3_findLoans_41 : decode cX3_findLoans 41 = .ok (.iastore, 1) := by decide +kernel
theorem dX3_findLoans_42 : decode cX3_findLoans 42 = .ok (.iinc 3 1, 3) := by decide +kernel
theorem dX3_findLoans_45 : decode cX3_findLoans 45 = .ok (.goto (-23), 3) := by decide +kernel
theorem dX3_findLoans_48 : decode cX3_findLoans 48 = .ok (.iconst 0, 1) := by decide +kernel
theorem dX3_findLoans_49 : decode cX3_findLoans 49 = .ok (.istore_n 3, 1) := by decide +kernel
theorem dX3_findLoans_50 : decode cX3_findLoans 50 = .ok (.iload_n 3, 1) := by decide +kernel
theorem dX3_findLoans_51 : decode cX3_findLoans 51 = .ok (.aload_n 1, 1) := by decide +kernel
theorem dX3_findLoans_52 : decode cX3_findLoans 52 = .ok (.getfield 55, 3) := by decide +kernel
theorem dX3_findLoans_55 : decode cX3_findLoans 55 = .ok (.if_icmp .ge 32, 3) := by decide +kernel
theorem dX3_findLoans_58 : decode cX3_findLoans 58 = .ok (.aload_n 1, 1) := by decide +kernel
theorem dX3_findLoans_59 : decode cX3_findLoans 59 = .ok (.getfield 60, 3) := by decide +kernel
theorem dX3_findLoans_62 : decode cX3_findLoans 62 = .ok (.iload_n 3, 1) := by decide +kernel
theorem dX3_findLoans_63 : decode cX3_findLoans 63 = .ok (.baload, 1) := by decide +kernel
theorem dX3_findLoans_64 : decode cX3_findLoans 64 = .ok (.ifCond .eq 17, 3) := by decide +kernel
theorem dX3_findLoans_67 : decode cX3_findLoans 67 = .ok (.iload_n 2, 1) := by decide +kernel
theorem dX3_findLoans_68 : decode cX3_findLoans 68 = .ok (.iload_n 3, 1) := by decide +kernel
theorem dX3_findLoans_69 : decode cX3_findLoans 69 = .ok (.invokestatic 64, 3) := by decide +kernel
theorem dX3_findLoans_72 : decode cX3_findLoans 72 = .ok (.ifCond .eq 9, 3) := by decide +kernel
theorem dX3_findLoans_75 : decode cX3_findLoans 75 = .ok (.aload_n 0, 1) := by decide +kernel
theorem dX3_findLoans_76 : decode cX3_findLoans 76 = .ok (.aload_n 1, 1) := by decide +kernel
theorem dX3_findLoans_77 : decode cX3_findLoans 77 = .ok (.iload_n 3, 1) := by decide +kernel
theorem dX3_findLoans_78 : decode cX3_findLoans 78 = .ok (.invokevirtual 68, 3) := by decide +kernel
theorem dX3_findLoans_81 : decode cX3_findLoans 81 = .ok (.iinc 3 1, 3) := by decide +kernel
theorem dX3_findLoans_84 : decode cX3_findLoans 84 = .ok (.goto (-34), 3) := by decide +kernel
theorem dX3_findLoans_87 : decode cX3_findLoans 87 = .ok (.return_, 1) := by decide +kernel
def f_X3_findLoans_L22 (v5 : Int32) (s6 : sh_S) : Option ((Int32 × sh_S) ⊕ (sh_S)) := (if (8 : Int32) ≤ v5 then some (.inr s6) else gu (inb v5 8) (lb (ur s6 27 (upd (s6 27) (ix v5) (0 : Int32))) (fun s9 => gu (inb v5 8) (lb (ur s9 28 (upd (s9 28) (ix v5) (0 : Int32))) (fun s11 => lb (v5 + (1 : Int32)) (fun v12 => some (.inl (v12, s11))))))))
def f_X3_findLoans_L50 (p2 : Int32) (v13 : Int32) (s14 : sh_S) : Option ((Int32 × sh_S) ⊕ (sh_S)) := (if (s14 0 9) ≤ v13 then some (.inr s14) else gu (inb v13 24) (ob (if (s14 8 (ix v13)) = 0 then some s14 else ob (f_X9_hasBit p2 v13) (fun v18 => (if v18 = 0 then some s14 else ob (f_X3_sortLoan v13 s14) (fun s19 => some s19)))) (fun s17 => lb (v13 + (1 : Int32)) (fun v20 => some (.inl (v20, s17))))))
def f_X3_findLoans (p2 : Int32) (s0 : sh_S) : Option (sh_S) := lb (ur s0 19 (upd (s0 19) 0 (0 : Int32))) (fun s1 => lb (ur s1 19 (upd (s1 19) 1 (0 : Int32))) (fun s2 => lb (ur s2 19 (upd (s2 19) 2 (0 : Int32))) (fun s3 => lb (ur s3 19 (upd (s3 19) 3 (0 : Int32))) (fun s4 => ob (lp (fun q => f_X3_findLoans_L22 q.1 q.2) FU ((0 : Int32), s4)) (fun s7 => ob (lp (fun q => f_X3_findLoans_L50 p2 q.1 q.2) FU ((0 : Int32), s7)) (fun s15 => some s15))))))
set_option maxRecDepth 100000 in
set_option maxHeartbeats 4000000 in
theorem c_X3_findLoans (p2 : Int32) (s0 : sh_S) (s9x : sh_S) (hf : f_X3_findLoans p2 s0 = some s9x) : Ctr yX3_findLoans cX3_findLoans 4 none ({ frames := 1, cells := 0, slots := 0, locals := 27 } : Room) shCK [.ref 19, .ref 0, .int p2] s0 none s9x := by
  refine Ctr.mk (ri := .return_) (by decide) (Nat.le_of_ble_eq_true rfl) (Rt_v) ?_
  intro G h hL hR hret
  refine k_drop (lv' := [(0, .ref 19), (1, .ref 0), (2, .int p2)]) [0, 1, 2] rfl ?_
  unfold f_X3_findLoans at hf
  refine k_aload_n (pc := 0) h dX3_findLoans_0 rfl 0 rfl ?_
  refine k_iconst (pc := 1) h dX3_findLoans_1 kc_iconst_0 ?_
  obtain ⟨s1, es1, hf⟩ := lb_s hf
  refine k_put (pc := 2) h fl_RX3_9 fp_X3_0 rfl rfl rfl rfl dX3_findLoans_2 ?_
  refine k_heap es1 ?_
  refine k_aload_n (pc := 5) h dX3_findLoans_5 rfl 0 rfl ?_
  refine k_iconst (pc := 6) h dX3_findLoans_6 kc_iconst_0 ?_
  obtain ⟨s2, es2, hf⟩ := lb_s hf
  refine k_put (pc := 7) h fl_RX3_15 fp_X3_1 rfl rfl rfl rfl dX3_findLoans_7 ?_
  refine k_heap es2 ?_
  refine k_aload_n (pc := 10) h dX3_findLoans_10 rfl 0 rfl ?_
  refine k_iconst (pc := 11) h dX3_findLoans_11 kc_iconst_0 ?_
  obtain ⟨s3, es3, hf⟩ := lb_s hf
  refine k_put (pc := 12) h fl_RX3_18 fp_X3_2 rfl rfl rfl rfl dX3_findLoans_12 ?_
  refine k_heap es3 ?_
  refine k_aload_n (pc := 15) h dX3_findLoans_15 rfl 0 rfl ?_
  refine k_iconst (pc := 16) h dX3_findLoans_16 kc_iconst_0 ?_
  obtain ⟨s4, es4, hf⟩ := lb_s hf
  refine k_put (pc := 17) h fl_RX3_21 fp_X3_3 rfl rfl rfl rfl dX3_findLoans_17 ?_
  refine k_heap es4 ?_
  refine k_iconst (pc := 20) h dX3_findLoans_20 kc_iconst_0 ?_
  refine k_istore_n (pc := 21) h dX3_findLoans_21 rfl (nk hL (by decide)) (lv' := [(0, .ref 19), (1, .ref 0), (2, .int p2), (3, .int (0 : Int32))]) rfl ?_
  obtain ⟨s7, hl, hf⟩ := ob_s hf
  refine k_drop (lv' := [(0, .ref 19), (1, .ref 0), (2, .int p2), (3, .int (0 : Int32))]) [0, 1, 2, 3] rfl ?_
  refine lp_s (P := (fun q : Int32 × sh_S => sh_K G shCK 22 [(0, .ref 19), (1, .ref 0), (2, .int p2), (3, .int q.1)] [] q.2)) (Q := (fun q : sh_S => sh_K G shCK 48 [(0, .ref 19), (1, .ref 0), (2, .int p2)] [] q)) (s := ((0 : Int32), s4)) ?_ hl ?_
  · clear hf hl
    intro q rr hf kc22
    obtain ⟨v5, s6⟩ := q
    have hf : f_X3_findLoans_L22 v5 s6 = some rr := hf
    unfold f_X3_findLoans_L22 at hf
    refine k_iload_n (pc := 22) h dX3_findLoans_22 rfl 3 rfl ?_
    refine k_bipush (pc := 23) h dX3_findLoans_23 kc_bipush_8 ?_
    refine k_icmp_ge (pc := 25) (tgt := 48) h dX3_findLoans_25 rfl (fun hc => ?_) (fun hc => ?_)
    · have hf := it_p hc hf
      obtain rfl := so1 hf
      exact k_drop [0, 1, 2] rfl kc22
    · have hf := it_n hc hf
      refine k_aload_n (pc := 28) h dX3_findLoans_28 rfl 0 rfl ?_
      refine k_getR (pc := 29) h fl_RX3_49 rfl rfl dX3_findLoans_29 ?_
      refine k_iload_n (pc := 32) h dX3_findLoans_32 rfl 3 rfl ?_
      refine k_iconst (pc := 33) h dX3_findLoans_33 kc_iconst_0 ?_
      obtain ⟨g8, hf⟩ := gu_s hf
      obtain ⟨s9, es9, hf⟩ := lb_s hf
      refine k_iast (pc := 34) (n := 8) h rfl g8 dX3_findLoans_34 ?_
      refine k_heap es9 ?_
      refine k_aload_n (pc := 35) h dX3_findLoans_35 rfl 0 rfl ?_
      refine k_getR (pc := 36) h fl_RX3_52 rfl rfl dX3_findLoans_36 ?_
      refine k_iload_n (pc := 39) h dX3_findLoans_39 rfl 3 rfl ?_
      refine k_iconst (pc := 40) h dX3_findLoans_40 kc_iconst_0 ?_
      obtain ⟨g10, hf⟩ := gu_s hf
      obtain ⟨s11, es11, hf⟩ := lb_s hf
      refine k_iast (pc := 41) (n := 8) h rfl g10 dX3_findLoans_41 ?_
      refine k_heap es11 ?_
      obtain ⟨v12, ev12, hf⟩ := lb_s hf
      refine k_iinc (pc := 42) h dX3_findLoans_42 3 rfl ((congrArg (_ + ·) kc_iconst_1).trans ev12.symm) (nk hL (by decide)) (lv' := [(0, .ref 19), (1, .ref 0), (2, .int p2), (3, .int v12)]) rfl ?_
      refine k_goto (pc := 45) (tgt := 22) h dX3_findLoans_45 rfl ?_
      obtain rfl := so1 hf
      exact k_drop [0, 1, 2, 3] rfl kc22
  · refine k_iconst (pc := 48) h dX3_findLoans_48 kc_iconst_0 ?_
    refine k_istore_n (pc := 49) h dX3_findLoans_49 rfl (nk hL (by decide)) (lv' := [(0, .ref 19), (1, .ref 0), (2, .int p2), (3, .int (0 : Int32))]) rfl ?_
    obtain ⟨s15, hl, hf⟩ := ob_s hf
    refine k_drop (lv' := [(0, .ref 19), (1, .ref 0), (2, .int p2), (3, .int (0 : Int32))]) [0, 1, 2, 3] rfl ?_
    refine lp_s (P := (fun q : Int32 × sh_S => sh_K G shCK 50 [(0, .ref 19), (1, .ref 0), (2, .int p2), (3, .int q.1)] [] q.2)) (Q := (fun q : sh_S => sh_K G shCK 87 [] [] q)) (s := ((0 : Int32), s7)) ?_ hl ?_
    · clear hf hl
      intro q rr hf kc50
      obtain ⟨v13, s14⟩ := q
      have hf : f_X3_findLoans_L50 p2 v13 s14 = some rr := hf
      unfold f_X3_findLoans_L50 at hf
      refine k_iload_n (pc := 50) h dX3_findLoans_50 rfl 3 rfl ?_
      refine k_aload_n (pc := 51) h dX3_findLoans_51 rfl 1 rfl ?_
      refine k_getI (pc := 52) h fl_RX3_55 rfl rfl dX3_findLoans_52 ?_
      refine k_icmp_ge (pc := 55) (tgt := 87) h dX3_findLoans_55 rfl (fun hc => ?_) (fun hc => ?_)
      · have hf := it_p hc hf
        obtain rfl := so1 hf
        exact k_drop [] rfl kc50
      · have hf := it_n hc hf
        refine k_aload_n (pc := 58) h dX3_findLoans_58 rfl 1 rfl ?_
        refine k_getR (pc := 59) h fl_RX3_60 rfl rfl dX3_findLoans_59 ?_
        refine k_iload_n (pc := 62) h dX3_findLoans_62 rfl 3 rfl ?_
        obtain ⟨g16, hf⟩ := gu_s hf
        refine k_zald (pc := 63) (n := 24) h rfl g16 dX3_findLoans_63 ?_
        obtain ⟨s17, hj, hf⟩ := ob_s hf
        have kj64 : sh_K G shCK 81 [(0, .ref 19), (1, .ref 0), (2, .int p2), (3, .int v13)] [] s17 := by
          obtain ⟨v20, ev20, hf⟩ := lb_s hf
          refine k_iinc (pc := 81) h dX3_findLoans_81 3 rfl ((congrArg (_ + ·) kc_iconst_1).trans ev20.symm) (nk hL (by decide)) (lv' := [(0, .ref 19), (1, .ref 0), (2, .int p2), (3, .int v20)]) rfl ?_
          refine k_goto (pc := 84) (tgt := 50) h dX3_findLoans_84 rfl ?_
          obtain rfl := so1 hf
          exact k_drop [0, 1, 2, 3] rfl kc50
        clear hf
        have hf := hj
        clear hj
        refine k_if_eq (pc := 64) (tgt := 81) h dX3_findLoans_64 rfl (fun hc => ?_) (fun hc => ?_)
        · have hf := it_p hc hf
          obtain rfl := so1 hf
          exact k_drop [0, 1, 2, 3] rfl kj64
        · have hf := it_n hc hf
          refine k_iload_n (pc := 67) h dX3_findLoans_67 rfl 2 rfl ?_
          refine k_iload_n (pc := 68) h dX3_findLoans_68 rfl 3 rfl ?_
          obtain ⟨v18, cv18, hf⟩ := ob_s hf
          refine k_callNp (pc := 69) h cn_RX3_64 (c_X9_hasBit p2 v13 _ v18 cv18) rfl rfl (st1 := [.int v18]) rfl ⟨rfl, rfl⟩ (rk hR (Nat.le_of_ble_eq_true rfl) (Nat.le_of_ble_eq_true rfl)) (Nat.le_of_ble_eq_true rfl) dX3_findLoans_69 ?_
          refine k_if_eq (pc := 72) (tgt := 81) h dX3_findLoans_72 rfl (fun hc => ?_) (fun hc => ?_)
          · have hf := it_p hc hf
            obtain rfl := so1 hf
            exact k_drop [0, 1, 2, 3] rfl kj64
          · have hf := it_n hc hf
            refine k_aload_n (pc := 75) h dX3_findLoans_75 rfl 0 rfl ?_
            refine k_aload_n (pc := 76) h dX3_findLoans_76 rfl 1 rfl ?_
            refine k_iload_n (pc := 77) h dX3_findLoans_77 rfl 3 rfl ?_
            obtain ⟨s19, cs19, hf⟩ := ob_s hf
            refine k_callV0 (pc := 78) h cv_RX3_68 (c_X3_sortLoan v13 s14 s19 cs19) rfl rfl rfl (st1 := []) rfl ⟨rfl, rfl⟩ (rk hR (Nat.le_of_ble_eq_true rfl) (Nat.le_of_ble_eq_true rfl)) (Nat.le_of_ble_eq_true rfl) dX3_findLoans_78 ?_
            obtain rfl := so1 hf
            exact k_drop [0, 1, 2, 3] rfl kj64
    · obtain rfl := so1 hf
      exact hret 87 _ dX3_findLoans_87 trivial
theorem dX3_stepBehind_0 : decode cX3_stepBehind 0 = .ok (.aload_n 0, 1) := by decide +kernel
theorem dX3_stepBehind_1 : decode cX3_stepBehind 1 = .ok (.getfield 24, 3) := by decide +kernel
theorem dX3_stepBehind_4 : decode cX3_stepBehind 4 = .ok (.iload_n 2, 1) := by decide +kernel
theorem dX3_stepBehind_5 : decode cX3_stepBehind 5 = .ok (.bipush 8, 2) := by decide +kernel
theorem dX3_stepBehind_7 : decode cX3_stepBehind 7 = .ok (.imul, 1) := by decide +kernel
theorem dX3_stepBehind_8 : decode cX3_stepBehind 8 = .ok (.aload_n 0, 1) := by decide +kernel
theorem dX3_stepBehind_9 : decode cX3_stepBehind 9 = .ok (.getfield 28, 3) := by decide +kernel
theorem dX3_stepBehind_12 : decode cX3_stepBehind 12 = .ok (.iconst 0, 1) := by decide +kernel
theorem dX3_stepBehind_13 : decode cX3_stepBehind 13 = .ok (.bipush 8, 2) := by decide +kernel
theorem dX3_stepBehind_15 : decode cX3_stepBehind 15 = .ok (.invokestatic 100, 3) := by decide +kernel
theorem dX3_stepBehind_18 : decode cX3_stepBehind 18 = .ok (.aload_n 1, 1) := by decide +kernel
theorem dX3_stepBehind_19 : decode cX3_stepBehind 19 = .ok (.getfield 72, 3) := by decide +kernel
theorem dX3_stepBehind_22 : decode cX3_stepBehind 22 = .ok (.iload_n 2, 1) := by decide +kernel
theorem dX3_stepBehind_23 : decode cX3_stepBehind 23 = .ok (.iaload, 1) := by decide +kernel
theorem dX3_stepBehind_24 : decode cX3_stepBehind 24 = .ok (.istore_n 3, 1) := by decide +kernel
theorem dX3_stepBehind_25 : decode cX3_stepBehind 25 = .ok (.aload_n 1, 1) := by decide +kernel
theorem dX3_stepBehind_26 : decode cX3_stepBehind 26 = .ok (.getfield 78, 3) := by decide +kernel
theorem dX3_stepBehind_29 : decode cX3_stepBehind 29 = .ok (.iload_n 2, 1) := by decide +kernel
theorem dX3_stepBehind_30 : decode cX3_stepBehind 30 = .ok (.iaload, 1) := by decide +kernel
theorem dX3_stepBehind_31 : decode cX3_stepBehind 31 = .ok (.istore 4, 2) := by decide +kernel
theorem dX3_stepBehind_33 : decode cX3_stepBehind 33 = .ok (.aload_n 1, 1) := by decide +kernel
theorem dX3_stepBehind_34 : decode cX3_stepBehind 34 = .ok (.getfield 81, 3) := by decide +kernel
theorem dX3_stepBehind_37 : decode cX3_stepBehind 37 = .ok (.iload_n 2, 1) := by decide +kernel
theorem dX3_stepBehind_38 : decode cX3_stepBehind 38 = .ok (.iaload, 1) := by decide +kernel
theorem dX3_stepBehind_39 : decode cX3_stepBehind 39 = .ok (.istore 5, 2) := by decide +kernel
theorem dX3_stepBehind_41 : decode cX3_stepBehind 41 = .ok (.aload_n 1, 1) := by decide +kernel
theorem dX3_stepBehind_42 : decode cX3_stepBehind 42 = .ok (.getfield 60, 3) := by decide +kernel
theorem dX3_stepBehind_45 : decode cX3_stepBehind 45 = .ok (.iload_n 2, 1) := by decide +kernel
theorem dX3_stepBehind_46 : decode cX3_stepBehind 46 = .ok (.baload, 1) := by decide +kernel
theorem dX3_stepBehind_47 : decode cX3_stepBehind 47 = .ok (.ifCond .eq 16, 3) := by decide +kernel
theorem dX3_stepBehind_50 : decode cX3_stepBehind 50 = .ok (.aload_n 0, 1) := by decide +kernel
theorem dX3_stepBehind_51 : decode cX3_stepBehind 51 = .ok (.getfield 28, 3) := by decide +kernel
theorem dX3_stepBehind_54 : decode cX3_stepBehind 54 = .ok (.iload 5, 2) := by decide +kernel
theorem dX3_stepBehind_56 : decode cX3_stepBehind 56 = .ok (.iconst 1, 1) := by decide +kernel
theorem dX3_stepBehind_57 : decode cX3_stepBehind 57 = .ok (.iload_n 2, 1) := by decide +kernel
theorem dX3_stepBehind_58 : decode cX3_stepBehind 58 = .ok (.ishl, 1) := by decide +kernel
theorem dX3_stepBehind_59 : decode cX3_stepBehind 59 = .ok (.iastore, 1) := by decide +kernel
theorem dX3_stepBehind_60 : decode cX3_stepBehind 60 = .ok (.goto 65, 3) := by decide +kernel
theorem dX3_stepBehind_63 : decode cX3_stepBehind 63 = .ok (.iload_n 3, 1) := by decide +kernel
theorem dX3_stepBehind_64 : decode cX3_stepBehind 64 = .ok (.iconst 2, 1) := by decide +kernel
theorem dX3_stepBehind_65 : decode cX3_stepBehind 65 = .ok (.if_icmp .ne 24, 3) := by decide +kernel
theorem dX3_stepBehind_68 : decode cX3_stepBehind 68 = .ok (.aload_n 1, 1) := by decide +kernel
theorem dX3_stepBehind_69 : decode cX3_stepBehind 69 = .ok (.getfield 75, 3) := by decide +kernel
theorem dX3_stepBehind_72 : decode cX3_stepBehind 72 = .ok (.iload_n 2, 1) := by decide +kernel
theorem dX3_stepBehind_73 : decode cX3_stepBehind 73 = .ok (.baload, 1) := by decide +kernel
theorem dX3_stepBehind_74 : decode cX3_stepBehind 74 = .ok (.ifCond .ne 15, 3) := by decide +kernel
theorem dX3_stepBehind_77 : decode cX3_stepBehind 77 = .ok (.aload_n 0, 1) := by decide +kernel
theorem dX3_stepBehind_78 : decode cX3_stepBehind 78 = .ok (.getfield 28, 3) := by decide +kernel
theorem dX3_stepBehind_81 : decode cX3_stepBehind 81 = .ok (.iload 4, 2) := by decide +kernel
theorem dX3_stepBehind_83 : decode cX3_stepBehind 83 = .ok (.ldc 84, 2) := by decide +kernel
theorem dX3_stepBehind_85 : decode cX3_stepBehind 85 = .ok (.iastore, 1) := by decide +kernel
theorem dX3_stepBehind_86 : decode cX3_stepBehind 86 = .ok (.goto 39, 3) := by decide +kernel
theorem dX3_stepBehind_89 : decode cX3_stepBehind 89 = .ok (.iload_n 3, 1) := by decide +kernel
theorem dX3_stepBehind_90 : decode cX3_stepBehind 90 = .ok (.bipush 6, 2) := by decide +kernel
theorem dX3_stepBehind_92 : decode cX3_stepBehind 92 = .ok (.if_icmp .ne 33, 3) := by decide +kernel
theorem dX3_stepBehind_95 : decode cX3_stepBehind 95 = .ok (.iload 4, 2) := by decide +kernel
theorem dX3_stepBehind_97 : decode cX3_stepBehind 97 = .ok (.iload 5, 2) := by decide +kernel
theorem dX3_stepBehind_99 : decode cX3_stepBehind 99 = .ok (.if_icmp .eq 26, 3) := by decide +kernel
theorem dX3_stepBehind_102 : decode cX3_stepBehind 102 = .ok (.aload_n 0, 1) := by decide +kernel
theorem dX3_stepBehind_103 : decode cX3_stepBehind 103 = .ok (.getfield 28, 3) := by decide +kernel
theorem dX3_stepBehind_106 : decode cX3_stepBehind 106 = .ok (.iload 5, 2) := by decide +kernel
theorem dX3_stepBehind_108 : decode cX3_stepBehind 108 = .ok (.aload_n 0, 1) := by decide +kernel
theorem dX3_stepBehind_109 : decode cX3_stepBehind 109 = .ok (.getfield 28, 3) := by decide +kernel
theorem dX3_stepBehind_112 : decode cX3_stepBehind 112 = .ok (.iload 4, 2) := by decide +kernel
theorem dX3_stepBehind_114 : decode cX3_stepBehind 114 = .ok (.iaload, 1) := by decide +kernel
theorem dX3_stepBehind_115 : decode cX3_stepBehind 115 = .ok (.iastore, 1) := by decide +kernel
theorem dX3_stepBehind_116 : decode cX3_stepBehind 116 = .ok (.aload_n 0, 1) := by decide +kernel
theorem dX3_stepBehind_117 : decode cX3_stepBehind 117 = .ok (.getfield 28, 3) := by decide +kernel
theorem dX3_stepBehind_120 : decode cX3_stepBehind 120 = .ok (.iload 4, 2) := by decide +kernel
theorem dX3_stepBehind_122 : decode cX3_stepBehind 122 = .ok (.ldc 84, 2) := by decide +kernel
theorem dX3_stepBehind_124 : decode cX3_stepBehind 124 = .ok (.iastore, 1) := by decide +kernel
theorem dX3_stepBehind_125 : decode cX3_stepBehind 125 = .ok (.return_, 1) := by decide +kernel
def f_X3_stepBehind_B89_1 (v4 : Int32) (v6 : Int32) (v8 : Int32) (s11 : sh_S) : Option (sh_S) := (if v4 = (6 : Int32) then (if v6 = v8 then some s11 else gu (inb v6 8) (gu (inb v8 8) (lb (ur s11 21 (upd (s11 21) (ix v8) (s11 21 (ix v6)))) (fun s14 => gu (inb v6 8) (lb (ur s14 21 (upd (s14 21) (ix v6) (16777216 : Int32))) (fun s16 => some s16)))))) else some s11)
def f_X3_stepBehind (p2 : Int32) (s0 : sh_S) : Option (sh_S) := gu ((¬ (p2 * (8 : Int32)) < 0 ∧ ¬ (0 : Int32) < 0 ∧ ¬ (8 : Int32) < 0) ∧ ix (p2 * (8 : Int32)) + ix (8 : Int32) ≤ 192 ∧ ix (0 : Int32) + ix (8 : Int32) ≤ 8) (lb (ur s0 21 (va_cpy (s0 20) (s0 21) (ix (p2 * (8 : Int32))) (ix (0 : Int32)) (ix (8 : Int32)))) (fun s2 => gu (inb p2 24) (lb ((s2 5 (ix p2))) (fun v4 => gu (inb p2 24) (lb ((s2 6 (ix p2))) (fun v6 => gu (inb p2 24) (lb ((s2 2 (ix p2))) (fun v8 => gu (inb p2 24) (ob (if (s2 8 (ix p2)) = 0 then (if v4 = (2 : Int32) then gu (inb p2 24) ((if (s2 9 (ix p2)) = 0 then gu (inb v6 8) (lb (ur s2 21 (upd (s2 21) (ix v6) (16777216 : Int32))) (fun s19 => some s19)) else f_X3_stepBehind_B89_1 v4 v6 v8 s2)) else f_X3_stepBehind_B89_1 v4 v6 v8 s2) else gu (inb v8 8) (lb (ur s2 21 (upd (s2 21) (ix v8) ((1 : Int32) <<< (p2 &&& 31)))) (fun s21 => some s21))) (fun s10 => some s10))))))))))
set_option maxRecDepth 100000 in
set_option maxHeartbeats 4000000 in
theorem c_X3_stepBehind (p2 : Int32) (s0 : sh_S) (s9x : sh_S) (hf : f_X3_stepBehind p2 s0 = some s9x) : Ctr yX3_stepBehind cX3_stepBehind 6 none ({ frames := 1, cells := 0, slots := 0, locals := 60 } : Room) shCK [.ref 19, .ref 0, .int p2] s0 none s9x := by
  refine Ctr.mk (ri := .return_) (by decide) (Nat.le_of_ble_eq_true rfl) (Rt_v) ?_
  intro G h hL hR hret
  refine k_drop (lv' := [(0, .ref 19), (1, .ref 0), (2, .int p2)]) [0, 1, 2] rfl ?_
  unfold f_X3_stepBehind at hf
  refine k_aload_n (pc := 0) h dX3_stepBehind_0 rfl 0 rfl ?_
  refine k_getR (pc := 1) h fl_RX3_24 rfl rfl dX3_stepBehind_1 ?_
  refine k_iload_n (pc := 4) h dX3_stepBehind_4 rfl 2 rfl ?_
  refine k_bipush (pc := 5) h dX3_stepBehind_5 kc_bipush_8 ?_
  refine k_imul (pc := 7) h dX3_stepBehind_7 ?_
  refine k_aload_n (pc := 8) h dX3_stepBehind_8 rfl 0 rfl ?_
  refine k_getR (pc := 9) h fl_RX3_28 rfl rfl dX3_stepBehind_9 ?_
  refine k_iconst (pc := 12) h dX3_stepBehind_12 kc_iconst_0 ?_
  refine k_bipush (pc := 13) h dX3_stepBehind_13 kc_bipush_8 ?_
  obtain ⟨g1, hf⟩ := gu_s hf
  obtain ⟨s2, es2, hf⟩ := lb_s hf
  refine k_acopy (pc := 15) h rfl rfl ⟨wd_642, wd_644, wd_643, wd_99⟩ g1 (rk hR (Nat.le_of_ble_eq_true rfl) (by decide +kernel)) (Nat.le_of_ble_eq_true rfl) dX3_stepBehind_15 ?_
  refine k_heap es2 ?_
  refine k_aload_n (pc := 18) h dX3_stepBehind_18 rfl 1 rfl ?_
  refine k_getR (pc := 19) h fl_RX3_72 rfl rfl dX3_stepBehind_19 ?_
  refine k_iload_n (pc := 22) h dX3_stepBehind_22 rfl 2 rfl ?_
  obtain ⟨g3, hf⟩ := gu_s hf
  refine k_iald (pc := 23) (n := 24) h rfl g3 dX3_stepBehind_23 ?_
  obtain ⟨v4, ev4, hf⟩ := lb_s hf
  refine k_top ev4 ?_
  refine k_istore_n (pc := 24) h dX3_stepBehind_24 rfl (nk hL (by decide)) (lv' := [(0, .ref 19), (1, .ref 0), (2, .int p2), (3, .int v4)]) rfl ?_
  refine k_aload_n (pc := 25) h dX3_stepBehind_25 rfl 1 rfl ?_
  refine k_getR (pc := 26) h fl_RX3_78 rfl rfl dX3_stepBehind_26 ?_
  refine k_iload_n (pc := 29) h dX3_stepBehind_29 rfl 2 rfl ?_
  obtain ⟨g5, hf⟩ := gu_s hf
  refine k_iald (pc := 30) (n := 24) h rfl g5 dX3_stepBehind_30 ?_
  obtain ⟨v6, ev6, hf⟩ := lb_s hf
  refine k_top ev6 ?_
  refine k_istore (pc := 31) h dX3_stepBehind_31 (nk hL (by decide)) (lv' := [(0, .ref 19), (1, .ref 0), (2, .int p2), (3, .int v4), (4, .int v6)]) rfl ?_
  refine k_aload_n (pc := 33) h dX3_stepBehind_33 rfl 1 rfl ?_
  refine k_getR (pc := 34) h fl_RX3_81 rfl rfl dX3_stepBehind_34 ?_
  refine k_iload_n (pc := 37) h dX3_stepBehind_37 rfl 2 rfl ?_
  obtain ⟨g7, hf⟩ := gu_s hf
  refine k_iald (pc := 38) (n := 24) h rfl g7 dX3_stepBehind_38 ?_
  obtain ⟨v8, ev8, hf⟩ := lb_s hf
  refine k_top ev8 ?_
  refine k_istore (pc := 39) h dX3_stepBehind_39 (nk hL (by decide)) (lv' := [(0, .ref 19), (1, .ref 0), (2, .int p2), (3, .int v4), (4, .int v6), (5, .int v8)]) rfl ?_
  refine k_aload_n (pc := 41) h dX3_stepBehind_41 rfl 1 rfl ?_
  refine k_getR (pc := 42) h fl_RX3_60 rfl rfl dX3_stepBehind_42 ?_
  refine k_iload_n (pc := 45) h dX3_stepBehind_45 rfl 2 rfl ?_
  obtain ⟨g9, hf⟩ := gu_s hf
  refine k_zald (pc := 46) (n := 24) h rfl g9 dX3_stepBehind_46 ?_
  obtain ⟨s10, hj, hf⟩ := ob_s hf
  have kj47 : sh_K G shCK 125 [] [] s10 := by
    obtain rfl := so1 hf
    exact hret 125 _ dX3_stepBehind_125 trivial
  clear hf
  have hf := hj
  clear hj
  refine k_if_eq (pc := 47) (tgt := 63) h dX3_stepBehind_47 rfl (fun hc => ?_) (fun hc => ?_)
  · have hf := it_p hc hf
    refine k_iload_n (pc := 63) h dX3_stepBehind_63 rfl 3 rfl ?_
    refine k_iconst (pc := 64) h dX3_stepBehind_64 kc_iconst_2 ?_
    have kb89_1 : ∀ (s11 : sh_S), f_X3_stepBehind_B89_1 v4 v6 v8 s11 = some s10 → sh_K G shCK 89 [(0, .ref 19), (3, .int v4), (4, .int v6), (5, .int v8)] [] s11 := by
      clear hf
      intro s11 hf
      unfold f_X3_stepBehind_B89_1 at hf
      refine k_iload_n (pc := 89) h dX3_stepBehind_89 rfl 1 rfl ?_
      refine k_bipush (pc := 90) h dX3_stepBehind_90 kc_bipush_6 ?_
      refine k_icmp_ne (pc := 92) (tgt := 125) h dX3_stepBehind_92 rfl (fun hc => ?_) (fun hc => ?_)
      · have hf := it_n hc hf
        obtain rfl := so1 hf
        exact k_drop [] rfl kj47
      · have hf := it_p hc hf
        refine k_iload (pc := 95) h dX3_stepBehind_95 2 rfl ?_
        refine k_iload (pc := 97) h dX3_stepBehind_97 3 rfl ?_
        refine k_icmp_eq (pc := 99) (tgt := 125) h dX3_stepBehind_99 rfl (fun hc => ?_) (fun hc => ?_)
        · have hf := it_p hc hf
          obtain rfl := so1 hf
          exact k_drop [] rfl kj47
        · have hf := it_n hc hf
          refine k_aload_n (pc := 102) h dX3_stepBehind_102 rfl 0 rfl ?_
          refine k_getR (pc := 103) h fl_RX3_28 rfl rfl dX3_stepBehind_103 ?_
          refine k_iload (pc := 106) h dX3_stepBehind_106 3 rfl ?_
          refine k_aload_n (pc := 108) h dX3_stepBehind_108 rfl 0 rfl ?_
          refine k_getR (pc := 109) h fl_RX3_28 rfl rfl dX3_stepBehind_109 ?_
          refine k_iload (pc := 112) h dX3_stepBehind_112 2 rfl ?_
          obtain ⟨g12, hf⟩ := gu_s hf
          refine k_iald (pc := 114) (n := 8) h rfl g12 dX3_stepBehind_114 ?_
          obtain ⟨g13, hf⟩ := gu_s hf
          obtain ⟨s14, es14, hf⟩ := lb_s hf
          refine k_iast (pc := 115) (n := 8) h rfl g13 dX3_stepBehind_115 ?_
          refine k_heap es14 ?_
          refine k_aload_n (pc := 116) h dX3_stepBehind_116 rfl 0 rfl ?_
          refine k_getR (pc := 117) h fl_RX3_28 rfl rfl dX3_stepBehind_117 ?_
          refine k_iload (pc := 120) h dX3_stepBehind_120 2 rfl ?_
          refine k_ldc (pc := 122) h dX3_stepBehind_122 wd_637 ?_
          obtain ⟨g15, hf⟩ := gu_s hf
          obtain ⟨s16, es16, hf⟩ := lb_s hf
          refine k_iast (pc := 124) (n := 8) h rfl g15 dX3_stepBehind_124 ?_
          refine k_heap es16 ?_
          obtain rfl := so1 hf
          exact k_drop [] rfl kj47
    refine k_icmp_ne (pc := 65) (tgt := 89) h dX3_stepBehind_65 rfl (fun hc => ?_) (fun hc => ?_)
    · have hf := it_n hc hf
      exact k_drop [0, 3, 4, 5] rfl (kb89_1 s2 hf)
    · have hf := it_p hc hf
      refine k_aload_n (pc := 68) h dX3_stepBehind_68 rfl 1 rfl ?_
      refine k_getR (pc := 69) h fl_RX3_75 rfl rfl dX3_stepBehind_69 ?_
      refine k_iload_n (pc := 72) h dX3_stepBehind_72 rfl 2 rfl ?_
      obtain ⟨g17, hf⟩ := gu_s hf
      refine k_zald (pc := 73) (n := 24) h rfl g17 dX3_stepBehind_73 ?_
      refine k_if_ne (pc := 74) (tgt := 89) h dX3_stepBehind_74 rfl (fun hc => ?_) (fun hc => ?_)
      · have hf := it_n hc hf
        exact k_drop [0, 3, 4, 5] rfl (kb89_1 s2 hf)
      · have hf := it_p hc hf
        refine k_aload_n (pc := 77) h dX3_stepBehind_77 rfl 0 rfl ?_
        refine k_getR (pc := 78) h fl_RX3_28 rfl rfl dX3_stepBehind_78 ?_
        refine k_iload (pc := 81) h dX3_stepBehind_81 4 rfl ?_
        refine k_ldc (pc := 83) h dX3_stepBehind_83 wd_637 ?_
        obtain ⟨g18, hf⟩ := gu_s hf
        obtain ⟨s19, es19, hf⟩ := lb_s hf
        refine k_iast (pc := 85) (n := 8) h rfl g18 dX3_stepBehind_85 ?_
        refine k_heap es19 ?_
        refine k_goto (pc := 86) (tgt := 125) h dX3_stepBehind_86 rfl ?_
        obtain rfl := so1 hf
        exact k_drop [] rfl kj47
  · have hf := it_n hc hf
    refine k_aload_n (pc := 50) h dX3_stepBehind_50 rfl 0 rfl ?_
    refine k_getR (pc := 51) h fl_RX3_28 rfl rfl dX3_stepBehind_51 ?_
    refine k_iload (pc := 54) h dX3_stepBehind_54 5 rfl ?_
    refine k_iconst (pc := 56) h dX3_stepBehind_56 kc_iconst_1 ?_
    refine k_iload_n (pc := 57) h dX3_stepBehind_57 rfl 2 rfl ?_
    refine k_ishl (pc := 58) h dX3_stepBehind_58 ?_
    obtain ⟨g20, hf⟩ := gu_s hf
    obtain ⟨s21, es21, hf⟩ := lb_s hf
    refine k_iast (pc := 59) (n := 8) h rfl g20 dX3_stepBehind_59 ?_
    refine k_heap es21 ?_
    refine k_goto (pc := 60) (tgt := 125) h dX3_stepBehind_60 rfl ?_
    obtain rfl := so1 hf
    exact k_drop [] rfl kj47
theorem dX3_join_0 : decode cX3_join 0 = .ok (.iload_n 1, 1) := by decide +kernel
theorem dX3_join_1 : decode cX3_join 1 = .ok (.iconst (-1), 1) := by decide +kernel
theorem dX3_join_2 : decode cX3_join 2 = .ok (.if_icmp .ne 4, 3) := by decide +kernel
theorem dX3_join_5 : decode cX3_join 5 = .ok (.return_, 1) := by decide +kernel
theorem dX3_join_6 : decode cX3_join 6 = .ok (.iload_n 1, 1) := by decide +kernel
theorem dX3_join_7 : decode cX3_join 7 = .ok (.bipush 8, 2) := by decide +kernel
theorem dX3_join_9 : decode cX3_join 9 = .ok (.imul, 1) := by decide +kernel
theorem dX3_join_10 : decode cX3_join 10 = .ok (.istore_n 2, 1) := by decide +kernel
theorem dX3_join_11 : decode cX3_join 11 = .ok (.iconst 0, 1) := by decide +kernel
theorem dX3_join_12 : decode cX3_join 12 = .ok (.istore_n 3, 1) := by decide +kernel
theorem dX3_join_13 : decode cX3_join 13 = .ok (.iload_n 3, 1) := by decide +kernel
theorem dX3_join_14 : decode cX3_join 14 = .ok (.bipush 8, 2) := by decide +kernel
theorem dX3_join_16 : decode cX3_join 16 = .ok (.if_icmp .ge 61, 3) := by decide +kernel
theorem dX3_join_19 : decode cX3_join 19 = .ok (.aload_n 0, 1) := by decide +kernel
theorem dX3_join_20 : decode cX3_join 20 = .ok (.getfield 24, 3) := by decide +kernel
theorem dX3_join_23 : decode cX3_join 23 = .ok (.iload_n 2, 1) := by decide +kernel
theorem dX3_join_24 : decode cX3_join 24 = .ok (.iload_n 3, 1) := by decide +kernel
theorem dX3_join_25 : decode cX3_join 25 = .ok (.iadd, 1) := by decide +kernel
theorem dX3_join_26 : decode cX3_join 26 = .ok (.iaload, 1) := by decide +kernel
theorem dX3_join_27 : decode cX3_join 27 = .ok (.aload_n 0, 1) := by decide +kernel
theorem dX3_join_28 : decode cX3_join 28 = .ok (.getfield 28, 3) := by decide +kernel
theorem dX3_join_31 : decode cX3_join 31 = .ok (.iload_n 3, 1) := by decide +kernel
theorem dX3_join_32 : decode cX3_join 32 = .ok (.iaload, 1) := by decide +kernel
theorem dX3_join_33 : decode cX3_join 33 = .ok (.ior, 1) := by decide +kernel
theorem dX3_join_34 : decode cX3_join 34 = .ok (.istore 4, 2) := by decide +kernel
theorem dX3_join_36 : decode cX3_join 36 = .ok (.iload 4, 2) := by decide +kernel
theorem dX3_join_38 : decode cX3_join 38 = .ok (.aload_n 0, 1) := by decide +kernel
theorem dX3_join_39 : decode cX3_join 39 = .ok (.getfield 24, 3) := by decide +kernel
theorem dX3_join_42 : decode cX3_join 42 = .ok (.iload_n 2, 1) := by decide +kernel
theorem dX3_join_43 : decode cX3_join 43 = .ok (.iload_n 3, 1) := by decide +kernel
theorem dX3_join_44 : decode cX3_join 44 = .ok (.iadd, 1) := by decide +kernel
theorem dX3_join_45 : decode cX3_join 45 = .ok (.iaload, 1) := by decide +kernel
theorem dX3_join_46 : decode cX3_join 46 = .ok (.if_icmp .eq 25, 3) := by decide +kernel
theorem dX3_join_49 : decode cX3_join 49 = .ok (.aload_n 0, 1) := by decide +kernel
theorem dX3_join_50 : decode cX3_join 50 = .ok (.getfield 24, 3) := by decide +kernel
theorem dX3_join_53 : decode cX3_join 53 = .ok (.iload_n 2, 1) := by decide +kernel
theorem dX3_join_54 : decode cX3_join 54 = .ok (.iload_n 3, 1) := by decide +kernel
theorem dX3_join_55 : decode cX3_join 55 = .ok (.iadd, 1) := by decide +kernel
theorem dX3_join_56 : decode cX3_join 56 = .ok (.iload 4, 2) := by decide +kernel
theorem dX3_join_58 : decode cX3_join 58 = .ok (.iastore, 1) := by decide +kernel
theorem dX3_join_59 : decode cX3_join 59 = .ok (.aload_n 0, 1) := by decide +kernel
theorem dX3_join_60 : decode cX3_join 60 = .ok (.dup, 1) := by decide +kernel
theorem dX3_join_61 : decode cX3_join 61 = .ok (.getfield 31, 3) := by decide +kernel
theorem dX3_join_64 : decode cX3_join 64 = .ok (.iconst 1, 1) := by decide +kernel
theorem dX3_join_65 : decode cX3_join 65 = .ok (.iload_n 1, 1) := by decide +kernel
theorem dX3_join_66 : decode cX3_join 66 = .ok (.ishl, 1) := by decide +kernel
theorem dX3_join_67 : decode cX3_join 67 = .ok (.ior, 1) := by decide +kernel
theorem dX3_join_68 : decode cX3_join 68 = .ok (.putfield 31, 3) := by decide +kernel
theorem dX3_join_71 : decode cX3_join 71 = .ok (.iinc 3 1, 3) := by decide +kernel
theorem dX3_join_74 : decode cX3_join 74 = .ok (.goto (-61), 3) := by decide +kernel
theorem dX3_join_77 : decode cX3_join 77 = .ok (.return_, 1) := by decide +kernel
def f_X3_join_L13 (p1 : Int32) (v1 : Int32) (v2 : Int32) (s3 : sh_S) : Option ((Int32 × sh_S) ⊕ (sh_S)) := (if (8 : Int32) ≤ v2 then some (.inr s3) else gu (inb (v1 + v2) 192) (gu (inb v2 8) (lb (((s3 20 (ix (v1 + v2))) ||| (s3 21 (ix v2)))) (fun v7 => gu (inb (v1 + v2) 192) (ob (if v7 = (s3 20 (ix (v1 + v2))) then some s3 else gu (inb (v1 + v2) 192) (lb (ur s3 20 (upd (s3 20) (ix (v1 + v2)) v7)) (fun s11 => lb (ur s11 19 (upd (s11 19) 6 ((s11 19 6) ||| ((1 : Int32) <<< (p1 &&& 31))))) (fun s12 => some s12)))) (fun s9 => lb (v2 + (1 : Int32)) (fun v13 => some (.inl (v13, s9)))))))))
def f_X3_join (p1 : Int32) (s0 : sh_S) : Option (sh_S) := (if p1 = (-1 : Int32) then some s0 else lb ((p1 * (8 : Int32))) (fun v1 => ob (lp (fun q => f_X3_join_L13 p1 v1 q.1 q.2) FU ((0 : Int32), s0)) (fun s4 => some s4)))
set_option maxRecDepth 100000 in
set_option maxHeartbeats 4000000 in
theorem c_X3_join (p1 : Int32) (s0 : sh_S) (s9x : sh_S) (hf : f_X3_join p1 s0 = some s9x) : Ctr yX3_join cX3_join 5 none ({ frames := 0, cells := 0, slots := 0, locals := 0 } : Room) shCK [.ref 19, .int p1] s0 none s9x := by
  refine Ctr.mk (ri := .return_) (by decide) (Nat.le_of_ble_eq_true rfl) (Rt_v) ?_
  intro G h hL hR hret
  refine k_drop (lv' := [(0, .ref 19), (1, .int p1)]) [0, 1] rfl ?_
  unfold f_X3_join at hf
  refine k_iload_n (pc := 0) h dX3_join_0 rfl 1 rfl ?_
  refine k_iconst (pc := 1) h dX3_join_1 kc_iconst_m1 ?_
  refine k_icmp_ne (pc := 2) (tgt := 6) h dX3_join_2 rfl (fun hc => ?_) (fun hc => ?_)
  · have hf := it_n hc hf
    refine k_iload_n (pc := 6) h dX3_join_6 rfl 1 rfl ?_
    refine k_bipush (pc := 7) h dX3_join_7 kc_bipush_8 ?_
    refine k_imul (pc := 9) h dX3_join_9 ?_
    obtain ⟨v1, ev1, hf⟩ := lb_s hf
    refine k_top ev1 ?_
    refine k_istore_n (pc := 10) h dX3_join_10 rfl (nk hL (by decide)) (lv' := [(0, .ref 19), (1, .int p1), (2, .int v1)]) rfl ?_
    refine k_iconst (pc := 11) h dX3_join_11 kc_iconst_0 ?_
    refine k_istore_n (pc := 12) h dX3_join_12 rfl (nk hL (by decide)) (lv' := [(0, .ref 19), (1, .int p1), (2, .int v1), (3, .int (0 : Int32))]) rfl ?_
    obtain ⟨s4, hl, hf⟩ := ob_s hf
    refine k_drop (lv' := [(0, .ref 19), (1, .int p1), (2, .int v1), (3, .int (0 : Int32))]) [0, 1, 2, 3] rfl ?_
    refine lp_s (P := (fun q : Int32 × sh_S => sh_K G shCK 13 [(0, .ref 19), (1, .int p1), (2, .int v1), (3, .int q.1)] [] q.2)) (Q := (fun q : sh_S => sh_K G shCK 77 [] [] q)) (s := ((0 : Int32), s0)) ?_ hl ?_
    · clear hf hl
      intro q rr hf kc13
      obtain ⟨v2, s3⟩ := q
      have hf : f_X3_join_L13 p1 v1 v2 s3 = some rr := hf
      unfold f_X3_join_L13 at hf
      refine k_iload_n (pc := 13) h dX3_join_13 rfl 3 rfl ?_
      refine k_bipush (pc := 14) h dX3_join_14 kc_bipush_8 ?_
      refine k_icmp_ge (pc := 16) (tgt := 77) h dX3_join_16 rfl (fun hc => ?_) (fun hc => ?_)
      · have hf := it_p hc hf
        obtain rfl := so1 hf
        exact k_drop [] rfl kc13
      · have hf := it_n hc hf
        refine k_aload_n (pc := 19) h dX3_join_19 rfl 0 rfl ?_
        refine k_getR (pc := 20) h fl_RX3_24 rfl rfl dX3_join_20 ?_
        refine k_iload_n (pc := 23) h dX3_join_23 rfl 2 rfl ?_
        refine k_iload_n (pc := 24) h dX3_join_24 rfl 3 rfl ?_
        refine k_iadd (pc := 25) h dX3_join_25 ?_
        obtain ⟨g5, hf⟩ := gu_s hf
        refine k_iald (pc := 26) (n := 192) h rfl g5 dX3_join_26 ?_
        refine k_aload_n (pc := 27) h dX3_join_27 rfl 0 rfl ?_
        refine k_getR (pc := 28) h fl_RX3_28 rfl rfl dX3_join_28 ?_
        refine k_iload_n (pc := 31) h dX3_join_31 rfl 3 rfl ?_
        obtain ⟨g6, hf⟩ := gu_s hf
        refine k_iald (pc := 32) (n := 8) h rfl g6 dX3_join_32 ?_
        refine k_ior (pc := 33) h dX3_join_33 ?_
        obtain ⟨v7, ev7, hf⟩ := lb_s hf
        refine k_top ev7 ?_
        refine k_istore (pc := 34) h dX3_join_34 (nk hL (by decide)) (lv' := [(0, .ref 19), (1, .int p1), (2, .int v1), (3, .int v2), (4, .int v7)]) rfl ?_
        refine k_iload (pc := 36) h dX3_join_36 4 rfl ?_
        refine k_aload_n (pc := 38) h dX3_join_38 rfl 0 rfl ?_
        refine k_getR (pc := 39) h fl_RX3_24 rfl rfl dX3_join_39 ?_
        refine k_iload_n (pc := 42) h dX3_join_42 rfl 2 rfl ?_
        refine k_iload_n (pc := 43) h dX3_join_43 rfl 3 rfl ?_
        refine k_iadd (pc := 44) h dX3_join_44 ?_
        obtain ⟨g8, hf⟩ := gu_s hf
        refine k_iald (pc := 45) (n := 192) h rfl g8 dX3_join_45 ?_
        obtain ⟨s9, hj, hf⟩ := ob_s hf
        have kj46 : sh_K G shCK 71 [(0, .ref 19), (1, .int p1), (2, .int v1), (3, .int v2)] [] s9 := by
          obtain ⟨v13, ev13, hf⟩ := lb_s hf
          refine k_iinc (pc := 71) h dX3_join_71 3 rfl ((congrArg (_ + ·) kc_iconst_1).trans ev13.symm) (nk hL (by decide)) (lv' := [(0, .ref 19), (1, .int p1), (2, .int v1), (3, .int v13)]) rfl ?_
          refine k_goto (pc := 74) (tgt := 13) h dX3_join_74 rfl ?_
          obtain rfl := so1 hf
          exact k_drop [0, 1, 2, 3] rfl kc13
        clear hf
        have hf := hj
        clear hj
        refine k_icmp_eq (pc := 46) (tgt := 71) h dX3_join_46 rfl (fun hc => ?_) (fun hc => ?_)
        · have hf := it_p hc hf
          obtain rfl := so1 hf
          exact k_drop [0, 1, 2, 3] rfl kj46
        · have hf := it_n hc hf
          refine k_aload_n (pc := 49) h dX3_join_49 rfl 0 rfl ?_
          refine k_getR (pc := 50) h fl_RX3_24 rfl rfl dX3_join_50 ?_
          refine k_iload_n (pc := 53) h dX3_join_53 rfl 2 rfl ?_
          refine k_iload_n (pc := 54) h dX3_join_54 rfl 3 rfl ?_
          refine k_iadd (pc := 55) h dX3_join_55 ?_
          refine k_iload (pc := 56) h dX3_join_56 4 rfl ?_
          obtain ⟨g10, hf⟩ := gu_s hf
          obtain ⟨s11, es11, hf⟩ := lb_s hf
          refine k_iast (pc := 58) (n := 192) h rfl g10 dX3_join_58 ?_
          refine k_heap es11 ?_
          refine k_aload_n (pc := 59) h dX3_join_59 rfl 0 rfl ?_
          refine k_dup (pc := 60) h dX3_join_60 rfl ?_
          refine k_getI (pc := 61) h fl_RX3_31 rfl rfl dX3_join_61 ?_
          refine k_iconst (pc := 64) h dX3_join_64 kc_iconst_1 ?_
          refine k_iload_n (pc := 65) h dX3_join_65 rfl 1 rfl ?_
          refine k_ishl (pc := 66) h dX3_join_66 ?_
          refine k_ior (pc := 67) h dX3_join_67 ?_
          obtain ⟨s12, es12, hf⟩ := lb_s hf
          refine k_put (pc := 68) h fl_RX3_31 fp_X3_6 rfl rfl rfl rfl dX3_join_68 ?_
          refine k_heap es12 ?_
          obtain rfl := so1 hf
          exact k_drop [0, 1, 2, 3] rfl kj46
    · obtain rfl := so1 hf
      exact hret 77 _ dX3_join_77 trivial
  · have hf := it_p hc hf
    obtain rfl := so1 hf
    exact hret 5 _ dX3_join_5 trivial
