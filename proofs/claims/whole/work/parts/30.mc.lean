theorem dX10_errs_0 : decode cX10_errs 0 = .ok (.aload_n 0, 1) := by decide +kernel
theorem dX10_errs_1 : decode cX10_errs 1 = .ok (.getfield 37, 3) := by decide +kernel
theorem dX10_errs_4 : decode cX10_errs 4 = .ok (.aload_n 0, 1) := by decide +kernel
theorem dX10_errs_5 : decode cX10_errs 5 = .ok (.getfield 224, 3) := by decide +kernel
theorem dX10_errs_8 : decode cX10_errs 8 = .ok (.iload_n 1, 1) := by decide +kernel
theorem dX10_errs_9 : decode cX10_errs 9 = .ok (.iastore, 1) := by decide +kernel
theorem dX10_errs_10 : decode cX10_errs 10 = .ok (.aload_n 0, 1) := by decide +kernel
theorem dX10_errs_11 : decode cX10_errs 11 = .ok (.getfield 40, 3) := by decide +kernel
theorem dX10_errs_14 : decode cX10_errs 14 = .ok (.aload_n 0, 1) := by decide +kernel
theorem dX10_errs_15 : decode cX10_errs 15 = .ok (.getfield 224, 3) := by decide +kernel
theorem dX10_errs_18 : decode cX10_errs 18 = .ok (.iload_n 2, 1) := by decide +kernel
theorem dX10_errs_19 : decode cX10_errs 19 = .ok (.iastore, 1) := by decide +kernel
theorem dX10_errs_20 : decode cX10_errs 20 = .ok (.aload_n 0, 1) := by decide +kernel
theorem dX10_errs_21 : decode cX10_errs 21 = .ok (.getfield 43, 3) := by decide +kernel
theorem dX10_errs_24 : decode cX10_errs 24 = .ok (.aload_n 0, 1) := by decide +kernel
theorem dX10_errs_25 : decode cX10_errs 25 = .ok (.getfield 224, 3) := by decide +kernel
theorem dX10_errs_28 : decode cX10_errs 28 = .ok (.iload_n 3, 1) := by decide +kernel
theorem dX10_errs_29 : decode cX10_errs 29 = .ok (.iastore, 1) := by decide +kernel
theorem dX10_errs_30 : decode cX10_errs 30 = .ok (.aload_n 0, 1) := by decide +kernel
theorem dX10_errs_31 : decode cX10_errs 31 = .ok (.dup, 1) := by decide +kernel
theorem dX10_errs_32 : decode cX10_errs 32 = .ok (.getfield 224, 3) := by decide +kernel
theorem dX10_errs_35 : decode cX10_errs 35 = .ok (.iconst 1, 1) := by decide +kernel
theorem dX10_errs_36 : decode cX10_errs 36 = .ok (.iadd, 1) := by decide +kernel
theorem dX10_errs_37 : decode cX10_errs 37 = .ok (.putfield 224, 3) := by decide +kernel
theorem dX10_errs_40 : decode cX10_errs 40 = .ok (.return_, 1) := by decide +kernel
def f_X10_errs (p1 : Int32) (p2 : Int32) (p3 : Int32) (s0 : sh_S) : Option (sh_S) := gu (inb (s0 0 12) 1300) (lb (ur s0 10 (upd (s0 10) (ix (s0 0 12)) p1)) (fun s2 => gu (inb (s2 0 12) 1300) (lb (ur s2 11 (upd (s2 11) (ix (s2 0 12)) p2)) (fun s4 => gu (inb (s4 0 12) 1300) (lb (ur s4 12 (upd (s4 12) (ix (s4 0 12)) p3)) (fun s6 => lb (ur s6 0 (upd (s6 0) 12 ((s6 0 12) + (1 : Int32)))) (fun s7 => some s7)))))))
set_option maxRecDepth 100000 in
set_option maxHeartbeats 4000000 in
theorem c_X10_errs (p1 : Int32) (p2 : Int32) (p3 : Int32) (s0 : sh_S) (s9x : sh_S) (hf : f_X10_errs p1 p2 p3 s0 = some s9x) : Ctr yX10_errs cX10_errs 4 none ({ frames := 0, cells := 0, slots := 0, locals := 0 } : Room) shM [.ref 0, .int p1, .int p2, .int p3] s0 none s9x := by
  refine Ctr.mk (ri := .return_) (by decide) (Nat.le_of_ble_eq_true rfl) (Rt_v) ?_
  intro G h hL hR hret
  refine k_drop (lv' := [(0, .ref 0), (1, .int p1), (2, .int p2), (3, .int p3)]) [0, 1, 2, 3] rfl ?_
  unfold f_X10_errs at hf
  refine k_aload_n (pc := 0) h dX10_errs_0 rfl 0 rfl ?_
  refine k_getR (pc := 1) h fl_RX10_37 rfl rfl dX10_errs_1 ?_
  refine k_aload_n (pc := 4) h dX10_errs_4 rfl 0 rfl ?_
  refine k_getI (pc := 5) h fl_RX10_224 rfl rfl dX10_errs_5 ?_
  refine k_iload_n (pc := 8) h dX10_errs_8 rfl 1 rfl ?_
  obtain ⟨g1, hf⟩ := gu_s hf
  obtain ⟨s2, es2, hf⟩ := lb_s hf
  refine k_iast (pc := 9) (n := 1300) h rfl g1 dX10_errs_9 ?_
  refine k_heap es2 ?_
  refine k_aload_n (pc := 10) h dX10_errs_10 rfl 0 rfl ?_
  refine k_getR (pc := 11) h fl_RX10_40 rfl rfl dX10_errs_11 ?_
  refine k_aload_n (pc := 14) h dX10_errs_14 rfl 0 rfl ?_
  refine k_getI (pc := 15) h fl_RX10_224 rfl rfl dX10_errs_15 ?_
  refine k_iload_n (pc := 18) h dX10_errs_18 rfl 2 rfl ?_
  obtain ⟨g3, hf⟩ := gu_s hf
  obtain ⟨s4, es4, hf⟩ := lb_s hf
  refine k_iast (pc := 19) (n := 1300) h rfl g3 dX10_errs_19 ?_
  refine k_heap es4 ?_
  refine k_aload_n (pc := 20) h dX10_errs_20 rfl 0 rfl ?_
  refine k_getR (pc := 21) h fl_RX10_43 rfl rfl dX10_errs_21 ?_
  refine k_aload_n (pc := 24) h dX10_errs_24 rfl 0 rfl ?_
  refine k_getI (pc := 25) h fl_RX10_224 rfl rfl dX10_errs_25 ?_
  refine k_iload_n (pc := 28) h dX10_errs_28 rfl 3 rfl ?_
  obtain ⟨g5, hf⟩ := gu_s hf
  obtain ⟨s6, es6, hf⟩ := lb_s hf
  refine k_iast (pc := 29) (n := 1300) h rfl g5 dX10_errs_29 ?_
  refine k_heap es6 ?_
  refine k_aload_n (pc := 30) h dX10_errs_30 rfl 0 rfl ?_
  refine k_dup (pc := 31) h dX10_errs_31 rfl ?_
  refine k_getI (pc := 32) h fl_RX10_224 rfl rfl dX10_errs_32 ?_
  refine k_iconst (pc := 35) h dX10_errs_35 kc_iconst_1 ?_
  refine k_iadd (pc := 36) h dX10_errs_36 ?_
  obtain ⟨s7, es7, hf⟩ := lb_s hf
  refine k_put (pc := 37) h fl_RX10_224 fp_X10_12 rfl rfl rfl rfl dX10_errs_37 ?_
  refine k_heap es7 ?_
  obtain rfl := so1 hf
  exact hret 40 _ dX10_errs_40 trivial
theorem dX10_isClash_0 : decode cX10_isClash 0 = .ok (.iload 4, 2) := by decide +kernel
theorem dX10_isClash_2 : decode cX10_isClash 2 = .ok (.ifCond .ne 25, 3) := by decide +kernel
theorem dX10_isClash_5 : decode cX10_isClash 5 = .ok (.aload_n 0, 1) := by decide +kernel
theorem dX10_isClash_6 : decode cX10_isClash 6 = .ok (.iload_n 2, 1) := by decide +kernel
theorem dX10_isClash_7 : decode cX10_isClash 7 = .ok (.invokevirtual 174, 3) := by decide +kernel
theorem dX10_isClash_10 : decode cX10_isClash 10 = .ok (.iconst 4, 1) := by decide +kernel
theorem dX10_isClash_11 : decode cX10_isClash 11 = .ok (.if_icmp .eq 16, 3) := by decide +kernel
theorem dX10_isClash_14 : decode cX10_isClash 14 = .ok (.aload_n 0, 1) := by decide +kernel
theorem dX10_isClash_15 : decode cX10_isClash 15 = .ok (.getfield 34, 3) := by decide +kernel
theorem dX10_isClash_18 : decode cX10_isClash 18 = .ok (.iload_n 1, 1) := by decide +kernel
theorem dX10_isClash_19 : decode cX10_isClash 19 = .ok (.iaload, 1) := by decide +kernel
theorem dX10_isClash_20 : decode cX10_isClash 20 = .ok (.iload_n 2, 1) := by decide +kernel
theorem dX10_isClash_21 : decode cX10_isClash 21 = .ok (.invokestatic 89, 3) := by decide +kernel
theorem dX10_isClash_24 : decode cX10_isClash 24 = .ok (.ifCond .eq 7, 3) := by decide +kernel
theorem dX10_isClash_27 : decode cX10_isClash 27 = .ok (.iconst 1, 1) := by decide +kernel
theorem dX10_isClash_28 : decode cX10_isClash 28 = .ok (.goto 4, 3) := by decide +kernel
theorem dX10_isClash_31 : decode cX10_isClash 31 = .ok (.iconst 0, 1) := by decide +kernel
theorem dX10_isClash_32 : decode cX10_isClash 32 = .ok (.istore 6, 2) := by decide +kernel
theorem dX10_isClash_34 : decode cX10_isClash 34 = .ok (.iload 6, 2) := by decide +kernel
theorem dX10_isClash_36 : decode cX10_isClash 36 = .ok (.ifCond .eq 44, 3) := by decide +kernel
theorem dX10_isClash_39 : decode cX10_isClash 39 = .ok (.iload_n 3, 1) := by decide +kernel
theorem dX10_isClash_40 : decode cX10_isClash 40 = .ok (.aload_n 0, 1) := by decide +kernel
theorem dX10_isClash_41 : decode cX10_isClash 41 = .ok (.getfield 16, 3) := by decide +kernel
theorem dX10_isClash_44 : decode cX10_isClash 44 = .ok (.iload_n 2, 1) := by decide +kernel
theorem dX10_isClash_45 : decode cX10_isClash 45 = .ok (.iaload, 1) := by decide +kernel
theorem dX10_isClash_46 : decode cX10_isClash 46 = .ok (.invokestatic 227, 3) := by decide +kernel
theorem dX10_isClash_49 : decode cX10_isClash 49 = .ok (.ifCond .eq 31, 3) := by decide +kernel
theorem dX10_isClash_52 : decode cX10_isClash 52 = .ok (.iload 5, 2) := by decide +kernel
theorem dX10_isClash_54 : decode cX10_isClash 54 = .ok (.ifCond .eq 22, 3) := by decide +kernel
theorem dX10_isClash_57 : decode cX10_isClash 57 = .ok (.iload_n 3, 1) := by decide +kernel
theorem dX10_isClash_58 : decode cX10_isClash 58 = .ok (.invokestatic 134, 3) := by decide +kernel
theorem dX10_isClash_61 : decode cX10_isClash 61 = .ok (.ifCond .ne 15, 3) := by decide +kernel
theorem dX10_isClash_64 : decode cX10_isClash 64 = .ok (.aload_n 0, 1) := by decide +kernel
theorem dX10_isClash_65 : decode cX10_isClash 65 = .ok (.getfield 16, 3) := by decide +kernel
theorem dX10_isClash_68 : decode cX10_isClash 68 = .ok (.iload_n 2, 1) := by decide +kernel
theorem dX10_isClash_69 : decode cX10_isClash 69 = .ok (.iaload, 1) := by decide +kernel
theorem dX10_isClash_70 : decode cX10_isClash 70 = .ok (.invokestatic 134, 3) := by decide +kernel
theorem dX10_isClash_73 : decode cX10_isClash 73 = .ok (.ifCond .ne 7, 3) := by decide +kernel
theorem dX10_isClash_76 : decode cX10_isClash 76 = .ok (.iconst 1, 1) := by decide +kernel
theorem dX10_isClash_77 : decode cX10_isClash 77 = .ok (.goto 4, 3) := by decide +kernel
theorem dX10_isClash_80 : decode cX10_isClash 80 = .ok (.iconst 0, 1) := by decide +kernel
theorem dX10_isClash_81 : decode cX10_isClash 81 = .ok (.ireturn, 1) := by decide +kernel
def f_X10_isClash (p1 : Int32) (p2 : Int32) (p3 : Int32) (p4 : Int32) (p5 : Int32) (s0 : sh_S) : Option (Int32) := ob (if p4 = 0 then ob (f_X10_kind p2 s0) (fun v2 => (if v2 = (4 : Int32) then some (1 : Int32) else gu (inb p1 24) (ob (f_X10_isIn (s0 9 (ix p1)) p2) (fun v4 => (if v4 = 0 then some (0 : Int32) else some (1 : Int32)))))) else some (1 : Int32)) (fun v1 => ob (if v1 = 0 then some (0 : Int32) else gu (inb p2 24) (ob (f_X10_overlap p3 (s0 3 (ix p2))) (fun v7 => (if v7 = 0 then some (0 : Int32) else (if p5 = 0 then some (1 : Int32) else ob (f_X10_through p3) (fun v8 => (if v8 = 0 then gu (inb p2 24) (ob (f_X10_through (s0 3 (ix p2))) (fun v10 => (if v10 = 0 then some (1 : Int32) else some (0 : Int32)))) else some (1 : Int32)))))))) (fun v5 => gu (v5 = 0 ∨ v5 = 1) (some v5)))
set_option maxRecDepth 100000 in
set_option maxHeartbeats 4000000 in
theorem c_X10_isClash (p1 : Int32) (p2 : Int32) (p3 : Int32) (p4 : Int32) (p5 : Int32) (s0 : sh_S) (r : Int32) (hf : f_X10_isClash p1 p2 p3 p4 p5 s0 = some r) : Ctr yX10_isClash cX10_isClash 7 (some .boolean) ({ frames := 2, cells := 0, slots := 0, locals := 42 } : Room) shM [.ref 0, .int p1, .int p2, .int p3, .int p4, .int p5] s0 (some (.int r)) s0 := by
  refine Ctr.mk (ri := .ireturn) (by decide) (Nat.le_of_ble_eq_true rfl) (Rt_z r) ?_
  intro G h hL hR hret
  refine k_drop (lv' := [(0, .ref 0), (1, .int p1), (2, .int p2), (3, .int p3), (4, .int p4), (5, .int p5)]) [0, 1, 2, 3, 4, 5] rfl ?_
  unfold f_X10_isClash at hf
  refine k_iload (pc := 0) h dX10_isClash_0 4 rfl ?_
  obtain ⟨v1, hj, hf⟩ := ob_s hf
  have kj2 : sh_K G shM 32 [(0, .ref 0), (2, .int p2), (3, .int p3), (5, .int p5)] [.int v1] s0 := by
    refine k_istore (pc := 32) h dX10_isClash_32 (nk hL (by decide)) (lv' := [(0, .ref 0), (2, .int p2), (3, .int p3), (5, .int p5), (6, .int v1)]) rfl ?_
    refine k_iload (pc := 34) h dX10_isClash_34 4 rfl ?_
    obtain ⟨v5, hj, hf⟩ := ob_s hf
    have kj36 : sh_K G shM 81 [] [.int v5] s0 := by
      obtain ⟨g11, hf⟩ := gu_s hf
      obtain rfl := so1 hf
      exact hret 81 _ dX10_isClash_81 g11
    clear hf
    have hf := hj
    clear hj
    refine k_if_eq (pc := 36) (tgt := 80) h dX10_isClash_36 rfl (fun hc => ?_) (fun hc => ?_)
    · have hf := it_p hc hf
      refine k_iconst (pc := 80) h dX10_isClash_80 kc_iconst_0 ?_
      obtain rfl := so1 hf
      exact k_drop [] rfl kj36
    · have hf := it_n hc hf
      refine k_iload_n (pc := 39) h dX10_isClash_39 rfl 2 rfl ?_
      refine k_aload_n (pc := 40) h dX10_isClash_40 rfl 0 rfl ?_
      refine k_getR (pc := 41) h fl_RX10_16 rfl rfl dX10_isClash_41 ?_
      refine k_iload_n (pc := 44) h dX10_isClash_44 rfl 1 rfl ?_
      obtain ⟨g6, hf⟩ := gu_s hf
      refine k_iald (pc := 45) (n := 24) h rfl g6 dX10_isClash_45 ?_
      obtain ⟨v7, cv7, hf⟩ := ob_s hf
      refine k_callSp (pc := 46) h cs_RX10_227 (c_X10_overlap p3 (s0 3 (ix p2)) _ v7 cv7) rfl rfl (st1 := [.int v7]) rfl ⟨rfl, rfl⟩ (rk hR (Nat.le_of_ble_eq_true rfl) (Nat.le_of_ble_eq_true rfl)) (Nat.le_of_ble_eq_true rfl) dX10_isClash_46 ?_
      refine k_if_eq (pc := 49) (tgt := 80) h dX10_isClash_49 rfl (fun hc => ?_) (fun hc => ?_)
      · have hf := it_p hc hf
        refine k_iconst (pc := 80) h dX10_isClash_80 kc_iconst_0 ?_
        obtain rfl := so1 hf
        exact k_drop [] rfl kj36
      · have hf := it_n hc hf
        refine k_iload (pc := 52) h dX10_isClash_52 3 rfl ?_
        refine k_if_eq (pc := 54) (tgt := 76) h dX10_isClash_54 rfl (fun hc => ?_) (fun hc => ?_)
        · have hf := it_p hc hf
          refine k_iconst (pc := 76) h dX10_isClash_76 kc_iconst_1 ?_
          refine k_goto (pc := 77) (tgt := 81) h dX10_isClash_77 rfl ?_
          obtain rfl := so1 hf
          exact k_drop [] rfl kj36
        · have hf := it_n hc hf
          refine k_iload_n (pc := 57) h dX10_isClash_57 rfl 2 rfl ?_
          obtain ⟨v8, cv8, hf⟩ := ob_s hf
          refine k_callSp (pc := 58) h cs_RX10_134 (c_X10_through p3 _ v8 cv8) rfl rfl (st1 := [.int v8]) rfl ⟨rfl, rfl⟩ (rk hR (Nat.le_of_ble_eq_true rfl) (Nat.le_of_ble_eq_true rfl)) (Nat.le_of_ble_eq_true rfl) dX10_isClash_58 ?_
          refine k_if_ne (pc := 61) (tgt := 76) h dX10_isClash_61 rfl (fun hc => ?_) (fun hc => ?_)
          · have hf := it_n hc hf
            refine k_iconst (pc := 76) h dX10_isClash_76 kc_iconst_1 ?_
            refine k_goto (pc := 77) (tgt := 81) h dX10_isClash_77 rfl ?_
            obtain rfl := so1 hf
            exact k_drop [] rfl kj36
          · have hf := it_p hc hf
            refine k_aload_n (pc := 64) h dX10_isClash_64 rfl 0 rfl ?_
            refine k_getR (pc := 65) h fl_RX10_16 rfl rfl dX10_isClash_65 ?_
            refine k_iload_n (pc := 68) h dX10_isClash_68 rfl 1 rfl ?_
            obtain ⟨g9, hf⟩ := gu_s hf
            refine k_iald (pc := 69) (n := 24) h rfl g9 dX10_isClash_69 ?_
            obtain ⟨v10, cv10, hf⟩ := ob_s hf
            refine k_callSp (pc := 70) h cs_RX10_134 (c_X10_through (s0 3 (ix p2)) _ v10 cv10) rfl rfl (st1 := [.int v10]) rfl ⟨rfl, rfl⟩ (rk hR (Nat.le_of_ble_eq_true rfl) (Nat.le_of_ble_eq_true rfl)) (Nat.le_of_ble_eq_true rfl) dX10_isClash_70 ?_
            refine k_if_ne (pc := 73) (tgt := 80) h dX10_isClash_73 rfl (fun hc => ?_) (fun hc => ?_)
            · have hf := it_n hc hf
              refine k_iconst (pc := 80) h dX10_isClash_80 kc_iconst_0 ?_
              obtain rfl := so1 hf
              exact k_drop [] rfl kj36
            · have hf := it_p hc hf
              refine k_iconst (pc := 76) h dX10_isClash_76 kc_iconst_1 ?_
              refine k_goto (pc := 77) (tgt := 81) h dX10_isClash_77 rfl ?_
              obtain rfl := so1 hf
              exact k_drop [] rfl kj36
  clear hf
  have hf := hj
  clear hj
  refine k_if_ne (pc := 2) (tgt := 27) h dX10_isClash_2 rfl (fun hc => ?_) (fun hc => ?_)
  · have hf := it_n hc hf
    refine k_iconst (pc := 27) h dX10_isClash_27 kc_iconst_1 ?_
    refine k_goto (pc := 28) (tgt := 32) h dX10_isClash_28 rfl ?_
    obtain rfl := so1 hf
    exact k_drop [0, 2, 3, 5] rfl kj2
  · have hf := it_p hc hf
    refine k_aload_n (pc := 5) h dX10_isClash_5 rfl 0 rfl ?_
    refine k_iload_n (pc := 6) h dX10_isClash_6 rfl 2 rfl ?_
    obtain ⟨v2, cv2, hf⟩ := ob_s hf
    refine k_callV0 (pc := 7) h cv_RX10_174 (c_X10_kind p2 s0 v2 cv2) rfl rfl rfl (st1 := [.int v2]) rfl ⟨rfl, rfl⟩ (rk hR (Nat.le_of_ble_eq_true rfl) (Nat.le_of_ble_eq_true rfl)) (Nat.le_of_ble_eq_true rfl) dX10_isClash_7 ?_
    refine k_iconst (pc := 10) h dX10_isClash_10 kc_iconst_4 ?_
    refine k_icmp_eq (pc := 11) (tgt := 27) h dX10_isClash_11 rfl (fun hc => ?_) (fun hc => ?_)
    · have hf := it_p hc hf
      refine k_iconst (pc := 27) h dX10_isClash_27 kc_iconst_1 ?_
      refine k_goto (pc := 28) (tgt := 32) h dX10_isClash_28 rfl ?_
      obtain rfl := so1 hf
      exact k_drop [0, 2, 3, 5] rfl kj2
    · have hf := it_n hc hf
      refine k_aload_n (pc := 14) h dX10_isClash_14 rfl 0 rfl ?_
      refine k_getR (pc := 15) h fl_RX10_34 rfl rfl dX10_isClash_15 ?_
      refine k_iload_n (pc := 18) h dX10_isClash_18 rfl 1 rfl ?_
      obtain ⟨g3, hf⟩ := gu_s hf
      refine k_iald (pc := 19) (n := 24) h rfl g3 dX10_isClash_19 ?_
      refine k_iload_n (pc := 20) h dX10_isClash_20 rfl 2 rfl ?_
      obtain ⟨v4, cv4, hf⟩ := ob_s hf
      refine k_callSp (pc := 21) h cs_RX10_89 (c_X10_isIn (s0 9 (ix p1)) p2 _ v4 cv4) rfl rfl (st1 := [.int v4]) rfl ⟨rfl, rfl⟩ (rk hR (Nat.le_of_ble_eq_true rfl) (Nat.le_of_ble_eq_true rfl)) (Nat.le_of_ble_eq_true rfl) dX10_isClash_21 ?_
      refine k_if_eq (pc := 24) (tgt := 31) h dX10_isClash_24 rfl (fun hc => ?_) (fun hc => ?_)
      · have hf := it_p hc hf
        refine k_iconst (pc := 31) h dX10_isClash_31 kc_iconst_0 ?_
        obtain rfl := so1 hf
        exact k_drop [0, 2, 3, 5] rfl kj2
      · have hf := it_n hc hf
        refine k_iconst (pc := 27) h dX10_isClash_27 kc_iconst_1 ?_
        refine k_goto (pc := 28) (tgt := 32) h dX10_isClash_28 rfl ?_
        obtain rfl := so1 hf
        exact k_drop [0, 2, 3, 5] rfl kj2
theorem dX10_clashing_0 : decode cX10_clashing 0 = .ok (.iconst 0, 1) := by decide +kernel
theorem dX10_clashing_1 : decode cX10_clashing 1 = .ok (.istore 5, 2) := by decide +kernel
theorem dX10_clashing_3 : decode cX10_clashing 3 = .ok (.iconst 0, 1) := by decide +kernel
theorem dX10_clashing_4 : decode cX10_clashing 4 = .ok (.istore 6, 2) := by decide +kernel
theorem dX10_clashing_6 : decode cX10_clashing 6 = .ok (.iload 6, 2) := by decide +kernel
theorem dX10_clashing_8 : decode cX10_clashing 8 = .ok (.aload_n 0, 1) := by decide +kernel
theorem dX10_clashing_9 : decode cX10_clashing 9 = .ok (.getfield 101, 3) := by decide +kernel
theorem dX10_clashing_12 : decode cX10_clashing 12 = .ok (.if_icmp .ge 50, 3) := by decide +kernel
theorem dX10_clashing_15 : decode cX10_clashing 15 = .ok (.iload 5, 2) := by decide +kernel
theorem dX10_clashing_17 : decode cX10_clashing 17 = .ok (.aload_n 0, 1) := by decide +kernel
theorem dX10_clashing_18 : decode cX10_clashing 18 = .ok (.getfield 31, 3) := by decide +kernel
theorem dX10_clashing_21 : decode cX10_clashing 21 = .ok (.iload_n 1, 1) := by decide +kernel
theorem dX10_clashing_22 : decode cX10_clashing 22 = .ok (.iaload, 1) := by decide +kernel
theorem dX10_clashing_23 : decode cX10_clashing 23 = .ok (.iload 6, 2) := by decide +kernel
theorem dX10_clashing_25 : decode cX10_clashing 25 = .ok (.invokestatic 89, 3) := by decide +kernel
theorem dX10_clashing_28 : decode cX10_clashing 28 = .ok (.ifCond .eq 24, 3) := by decide +kernel
theorem dX10_clashing_31 : decode cX10_clashing 31 = .ok (.aload_n 0, 1) := by decide +kernel
theorem dX10_clashing_32 : decode cX10_clashing 32 = .ok (.iload_n 1, 1) := by decide +kernel
theorem dX10_clashing_33 : decode cX10_clashing 33 = .ok (.iload 6, 2) := by decide +kernel
theorem dX10_clashing_35 : decode cX10_clashing 35 = .ok (.iload_n 2, 1) := by decide +kernel
theorem dX10_clashing_36 : decode cX10_clashing 36 = .ok (.iload_n 3, 1) := by decide +kernel
theorem dX10_clashing_37 : decode cX10_clashing 37 = .ok (.iload 4, 2) := by decide +kernel
theorem dX10_clashing_39 : decode cX10_clashing 39 = .ok (.invokevirtual 230, 3) := by decide +kernel
theorem dX10_clashing_42 : decode cX10_clashing 42 = .ok (.ifCond .eq 10, 3) := by decide +kernel
theorem dX10_clashing_45 : decode cX10_clashing 45 = .ok (.iconst 1, 1) := by decide +kernel
theorem dX10_clashing_46 : decode cX10_clashing 46 = .ok (.iload 6, 2) := by decide +kernel
theorem dX10_clashing_48 : decode cX10_clashing 48 = .ok (.ishl, 1) := by decide +kernel
theorem dX10_clashing_49 : decode cX10_clashing 49 = .ok (.goto 4, 3) := by decide +kernel
theorem dX10_clashing_52 : decode cX10_clashing 52 = .ok (.iconst 0, 1) := by decide +kernel
theorem dX10_clashing_53 : decode cX10_clashing 53 = .ok (.ior, 1) := by decide +kernel
theorem dX10_clashing_54 : decode cX10_clashing 54 = .ok (.istore 5, 2) := by decide +kernel
theorem dX10_clashing_56 : decode cX10_clashing 56 = .ok (.iinc 6 1, 3) := by decide +kernel
theorem dX10_clashing_59 : decode cX10_clashing 59 = .ok (.goto (-53), 3) := by decide +kernel
theorem dX10_clashing_62 : decode cX10_clashing 62 = .ok (.iload 5, 2) := by decide +kernel
theorem dX10_clashing_64 : decode cX10_clashing 64 = .ok (.ireturn, 1) := by decide +kernel
def f_X10_clashing_L6 (p1 : Int32) (p2 : Int32) (p3 : Int32) (p4 : Int32) (s0 : sh_S) (v1 : Int32) (v2 : Int32) : Option ((Int32 × Int32) ⊕ (Int32)) := (if (s0 0 0) ≤ v2 then some (.inr v1) else gu (inb p1 24) (ob (f_X10_isIn (s0 8 (ix p1)) v2) (fun v5 => ob (if v5 = 0 then some (0 : Int32) else ob (f_X10_isClash p1 v2 p2 p3 p4 s0) (fun v7 => (if v7 = 0 then some (0 : Int32) else some ((1 : Int32) <<< (v2 &&& 31))))) (fun v6 => lb ((v1 ||| v6)) (fun v8 => lb (v2 + (1 : Int32)) (fun v9 => some (.inl (v8, v9))))))))
def f_X10_clashing (p1 : Int32) (p2 : Int32) (p3 : Int32) (p4 : Int32) (s0 : sh_S) : Option (Int32) := ob (lp (fun q => f_X10_clashing_L6 p1 p2 p3 p4 s0 q.1 q.2) FU ((0 : Int32), (0 : Int32))) (fun v3 => some v3)
set_option maxRecDepth 100000 in
set_option maxHeartbeats 4000000 in
theorem c_X10_clashing (p1 : Int32) (p2 : Int32) (p3 : Int32) (p4 : Int32) (s0 : sh_S) (r : Int32) (hf : f_X10_clashing p1 p2 p3 p4 s0 = some r) : Ctr yX10_clashing cX10_clashing 7 (some .int) ({ frames := 3, cells := 0, slots := 0, locals := 68 } : Room) shM [.ref 0, .int p1, .int p2, .int p3, .int p4] s0 (some (.int r)) s0 := by
  refine Ctr.mk (ri := .ireturn) (by decide) (Nat.le_of_ble_eq_true rfl) (Rt_i r) ?_
  intro G h hL hR hret
  refine k_drop (lv' := [(0, .ref 0), (1, .int p1), (2, .int p2), (3, .int p3), (4, .int p4)]) [0, 1, 2, 3, 4] rfl ?_
  unfold f_X10_clashing at hf
  refine k_iconst (pc := 0) h dX10_clashing_0 kc_iconst_0 ?_
  refine k_istore (pc := 1) h dX10_clashing_1 (nk hL (by decide)) (lv' := [(0, .ref 0), (1, .int p1), (2, .int p2), (3, .int p3), (4, .int p4), (5, .int (0 : Int32))]) rfl ?_
  refine k_iconst (pc := 3) h dX10_clashing_3 kc_iconst_0 ?_
  refine k_istore (pc := 4) h dX10_clashing_4 (nk hL (by decide)) (lv' := [(0, .ref 0), (1, .int p1), (2, .int p2), (3, .int p3), (4, .int p4), (5, .int (0 : Int32)), (6, .int (0 : Int32))]) rfl ?_
  obtain ⟨v3, hl, hf⟩ := ob_s hf
  refine k_drop (lv' := [(0, .ref 0), (1, .int p1), (2, .int p2), (3, .int p3), (4, .int p4), (5, .int (0 : Int32)), (6, .int (0 : Int32))]) [0, 1, 2, 3, 4, 5, 6] rfl ?_
  refine lp_s (P := (fun q : Int32 × Int32 => sh_K G shM 6 [(0, .ref 0), (1, .int p1), (2, .int p2), (3, .int p3), (4, .int p4), (5, .int q.1), (6, .int q.2)] [] s0)) (Q := (fun q : Int32 => sh_K G shM 62 [(5, .int q)] [] s0)) (s := ((0 : Int32), (0 : Int32))) ?_ hl ?_
  · clear hf hl
    intro q rr hf kc6
    obtain ⟨v1, v2⟩ := q
    have hf : f_X10_clashing_L6 p1 p2 p3 p4 s0 v1 v2 = some rr := hf
    unfold f_X10_clashing_L6 at hf
    refine k_iload (pc := 6) h dX10_clashing_6 6 rfl ?_
    refine k_aload_n (pc := 8) h dX10_clashing_8 rfl 0 rfl ?_
    refine k_getI (pc := 9) h fl_RX10_101 rfl rfl dX10_clashing_9 ?_
    refine k_icmp_ge (pc := 12) (tgt := 62) h dX10_clashing_12 rfl (fun hc => ?_) (fun hc => ?_)
    · have hf := it_p hc hf
      obtain rfl := so1 hf
      exact k_drop [5] rfl kc6
    · have hf := it_n hc hf
      refine k_iload (pc := 15) h dX10_clashing_15 5 rfl ?_
      refine k_aload_n (pc := 17) h dX10_clashing_17 rfl 0 rfl ?_
      refine k_getR (pc := 18) h fl_RX10_31 rfl rfl dX10_clashing_18 ?_
      refine k_iload_n (pc := 21) h dX10_clashing_21 rfl 1 rfl ?_
      obtain ⟨g4, hf⟩ := gu_s hf
      refine k_iald (pc := 22) (n := 24) h rfl g4 dX10_clashing_22 ?_
      refine k_iload (pc := 23) h dX10_clashing_23 6 rfl ?_
      obtain ⟨v5, cv5, hf⟩ := ob_s hf
      refine k_callSp (pc := 25) h cs_RX10_89 (c_X10_isIn (s0 8 (ix p1)) v2 _ v5 cv5) rfl rfl (st1 := [.int v5, .int v1]) rfl ⟨rfl, rfl⟩ (rk hR (Nat.le_of_ble_eq_true rfl) (Nat.le_of_ble_eq_true rfl)) (Nat.le_of_ble_eq_true rfl) dX10_clashing_25 ?_
      obtain ⟨v6, hj, hf⟩ := ob_s hf
      have kj28 : sh_K G shM 53 [(0, .ref 0), (1, .int p1), (2, .int p2), (3, .int p3), (4, .int p4), (6, .int v2)] [.int v6, .int v1] s0 := by
        refine k_ior (pc := 53) h dX10_clashing_53 ?_
        obtain ⟨v8, ev8, hf⟩ := lb_s hf
        refine k_top ev8 ?_
        refine k_istore (pc := 54) h dX10_clashing_54 (nk hL (by decide)) (lv' := [(0, .ref 0), (1, .int p1), (2, .int p2), (3, .int p3), (4, .int p4), (5, .int v8), (6, .int v2)]) rfl ?_
        obtain ⟨v9, ev9, hf⟩ := lb_s hf
        refine k_iinc (pc := 56) h dX10_clashing_56 6 rfl ((congrArg (_ + ·) kc_iconst_1).trans ev9.symm) (nk hL (by decide)) (lv' := [(0, .ref 0), (1, .int p1), (2, .int p2), (3, .int p3), (4, .int p4), (5, .int v8), (6, .int v9)]) rfl ?_
        refine k_goto (pc := 59) (tgt := 6) h dX10_clashing_59 rfl ?_
        obtain rfl := so1 hf
        exact k_drop [0, 1, 2, 3, 4, 5, 6] rfl kc6
      clear hf
      have hf := hj
      clear hj
      refine k_if_eq (pc := 28) (tgt := 52) h dX10_clashing_28 rfl (fun hc => ?_) (fun hc => ?_)
      · have hf := it_p hc hf
        refine k_iconst (pc := 52) h dX10_clashing_52 kc_iconst_0 ?_
        obtain rfl := so1 hf
        exact k_drop [0, 1, 2, 3, 4, 6] rfl kj28
      · have hf := it_n hc hf
        refine k_aload_n (pc := 31) h dX10_clashing_31 rfl 0 rfl ?_
        refine k_iload_n (pc := 32) h dX10_clashing_32 rfl 1 rfl ?_
        refine k_iload (pc := 33) h dX10_clashing_33 6 rfl ?_
        refine k_iload_n (pc := 35) h dX10_clashing_35 rfl 2 rfl ?_
        refine k_iload_n (pc := 36) h dX10_clashing_36 rfl 3 rfl ?_
        refine k_iload (pc := 37) h dX10_clashing_37 4 rfl ?_
        obtain ⟨v7, cv7, hf⟩ := ob_s hf
        refine k_callV0 (pc := 39) h cv_RX10_230 (c_X10_isClash p1 v2 p2 p3 p4 s0 v7 cv7) rfl rfl rfl (st1 := [.int v7, .int v1]) rfl ⟨rfl, rfl⟩ (rk hR (Nat.le_of_ble_eq_true rfl) (Nat.le_of_ble_eq_true rfl)) (Nat.le_of_ble_eq_true rfl) dX10_clashing_39 ?_
        refine k_if_eq (pc := 42) (tgt := 52) h dX10_clashing_42 rfl (fun hc => ?_) (fun hc => ?_)
        · have hf := it_p hc hf
          refine k_iconst (pc := 52) h dX10_clashing_52 kc_iconst_0 ?_
          obtain rfl := so1 hf
          exact k_drop [0, 1, 2, 3, 4, 6] rfl kj28
        · have hf := it_n hc hf
          refine k_iconst (pc := 45) h dX10_clashing_45 kc_iconst_1 ?_
          refine k_iload (pc := 46) h dX10_clashing_46 6 rfl ?_
          refine k_ishl (pc := 48) h dX10_clashing_48 ?_
          refine k_goto (pc := 49) (tgt := 53) h dX10_clashing_49 rfl ?_
          obtain rfl := so1 hf
          exact k_drop [0, 1, 2, 3, 4, 6] rfl kj28
  · refine k_iload (pc := 62) h dX10_clashing_62 0 rfl ?_
    obtain rfl := so1 hf
    exact hret 64 _ dX10_clashing_64 trivial
theorem dX10_clashes_0 : decode cX10_clashes 0 = .ok (.aload_n 0, 1) := by decide +kernel
theorem dX10_clashes_1 : decode cX10_clashes 1 = .ok (.getfield 16, 3) := by decide +kernel
theorem dX10_clashes_4 : decode cX10_clashes 4 = .ok (.iload_n 1, 1) := by decide +kernel
theorem dX10_clashes_5 : decode cX10_clashes 5 = .ok (.iaload, 1) := by decide +kernel
theorem dX10_clashes_6 : decode cX10_clashes 6 = .ok (.istore_n 2, 1) := by decide +kernel
theorem dX10_clashes_7 : decode cX10_clashes 7 = .ok (.aload_n 0, 1) := by decide +kernel
theorem dX10_clashes_8 : decode cX10_clashes 8 = .ok (.iload_n 1, 1) := by decide +kernel
theorem dX10_clashes_9 : decode cX10_clashes 9 = .ok (.invokevirtual 174, 3) := by decide +kernel
theorem dX10_clashes_12 : decode cX10_clashes 12 = .ok (.istore_n 3, 1) := by decide +kernel
theorem dX10_clashes_13 : decode cX10_clashes 13 = .ok (.iconst 0, 1) := by decide +kernel
theorem dX10_clashes_14 : decode cX10_clashes 14 = .ok (.istore 4, 2) := by decide +kernel
theorem dX10_clashes_16 : decode cX10_clashes 16 = .ok (.iload_n 3, 1) := by decide +kernel
theorem dX10_clashes_17 : decode cX10_clashes 17 = .ok (.iconst 1, 1) := by decide +kernel
theorem dX10_clashes_18 : decode cX10_clashes 18 = .ok (.if_icmp .eq 13, 3) := by decide +kernel
theorem dX10_clashes_21 : decode cX10_clashes 21 = .ok (.iload_n 3, 1) := by decide +kernel
theorem dX10_clashes_22 : decode cX10_clashes 22 = .ok (.iconst 3, 1) := by decide +kernel
theorem dX10_clashes_23 : decode cX10_clashes 23 = .ok (.if_icmp .eq 8, 3) := by decide +kernel
theorem dX10_clashes_26 : decode cX10_clashes 26 = .ok (.iload_n 3, 1) := by decide +kernel
theorem dX10_clashes_27 : decode cX10_clashes 27 = .ok (.iconst 5, 1) := by decide +kernel
theorem dX10_clashes_28 : decode cX10_clashes 28 = .ok (.if_icmp .ne 16, 3) := by decide +kernel
theorem dX10_clashes_31 : decode cX10_clashes 31 = .ok (.iload 4, 2) := by decide +kernel
theorem dX10_clashes_33 : decode cX10_clashes 33 = .ok (.aload_n 0, 1) := by decide +kernel
theorem dX10_clashes_34 : decode cX10_clashes 34 = .ok (.iload_n 1, 1) := by decide +kernel
theorem dX10_clashes_35 : decode cX10_clashes 35 = .ok (.iload_n 2, 1) := by decide +kernel
theorem dX10_clashes_36 : decode cX10_clashes 36 = .ok (.iconst 0, 1) := by decide +kernel
theorem dX10_clashes_37 : decode cX10_clashes 37 = .ok (.iconst 0, 1) := by decide +kernel
theorem dX10_clashes_38 : decode cX10_clashes 38 = .ok (.invokevirtual 234, 3) := by decide +kernel
theorem dX10_clashes_41 : decode cX10_clashes 41 = .ok (.ior, 1) := by decide +kernel
theorem dX10_clashes_42 : decode cX10_clashes 42 = .ok (.istore 4, 2) := by decide +kernel
theorem dX10_clashes_44 : decode cX10_clashes 44 = .ok (.iload_n 3, 1) := by decide +kernel
theorem dX10_clashes_45 : decode cX10_clashes 45 = .ok (.iconst 5, 1) := by decide +kernel
theorem dX10_clashes_46 : decode cX10_clashes 46 = .ok (.if_icmp .ne 20, 3) := by decide +kernel
theorem dX10_clashes_49 : decode cX10_clashes 49 = .ok (.iload 4, 2) := by decide +kernel
theorem dX10_clashes_51 : decode cX10_clashes 51 = .ok (.aload_n 0, 1) := by decide +kernel
theorem dX10_clashes_52 : decode cX10_clashes 52 = .ok (.iload_n 1, 1) := by decide +kernel
theorem dX10_clashes_53 : decode cX10_clashes 53 = .ok (.iload_n 2, 1) := by decide +kernel
theorem dX10_clashes_54 : decode cX10_clashes 54 = .ok (.iconst 1, 1) := by decide +kernel
theorem dX10_clashes_55 : decode cX10_clashes 55 = .ok (.iconst 0, 1) := by decide +kernel
theorem dX10_clashes_56 : decode cX10_clashes 56 = .ok (.invokevirtual 234, 3) := by decide +kernel
theorem dX10_clashes_59 : decode cX10_clashes 59 = .ok (.iconst 1, 1) := by decide +kernel
theorem dX10_clashes_60 : decode cX10_clashes 60 = .ok (.iload_n 1, 1) := by decide +kernel
theorem dX10_clashes_61 : decode cX10_clashes 61 = .ok (.ishl, 1) := by decide +kernel
theorem dX10_clashes_62 : decode cX10_clashes 62 = .ok (.iand, 1) := by decide +kernel
theorem dX10_clashes_63 : decode cX10_clashes 63 = .ok (.ior, 1) := by decide +kernel
theorem dX10_clashes_64 : decode cX10_clashes 64 = .ok (.istore 4, 2) := by decide +kernel
theorem dX10_clashes_66 : decode cX10_clashes 66 = .ok (.iload_n 3, 1) := by decide +kernel
theorem dX10_clashes_67 : decode cX10_clashes 67 = .ok (.iconst 2, 1) := by decide +kernel
theorem dX10_clashes_68 : decode cX10_clashes 68 = .ok (.if_icmp .eq 8, 3) := by decide +kernel
theorem dX10_clashes_71 : decode cX10_clashes 71 = .ok (.iload_n 3, 1) := by decide +kernel
theorem dX10_clashes_72 : decode cX10_clashes 72 = .ok (.iconst 4, 1) := by decide +kernel
theorem dX10_clashes_73 : decode cX10_clashes 73 = .ok (.if_icmp .ne 25, 3) := by decide +kernel
theorem dX10_clashes_76 : decode cX10_clashes 76 = .ok (.iload 4, 2) := by decide +kernel
theorem dX10_clashes_78 : decode cX10_clashes 78 = .ok (.aload_n 0, 1) := by decide +kernel
theorem dX10_clashes_79 : decode cX10_clashes 79 = .ok (.iload_n 1, 1) := by decide +kernel
theorem dX10_clashes_80 : decode cX10_clashes 80 = .ok (.iload_n 2, 1) := by decide +kernel
theorem dX10_clashes_81 : decode cX10_clashes 81 = .ok (.iconst 1, 1) := by decide +kernel
theorem dX10_clashes_82 : decode cX10_clashes 82 = .ok (.iload_n 3, 1) := by decide +kernel
theorem dX10_clashes_83 : decode cX10_clashes 83 = .ok (.iconst 2, 1) := by decide +kernel
theorem dX10_clashes_84 : decode cX10_clashes 84 = .ok (.if_icmp .ne 7, 3) := by decide +kernel
theorem dX10_clashes_87 : decode cX10_clashes 87 = .ok (.iconst 1, 1) := by decide +kernel
theorem dX10_clashes_88 : decode cX10_clashes 88 = .ok (.goto 4, 3) := by decide +kernel
theorem dX10_clashes_91 : decode cX10_clashes 91 = .ok (.iconst 0, 1) := by decide +kernel
theorem dX10_clashes_92 : decode cX10_clashes 92 = .ok (.invokevirtual 234, 3) := by decide +kernel
theorem dX10_clashes_95 : decode cX10_clashes 95 = .ok (.ior, 1) := by decide +kernel
theorem dX10_clashes_96 : decode cX10_clashes 96 = .ok (.istore 4, 2) := by decide +kernel
theorem dX10_clashes_98 : decode cX10_clashes 98 = .ok (.iload_n 3, 1) := by decide +kernel
theorem dX10_clashes_99 : decode cX10_clashes 99 = .ok (.bipush 6, 2) := by decide +kernel
theorem dX10_clashes_101 : decode cX10_clashes 101 = .ok (.if_icmp .ne 22, 3) := by decide +kernel
theorem dX10_clashes_104 : decode cX10_clashes 104 = .ok (.iload 4, 2) := by decide +kernel
theorem dX10_clashes_106 : decode cX10_clashes 106 = .ok (.aload_n 0, 1) := by decide +kernel
theorem dX10_clashes_107 : decode cX10_clashes 107 = .ok (.iload_n 1, 1) := by decide +kernel
theorem dX10_clashes_108 : decode cX10_clashes 108 = .ok (.bipush 6, 2) := by decide +kernel
theorem dX10_clashes_110 : decode cX10_clashes 110 = .ok (.iload_n 2, 1) := by decide +kernel
theorem dX10_clashes_111 : decode cX10_clashes 111 = .ok (.invokestatic 128, 3) := by decide +kernel
theorem dX10_clashes_114 : decode cX10_clashes 114 = .ok (.imul, 1) := by decide +kernel
theorem dX10_clashes_115 : decode cX10_clashes 115 = .ok (.iconst 1, 1) := by decide +kernel
theorem dX10_clashes_116 : decode cX10_clashes 116 = .ok (.iconst 0, 1) := by decide +kernel
theorem dX10_clashes_117 : decode cX10_clashes 117 = .ok (.invokevirtual 234, 3) := by decide +kernel
theorem dX10_clashes_120 : decode cX10_clashes 120 = .ok (.ior, 1) := by decide +kernel
theorem dX10_clashes_121 : decode cX10_clashes 121 = .ok (.istore 4, 2) := by decide +kernel
theorem dX10_clashes_123 : decode cX10_clashes 123 = .ok (.iload_n 3, 1) := by decide +kernel
theorem dX10_clashes_124 : decode cX10_clashes 124 = .ok (.iconst 3, 1) := by decide +kernel
theorem dX10_clashes_125 : decode cX10_clashes 125 = .ok (.bipush 6, 2) := by decide +kernel
theorem dX10_clashes_127 : decode cX10_clashes 127 = .ok (.invokestatic 93, 3) := by decide +kernel
theorem dX10_clashes_130 : decode cX10_clashes 130 = .ok (.ifCond .eq 24, 3) := by decide +kernel
theorem dX10_clashes_133 : decode cX10_clashes 133 = .ok (.iload 4, 2) := by decide +kernel
theorem dX10_clashes_135 : decode cX10_clashes 135 = .ok (.aload_n 0, 1) := by decide +kernel
theorem dX10_clashes_136 : decode cX10_clashes 136 = .ok (.iload_n 1, 1) := by decide +kernel
theorem dX10_clashes_137 : decode cX10_clashes 137 = .ok (.bipush 6, 2) := by decide +kernel
theorem dX10_clashes_139 : decode cX10_clashes 139 = .ok (.aload_n 0, 1) := by decide +kernel
theorem dX10_clashes_140 : decode cX10_clashes 140 = .ok (.getfield 13, 3) := by decide +kernel
theorem dX10_clashes_143 : decode cX10_clashes 143 = .ok (.iload_n 1, 1) := by decide +kernel
theorem dX10_clashes_144 : decode cX10_clashes 144 = .ok (.iaload, 1) := by decide +kernel
theorem dX10_clashes_145 : decode cX10_clashes 145 = .ok (.imul, 1) := by decide +kernel
theorem dX10_clashes_146 : decode cX10_clashes 146 = .ok (.iconst 1, 1) := by decide +kernel
theorem dX10_clashes_147 : decode cX10_clashes 147 = .ok (.iconst 1, 1) := by decide +kernel
theorem dX10_clashes_148 : decode cX10_clashes 148 = .ok (.invokevirtual 234, 3) := by decide +kernel
theorem dX10_clashes_151 : decode cX10_clashes 151 = .ok (.ior, 1) := by decide +kernel
theorem dX10_clashes_152 : decode cX10_clashes 152 = .ok (.istore 4, 2) := by decide +kernel
theorem dX10_clashes_154 : decode cX10_clashes 154 = .ok (.aload_n 0, 1) := by decide +kernel
theorem dX10_clashes_155 : decode cX10_clashes 155 = .ok (.iload_n 1, 1) := by decide +kernel
theorem dX10_clashes_156 : decode cX10_clashes 156 = .ok (.invokevirtual 171, 3) := by decide +kernel
theorem dX10_clashes_159 : decode cX10_clashes 159 = .ok (.istore 5, 2) := by decide +kernel
theorem dX10_clashes_161 : decode cX10_clashes 161 = .ok (.iconst 0, 1) := by decide +kernel
theorem dX10_clashes_162 : decode cX10_clashes 162 = .ok (.istore 6, 2) := by decide +kernel
theorem dX10_clashes_164 : decode cX10_clashes 164 = .ok (.iload 6, 2) := by decide +kernel
theorem dX10_clashes_166 : decode cX10_clashes 166 = .ok (.aload_n 0, 1) := by decide +kernel
theorem dX10_clashes_167 : decode cX10_clashes 167 = .ok (.getfield 101, 3) := by decide +kernel
theorem dX10_clashes_170 : decode cX10_clashes 170 = .ok (.if_icmp .ge 99, 3) := by decide +kernel
theorem dX10_clashes_173 : decode cX10_clashes 173 = .ok (.iload 5, 2) := by decide +kernel
theorem dX10_clashes_175 : decode cX10_clashes 175 = .ok (.iconst (-1), 1) := by decide +kernel
theorem dX10_clashes_176 : decode cX10_clashes 176 = .ok (.if_icmp .eq 93, 3) := by decide +kernel
theorem dX10_clashes_179 : decode cX10_clashes 179 = .ok (.aload_n 0, 1) := by decide +kernel
theorem dX10_clashes_180 : decode cX10_clashes 180 = .ok (.getfield 149, 3) := by decide +kernel
theorem dX10_clashes_183 : decode cX10_clashes 183 = .ok (.iload 6, 2) := by decide +kernel
theorem dX10_clashes_185 : decode cX10_clashes 185 = .ok (.invokestatic 89, 3) := by decide +kernel
theorem dX10_clashes_188 : decode cX10_clashes 188 = .ok (.ifCond .eq 37, 3) := by decide +kernel
theorem dX10_clashes_191 : decode cX10_clashes 191 = .ok (.aload_n 0, 1) := by decide +kernel
theorem dX10_clashes_192 : decode cX10_clashes 192 = .ok (.iload 6, 2) := by decide +kernel
theorem dX10_clashes_194 : decode cX10_clashes 194 = .ok (.invokevirtual 174, 3) := by decide +kernel
theorem dX10_clashes_197 : decode cX10_clashes 197 = .ok (.iconst 5, 1) := by decide +kernel
theorem dX10_clashes_198 : decode cX10_clashes 198 = .ok (.if_icmp .ne 27, 3) := by decide +kernel
theorem dX10_clashes_201 : decode cX10_clashes 201 = .ok (.aload_n 0, 1) := by decide +kernel
theorem dX10_clashes_202 : decode cX10_clashes 202 = .ok (.getfield 28, 3) := by decide +kernel
theorem dX10_clashes_205 : decode cX10_clashes 205 = .ok (.bipush 8, 2) := by decide +kernel
theorem dX10_clashes_207 : decode cX10_clashes 207 = .ok (.iload_n 1, 1) := by decide +kernel
theorem dX10_clashes_208 : decode cX10_clashes 208 = .ok (.imul, 1) := by decide +kernel
theorem dX10_clashes_209 : decode cX10_clashes 209 = .ok (.iload 5, 2) := by decide +kernel
theorem dX10_clashes_211 : decode cX10_clashes 211 = .ok (.iadd, 1) := by decide +kernel
theorem dX10_clashes_212 : decode cX10_clashes 212 = .ok (.iaload, 1) := by decide +kernel
theorem dX10_clashes_213 : decode cX10_clashes 213 = .ok (.iload 6, 2) := by decide +kernel
theorem dX10_clashes_215 : decode cX10_clashes 215 = .ok (.invokestatic 89, 3) := by decide +kernel
theorem dX10_clashes_218 : decode cX10_clashes 218 = .ok (.ifCond .eq 7, 3) := by decide +kernel
theorem dX10_clashes_221 : decode cX10_clashes 221 = .ok (.iconst 1, 1) := by decide +kernel
theorem dX10_clashes_222 : decode cX10_clashes 222 = .ok (.goto 4, 3) := by decide +kernel
theorem dX10_clashes_225 : decode cX10_clashes 225 = .ok (.iconst 0, 1) := by decide +kernel
theorem dX10_clashes_226 : decode cX10_clashes 226 = .ok (.istore 7, 2) := by decide +kernel
theorem dX10_clashes_228 : decode cX10_clashes 228 = .ok (.iload 4, 2) := by decide +kernel
theorem dX10_clashes_230 : decode cX10_clashes 230 = .ok (.iload 7, 2) := by decide +kernel
theorem dX10_clashes_232 : decode cX10_clashes 232 = .ok (.ifCond .eq 27, 3) := by decide +kernel
theorem dX10_clashes_235 : decode cX10_clashes 235 = .ok (.aload_n 0, 1) := by decide +kernel
theorem dX10_clashes_236 : decode cX10_clashes 236 = .ok (.iload_n 1, 1) := by decide +kernel
theorem dX10_clashes_237 : decode cX10_clashes 237 = .ok (.aload_n 0, 1) := by decide +kernel
theorem dX10_clashes_238 : decode cX10_clashes 238 = .ok (.getfield 16, 3) := by decide +kernel
theorem dX10_clashes_241 : decode cX10_clashes 241 = .ok (.iload 6, 2) := by decide +kernel
theorem dX10_clashes_243 : decode cX10_clashes 243 = .ok (.iaload, 1) := by decide +kernel
theorem dX10_clashes_244 : decode cX10_clashes 244 = .ok (.iconst 1, 1) := by decide +kernel
theorem dX10_clashes_245 : decode cX10_clashes 245 = .ok (.iconst 0, 1) := by decide +kernel
theorem dX10_clashes_246 : decode cX10_clashes 246 = .ok (.invokevirtual 234, 3) := by decide +kernel
theorem dX10_clashes_249 : decode cX10_clashes 249 = .ok (.iconst 1, 1) := by decide +kernel
theorem dX10_clashes_250 : decode cX10_clashes 250 = .ok (.iload 6, 2) := by decide +kernel
theorem dX10_clashes_252 : decode cX10_clashes 252 = .ok (.ishl, 1) := by decide +kernel
theorem dX10_clashes_253 : decode cX10_clashes 253 = .ok (.iconst (-1), 1) := by decide +kernel
theorem dX10_clashes_254 : decode cX10_clashes 254 = .ok (.ixor, 1) := by decide +kernel
theorem dX10_clashes_255 : decode cX10_clashes 255 = .ok (.iand, 1) := by decide +kernel
theorem dX10_clashes_256 : decode cX10_clashes 256 = .ok (.goto 4, 3) := by decide +kernel
theorem dX10_clashes_259 : decode cX10_clashes 259 = .ok (.iconst 0, 1) := by decide +kernel
theorem dX10_clashes_260 : decode cX10_clashes 260 = .ok (.ior, 1) := by decide +kernel
theorem dX10_clashes_261 : decode cX10_clashes 261 = .ok (.istore 4, 2) := by decide +kernel
theorem dX10_clashes_263 : decode cX10_clashes 263 = .ok (.iinc 6 1, 3) := by decide +kernel
theorem dX10_clashes_266 : decode cX10_clashes 266 = .ok (.goto (-102), 3) := by decide +kernel
theorem dX10_clashes_269 : decode cX10_clashes 269 = .ok (.iload 4, 2) := by decide +kernel
theorem dX10_clashes_271 : decode cX10_clashes 271 = .ok (.ireturn, 1) := by decide +kernel
def f_X10_clashes_B31_1 (p1 : Int32) (s0 : sh_S) (v2 : Int32) : Option (Int32) := ob (f_X10_clashing p1 v2 (0 : Int32) (0 : Int32) s0) (fun v7 => lb (((0 : Int32) ||| v7)) (fun v8 => some v8))
def f_X10_clashes_L164 (p1 : Int32) (s0 : sh_S) (v28 : Int32) (v29 : Int32) (v30 : Int32) : Option ((Int32 × Int32) ⊕ (Int32)) := (if (s0 0 0) ≤ v30 then some (.inr v29) else (if v28 = (-1 : Int32) then some (.inr v29) else ob (f_X10_isIn (s0 0 6) v30) (fun v32 => ob (if v32 = 0 then some (0 : Int32) else ob (f_X10_kind v30 s0) (fun v34 => (if v34 = (5 : Int32) then gu (inb (((8 : Int32) * p1) + v28) 192) (ob (f_X10_isIn (s0 7 (ix (((8 : Int32) * p1) + v28))) v30) (fun v36 => (if v36 = 0 then some (0 : Int32) else some (1 : Int32)))) else some (0 : Int32)))) (fun v33 => ob (if v33 = 0 then some (0 : Int32) else gu (inb v30 24) (ob (f_X10_clashing p1 (s0 3 (ix v30)) (1 : Int32) (0 : Int32) s0) (fun v39 => some (v39 &&& (((1 : Int32) <<< (v30 &&& 31)) ^^^ (-1 : Int32)))))) (fun v37 => lb ((v29 ||| v37)) (fun v40 => lb (v30 + (1 : Int32)) (fun v41 => some (.inl (v40, v41)))))))))
def f_X10_clashes (p1 : Int32) (s0 : sh_S) : Option (Int32) := gu (inb p1 24) (lb ((s0 3 (ix p1))) (fun v2 => ob (f_X10_kind p1 s0) (fun v3 => ob (if v3 = (1 : Int32) then ob (f_X10_clashing p1 v2 (0 : Int32) (0 : Int32) s0) (fun v5 => lb (((0 : Int32) ||| v5)) (fun v6 => some v6)) else (if v3 = (3 : Int32) then f_X10_clashes_B31_1 p1 s0 v2 else (if v3 = (5 : Int32) then f_X10_clashes_B31_1 p1 s0 v2 else some (0 : Int32)))) (fun v4 => ob (if v3 = (5 : Int32) then ob (f_X10_clashing p1 v2 (1 : Int32) (0 : Int32) s0) (fun v10 => lb ((v4 ||| (v10 &&& ((1 : Int32) <<< (p1 &&& 31))))) (fun v11 => some v11)) else some v4) (fun v9 => ob (if v3 = (2 : Int32) then ob (if v3 = (2 : Int32) then some (1 : Int32) else some (0 : Int32)) (fun v13 => ob (f_X10_clashing p1 v2 (1 : Int32) v13 s0) (fun v14 => lb ((v9 ||| v14)) (fun v15 => some v15))) else (if v3 = (4 : Int32) then ob (if v3 = (2 : Int32) then some (1 : Int32) else some (0 : Int32)) (fun v16 => ob (f_X10_clashing p1 v2 (1 : Int32) v16 s0) (fun v17 => lb ((v9 ||| v17)) (fun v18 => some v18))) else some v9)) (fun v12 => ob (if v3 = (6 : Int32) then ob (f_X10_variable v2) (fun v20 => ob (f_X10_clashing p1 ((6 : Int32) * v20) (1 : Int32) (0 : Int32) s0) (fun v21 => lb ((v12 ||| v21)) (fun v22 => some v22))) else some v12) (fun v19 => ob (f_X10_in v3 (3 : Int32) (6 : Int32)) (fun v23 => ob (if v23 = 0 then some v19 else gu (inb p1 24) (ob (f_X10_clashing p1 ((6 : Int32) * (s0 2 (ix p1))) (1 : Int32) (1 : Int32) s0) (fun v26 => lb ((v19 ||| v26)) (fun v27 => some v27)))) (fun v24 => ob (f_X10_goesBy p1 s0) (fun v28 => ob (lp (fun q => f_X10_clashes_L164 p1 s0 v28 q.1 q.2) FU (v24, (0 : Int32))) (fun v31 => some v31)))))))))))
set_option maxRecDepth 100000 in
set_option maxHeartbeats 4000000 in
theorem c_X10_clashes (p1 : Int32) (s0 : sh_S) (r : Int32) (hf : f_X10_clashes p1 s0 = some r) : Ctr yX10_clashes cX10_clashes 8 (some .int) ({ frames := 4, cells := 0, slots := 0, locals := 94 } : Room) shM [.ref 0, .int p1] s0 (some (.int r)) s0 := by
  refine Ctr.mk (ri := .ireturn) (by decide) (Nat.le_of_ble_eq_true rfl) (Rt_i r) ?_
  intro G h hL hR hret
  refine k_drop (lv' := [(0, .ref 0), (1, .int p1)]) [0, 1] rfl ?_
  unfold f_X10_clashes at hf
  refine k_aload_n (pc := 0) h dX10_clashes_0 rfl 0 rfl ?_
  refine k_getR (pc := 1) h fl_RX10_16 rfl rfl dX10_clashes_1 ?_
  refine k_iload_n (pc := 4) h dX10_clashes_4 rfl 1 rfl ?_
  obtain ⟨g1, hf⟩ := gu_s hf
  refine k_iald (pc := 5) (n := 24) h rfl g1 dX10_clashes_5 ?_
  obtain ⟨v2, ev2, hf⟩ := lb_s hf
  refine k_top ev2 ?_
  refine k_istore_n (pc := 6) h dX10_clashes_6 rfl (nk hL (by decide)) (lv' := [(0, .ref 0), (1, .int p1), (2, .int v2)]) rfl ?_
  refine k_aload_n (pc := 7) h dX10_clashes_7 rfl 0 rfl ?_
  refine k_iload_n (pc := 8) h dX10_clashes_8 rfl 1 rfl ?_
  obtain ⟨v3, cv3, hf⟩ := ob_s hf
  refine k_callV0 (pc := 9) h cv_RX10_174 (c_X10_kind p1 s0 v3 cv3) rfl rfl rfl (st1 := [.int v3]) rfl ⟨rfl, rfl⟩ (rk hR (Nat.le_of_ble_eq_true rfl) (Nat.le_of_ble_eq_true rfl)) (Nat.le_of_ble_eq_true rfl) dX10_clashes_9 ?_
  refine k_istore_n (pc := 12) h dX10_clashes_12 rfl (nk hL (by decide)) (lv' := [(0, .ref 0), (1, .int p1), (2, .int v2), (3, .int v3)]) rfl ?_
  refine k_iconst (pc := 13) h dX10_clashes_13 kc_iconst_0 ?_
  refine k_istore (pc := 14) h dX10_clashes_14 (nk hL (by decide)) (lv' := [(0, .ref 0), (1, .int p1), (2, .int v2), (3, .int v3), (4, .int (0 : Int32))]) rfl ?_
  refine k_iload_n (pc := 16) h dX10_clashes_16 rfl 3 rfl ?_
  refine k_iconst (pc := 17) h dX10_clashes_17 kc_iconst_1 ?_
  obtain ⟨v4, hj, hf⟩ := ob_s hf
  have kj18 : sh_K G shM 44 [(0, .ref 0), (1, .int p1), (2, .int v2), (3, .int v3), (4, .int v4)] [] s0 := by
    refine k_iload_n (pc := 44) h dX10_clashes_44 rfl 3 rfl ?_
    refine k_iconst (pc := 45) h dX10_clashes_45 kc_iconst_5 ?_
    obtain ⟨v9, hj, hf⟩ := ob_s hf
    have kj46 : sh_K G shM 66 [(0, .ref 0), (1, .int p1), (2, .int v2), (3, .int v3), (4, .int v9)] [] s0 := by
      refine k_iload_n (pc := 66) h dX10_clashes_66 rfl 3 rfl ?_
      refine k_iconst (pc := 67) h dX10_clashes_67 kc_iconst_2 ?_
      obtain ⟨v12, hj, hf⟩ := ob_s hf
      have kj68 : sh_K G shM 98 [(0, .ref 0), (1, .int p1), (2, .int v2), (3, .int v3), (4, .int v12)] [] s0 := by
        refine k_iload_n (pc := 98) h dX10_clashes_98 rfl 3 rfl ?_
        refine k_bipush (pc := 99) h dX10_clashes_99 kc_bipush_6 ?_
        obtain ⟨v19, hj, hf⟩ := ob_s hf
        have kj101 : sh_K G shM 123 [(0, .ref 0), (1, .int p1), (3, .int v3), (4, .int v19)] [] s0 := by
          refine k_iload_n (pc := 123) h dX10_clashes_123 rfl 2 rfl ?_
          refine k_iconst (pc := 124) h dX10_clashes_124 kc_iconst_3 ?_
          refine k_bipush (pc := 125) h dX10_clashes_125 kc_bipush_6 ?_
          obtain ⟨v23, cv23, hf⟩ := ob_s hf
          refine k_callSp (pc := 127) h cs_RX10_93 (c_X10_in v3 (3 : Int32) (6 : Int32) _ v23 cv23) rfl rfl (st1 := [.int v23]) rfl ⟨rfl, rfl⟩ (rk hR (Nat.le_of_ble_eq_true rfl) (Nat.le_of_ble_eq_true rfl)) (Nat.le_of_ble_eq_true rfl) dX10_clashes_127 ?_
          obtain ⟨v24, hj, hf⟩ := ob_s hf
          have kj130 : sh_K G shM 154 [(0, .ref 0), (1, .int p1), (4, .int v24)] [] s0 := by
            refine k_aload_n (pc := 154) h dX10_clashes_154 rfl 0 rfl ?_
            refine k_iload_n (pc := 155) h dX10_clashes_155 rfl 1 rfl ?_
            obtain ⟨v28, cv28, hf⟩ := ob_s hf
            refine k_callV0 (pc := 156) h cv_RX10_171 (c_X10_goesBy p1 s0 v28 cv28) rfl rfl rfl (st1 := [.int v28]) rfl ⟨rfl, rfl⟩ (rk hR (Nat.le_of_ble_eq_true rfl) (Nat.le_of_ble_eq_true rfl)) (Nat.le_of_ble_eq_true rfl) dX10_clashes_156 ?_
            refine k_istore (pc := 159) h dX10_clashes_159 (nk hL (by decide)) (lv' := [(0, .ref 0), (1, .int p1), (4, .int v24), (5, .int v28)]) rfl ?_
            refine k_iconst (pc := 161) h dX10_clashes_161 kc_iconst_0 ?_
            refine k_istore (pc := 162) h dX10_clashes_162 (nk hL (by decide)) (lv' := [(0, .ref 0), (1, .int p1), (4, .int v24), (5, .int v28), (6, .int (0 : Int32))]) rfl ?_
            obtain ⟨v31, hl, hf⟩ := ob_s hf
            refine k_drop (lv' := [(0, .ref 0), (1, .int p1), (4, .int v24), (5, .int v28), (6, .int (0 : Int32))]) [0, 1, 2, 3, 4] rfl ?_
            refine lp_s (P := (fun q : Int32 × Int32 => sh_K G shM 164 [(0, .ref 0), (1, .int p1), (4, .int q.1), (5, .int v28), (6, .int q.2)] [] s0)) (Q := (fun q : Int32 => sh_K G shM 269 [(4, .int q)] [] s0)) (s := (v24, (0 : Int32))) ?_ hl ?_
            · clear hf hl
              intro q rr hf kc164
              obtain ⟨v29, v30⟩ := q
              have hf : f_X10_clashes_L164 p1 s0 v28 v29 v30 = some rr := hf
              unfold f_X10_clashes_L164 at hf
              refine k_iload (pc := 164) h dX10_clashes_164 4 rfl ?_
              refine k_aload_n (pc := 166) h dX10_clashes_166 rfl 0 rfl ?_
              refine k_getI (pc := 167) h fl_RX10_101 rfl rfl dX10_clashes_167 ?_
              refine k_icmp_ge (pc := 170) (tgt := 269) h dX10_clashes_170 rfl (fun hc => ?_) (fun hc => ?_)
              · have hf := it_p hc hf
                obtain rfl := so1 hf
                exact k_drop [2] rfl kc164
              · have hf := it_n hc hf
                refine k_iload (pc := 173) h dX10_clashes_173 3 rfl ?_
                refine k_iconst (pc := 175) h dX10_clashes_175 kc_iconst_m1 ?_
                refine k_icmp_eq (pc := 176) (tgt := 269) h dX10_clashes_176 rfl (fun hc => ?_) (fun hc => ?_)
                · have hf := it_p hc hf
                  obtain rfl := so1 hf
                  exact k_drop [2] rfl kc164
                · have hf := it_n hc hf
                  refine k_aload_n (pc := 179) h dX10_clashes_179 rfl 0 rfl ?_
                  refine k_getI (pc := 180) h fl_RX10_149 rfl rfl dX10_clashes_180 ?_
                  refine k_iload (pc := 183) h dX10_clashes_183 4 rfl ?_
                  obtain ⟨v32, cv32, hf⟩ := ob_s hf
                  refine k_callSp (pc := 185) h cs_RX10_89 (c_X10_isIn (s0 0 6) v30 _ v32 cv32) rfl rfl (st1 := [.int v32]) rfl ⟨rfl, rfl⟩ (rk hR (Nat.le_of_ble_eq_true rfl) (Nat.le_of_ble_eq_true rfl)) (Nat.le_of_ble_eq_true rfl) dX10_clashes_185 ?_
                  obtain ⟨v33, hj, hf⟩ := ob_s hf
                  have kj188 : sh_K G shM 226 [(0, .ref 0), (1, .int p1), (4, .int v29), (5, .int v28), (6, .int v30)] [.int v33] s0 := by
                    refine k_istore (pc := 226) h dX10_clashes_226 (nk hL (by decide)) (lv' := [(0, .ref 0), (1, .int p1), (4, .int v29), (5, .int v28), (6, .int v30), (7, .int v33)]) rfl ?_
                    refine k_iload (pc := 228) h dX10_clashes_228 2 rfl ?_
                    refine k_iload (pc := 230) h dX10_clashes_230 5 rfl ?_
                    obtain ⟨v37, hj, hf⟩ := ob_s hf
                    have kj232 : sh_K G shM 260 [(0, .ref 0), (1, .int p1), (5, .int v28), (6, .int v30)] [.int v37, .int v29] s0 := by
                      refine k_ior (pc := 260) h dX10_clashes_260 ?_
                      obtain ⟨v40, ev40, hf⟩ := lb_s hf
                      refine k_top ev40 ?_
                      refine k_istore (pc := 261) h dX10_clashes_261 (nk hL (by decide)) (lv' := [(0, .ref 0), (1, .int p1), (4, .int v40), (5, .int v28), (6, .int v30)]) rfl ?_
                      obtain ⟨v41, ev41, hf⟩ := lb_s hf
                      refine k_iinc (pc := 263) h dX10_clashes_263 4 rfl ((congrArg (_ + ·) kc_iconst_1).trans ev41.symm) (nk hL (by decide)) (lv' := [(0, .ref 0), (1, .int p1), (4, .int v40), (5, .int v28), (6, .int v41)]) rfl ?_
                      refine k_goto (pc := 266) (tgt := 164) h dX10_clashes_266 rfl ?_
                      obtain rfl := so1 hf
                      exact k_drop [0, 1, 2, 3, 4] rfl kc164
                    clear hf
                    have hf := hj
                    clear hj
                    refine k_if_eq (pc := 232) (tgt := 259) h dX10_clashes_232 rfl (fun hc => ?_) (fun hc => ?_)
                    · have hf := it_p hc hf
                      refine k_iconst (pc := 259) h dX10_clashes_259 kc_iconst_0 ?_
                      obtain rfl := so1 hf
                      exact k_drop [0, 1, 3, 4] rfl kj232
                    · have hf := it_n hc hf
                      refine k_aload_n (pc := 235) h dX10_clashes_235 rfl 0 rfl ?_
                      refine k_iload_n (pc := 236) h dX10_clashes_236 rfl 1 rfl ?_
                      refine k_aload_n (pc := 237) h dX10_clashes_237 rfl 0 rfl ?_
                      refine k_getR (pc := 238) h fl_RX10_16 rfl rfl dX10_clashes_238 ?_
                      refine k_iload (pc := 241) h dX10_clashes_241 4 rfl ?_
                      obtain ⟨g38, hf⟩ := gu_s hf
                      refine k_iald (pc := 243) (n := 24) h rfl g38 dX10_clashes_243 ?_
                      refine k_iconst (pc := 244) h dX10_clashes_244 kc_iconst_1 ?_
                      refine k_iconst (pc := 245) h dX10_clashes_245 kc_iconst_0 ?_
                      obtain ⟨v39, cv39, hf⟩ := ob_s hf
                      refine k_callV0 (pc := 246) h cv_RX10_234 (c_X10_clashing p1 (s0 3 (ix v30)) (1 : Int32) (0 : Int32) s0 v39 cv39) rfl rfl rfl (st1 := [.int v39, .int v29]) rfl ⟨rfl, rfl⟩ (rk hR (Nat.le_of_ble_eq_true rfl) (Nat.le_of_ble_eq_true rfl)) (Nat.le_of_ble_eq_true rfl) dX10_clashes_246 ?_
                      refine k_iconst (pc := 249) h dX10_clashes_249 kc_iconst_1 ?_
                      refine k_iload (pc := 250) h dX10_clashes_250 4 rfl ?_
                      refine k_ishl (pc := 252) h dX10_clashes_252 ?_
                      refine k_iconst (pc := 253) h dX10_clashes_253 kc_iconst_m1 ?_
                      refine k_ixor (pc := 254) h dX10_clashes_254 ?_
                      refine k_iand (pc := 255) h dX10_clashes_255 ?_
                      refine k_goto (pc := 256) (tgt := 260) h dX10_clashes_256 rfl ?_
                      obtain rfl := so1 hf
                      exact k_drop [0, 1, 3, 4] rfl kj232
                  clear hf
                  have hf := hj
                  clear hj
                  refine k_if_eq (pc := 188) (tgt := 225) h dX10_clashes_188 rfl (fun hc => ?_) (fun hc => ?_)
                  · have hf := it_p hc hf
                    refine k_iconst (pc := 225) h dX10_clashes_225 kc_iconst_0 ?_
                    obtain rfl := so1 hf
                    exact k_drop [0, 1, 2, 3, 4] rfl kj188
                  · have hf := it_n hc hf
                    refine k_aload_n (pc := 191) h dX10_clashes_191 rfl 0 rfl ?_
                    refine k_iload (pc := 192) h dX10_clashes_192 4 rfl ?_
                    obtain ⟨v34, cv34, hf⟩ := ob_s hf
                    refine k_callV0 (pc := 194) h cv_RX10_174 (c_X10_kind v30 s0 v34 cv34) rfl rfl rfl (st1 := [.int v34]) rfl ⟨rfl, rfl⟩ (rk hR (Nat.le_of_ble_eq_true rfl) (Nat.le_of_ble_eq_true rfl)) (Nat.le_of_ble_eq_true rfl) dX10_clashes_194 ?_
                    refine k_iconst (pc := 197) h dX10_clashes_197 kc_iconst_5 ?_
                    refine k_icmp_ne (pc := 198) (tgt := 225) h dX10_clashes_198 rfl (fun hc => ?_) (fun hc => ?_)
                    · have hf := it_n hc hf
                      refine k_iconst (pc := 225) h dX10_clashes_225 kc_iconst_0 ?_
                      obtain rfl := so1 hf
                      exact k_drop [0, 1, 2, 3, 4] rfl kj188
                    · have hf := it_p hc hf
                      refine k_aload_n (pc := 201) h dX10_clashes_201 rfl 0 rfl ?_
                      refine k_getR (pc := 202) h fl_RX10_28 rfl rfl dX10_clashes_202 ?_
                      refine k_bipush (pc := 205) h dX10_clashes_205 kc_bipush_8 ?_
                      refine k_iload_n (pc := 207) h dX10_clashes_207 rfl 1 rfl ?_
                      refine k_imul (pc := 208) h dX10_clashes_208 ?_
                      refine k_iload (pc := 209) h dX10_clashes_209 3 rfl ?_
                      refine k_iadd (pc := 211) h dX10_clashes_211 ?_
                      obtain ⟨g35, hf⟩ := gu_s hf
                      refine k_iald (pc := 212) (n := 192) h rfl g35 dX10_clashes_212 ?_
                      refine k_iload (pc := 213) h dX10_clashes_213 4 rfl ?_
                      obtain ⟨v36, cv36, hf⟩ := ob_s hf
                      refine k_callSp (pc := 215) h cs_RX10_89 (c_X10_isIn (s0 7 (ix (((8 : Int32) * p1) + v28))) v30 _ v36 cv36) rfl rfl (st1 := [.int v36]) rfl ⟨rfl, rfl⟩ (rk hR (Nat.le_of_ble_eq_true rfl) (Nat.le_of_ble_eq_true rfl)) (Nat.le_of_ble_eq_true rfl) dX10_clashes_215 ?_
                      refine k_if_eq (pc := 218) (tgt := 225) h dX10_clashes_218 rfl (fun hc => ?_) (fun hc => ?_)
                      · have hf := it_p hc hf
                        refine k_iconst (pc := 225) h dX10_clashes_225 kc_iconst_0 ?_
                        obtain rfl := so1 hf
                        exact k_drop [0, 1, 2, 3, 4] rfl kj188
                      · have hf := it_n hc hf
                        refine k_iconst (pc := 221) h dX10_clashes_221 kc_iconst_1 ?_
                        refine k_goto (pc := 222) (tgt := 226) h dX10_clashes_222 rfl ?_
                        obtain rfl := so1 hf
                        exact k_drop [0, 1, 2, 3, 4] rfl kj188
            · refine k_iload (pc := 269) h dX10_clashes_269 0 rfl ?_
              obtain rfl := so1 hf
              exact hret 271 _ dX10_clashes_271 trivial
          clear hf
          have hf := hj
          clear hj
          refine k_if_eq (pc := 130) (tgt := 154) h dX10_clashes_130 rfl (fun hc => ?_) (fun hc => ?_)
          · have hf := it_p hc hf
            obtain rfl := so1 hf
            exact k_drop [0, 1, 3] rfl kj130
          · have hf := it_n hc hf
            refine k_iload (pc := 133) h dX10_clashes_133 3 rfl ?_
            refine k_aload_n (pc := 135) h dX10_clashes_135 rfl 0 rfl ?_
            refine k_iload_n (pc := 136) h dX10_clashes_136 rfl 1 rfl ?_
            refine k_bipush (pc := 137) h dX10_clashes_137 kc_bipush_6 ?_
            refine k_aload_n (pc := 139) h dX10_clashes_139 rfl 0 rfl ?_
            refine k_getR (pc := 140) h fl_RX10_13 rfl rfl dX10_clashes_140 ?_
            refine k_iload_n (pc := 143) h dX10_clashes_143 rfl 1 rfl ?_
            obtain ⟨g25, hf⟩ := gu_s hf
            refine k_iald (pc := 144) (n := 24) h rfl g25 dX10_clashes_144 ?_
            refine k_imul (pc := 145) h dX10_clashes_145 ?_
            refine k_iconst (pc := 146) h dX10_clashes_146 kc_iconst_1 ?_
            refine k_iconst (pc := 147) h dX10_clashes_147 kc_iconst_1 ?_
            obtain ⟨v26, cv26, hf⟩ := ob_s hf
            refine k_callV0 (pc := 148) h cv_RX10_234 (c_X10_clashing p1 ((6 : Int32) * (s0 2 (ix p1))) (1 : Int32) (1 : Int32) s0 v26 cv26) rfl rfl rfl (st1 := [.int v26, .int v19]) rfl ⟨rfl, rfl⟩ (rk hR (Nat.le_of_ble_eq_true rfl) (Nat.le_of_ble_eq_true rfl)) (Nat.le_of_ble_eq_true rfl) dX10_clashes_148 ?_
            refine k_ior (pc := 151) h dX10_clashes_151 ?_
            obtain ⟨v27, ev27, hf⟩ := lb_s hf
            refine k_top ev27 ?_
            refine k_istore (pc := 152) h dX10_clashes_152 (nk hL (by decide)) (lv' := [(0, .ref 0), (1, .int p1), (3, .int v3), (4, .int v27)]) rfl ?_
            obtain rfl := so1 hf
            exact k_drop [0, 1, 3] rfl kj130
        clear hf
        have hf := hj
        clear hj
        refine k_icmp_ne (pc := 101) (tgt := 123) h dX10_clashes_101 rfl (fun hc => ?_) (fun hc => ?_)
        · have hf := it_n hc hf
          obtain rfl := so1 hf
          exact k_drop [0, 1, 3, 4] rfl kj101
        · have hf := it_p hc hf
          refine k_iload (pc := 104) h dX10_clashes_104 4 rfl ?_
          refine k_aload_n (pc := 106) h dX10_clashes_106 rfl 0 rfl ?_
          refine k_iload_n (pc := 107) h dX10_clashes_107 rfl 1 rfl ?_
          refine k_bipush (pc := 108) h dX10_clashes_108 kc_bipush_6 ?_
          refine k_iload_n (pc := 110) h dX10_clashes_110 rfl 2 rfl ?_
          obtain ⟨v20, cv20, hf⟩ := ob_s hf
          refine k_callSp (pc := 111) h cs_RX10_128 (c_X10_variable v2 _ v20 cv20) rfl rfl (st1 := [.int v20, .int (6 : Int32), .int p1, .ref 0, .int v12]) rfl ⟨rfl, rfl⟩ (rk hR (Nat.le_of_ble_eq_true rfl) (Nat.le_of_ble_eq_true rfl)) (Nat.le_of_ble_eq_true rfl) dX10_clashes_111 ?_
          refine k_imul (pc := 114) h dX10_clashes_114 ?_
          refine k_iconst (pc := 115) h dX10_clashes_115 kc_iconst_1 ?_
          refine k_iconst (pc := 116) h dX10_clashes_116 kc_iconst_0 ?_
          obtain ⟨v21, cv21, hf⟩ := ob_s hf
          refine k_callV0 (pc := 117) h cv_RX10_234 (c_X10_clashing p1 ((6 : Int32) * v20) (1 : Int32) (0 : Int32) s0 v21 cv21) rfl rfl rfl (st1 := [.int v21, .int v12]) rfl ⟨rfl, rfl⟩ (rk hR (Nat.le_of_ble_eq_true rfl) (Nat.le_of_ble_eq_true rfl)) (Nat.le_of_ble_eq_true rfl) dX10_clashes_117 ?_
          refine k_ior (pc := 120) h dX10_clashes_120 ?_
          obtain ⟨v22, ev22, hf⟩ := lb_s hf
          refine k_top ev22 ?_
          refine k_istore (pc := 121) h dX10_clashes_121 (nk hL (by decide)) (lv' := [(0, .ref 0), (1, .int p1), (2, .int v2), (3, .int v3), (4, .int v22)]) rfl ?_
          obtain rfl := so1 hf
          exact k_drop [0, 1, 3, 4] rfl kj101
      clear hf
      have hf := hj
      clear hj
      refine k_icmp_eq (pc := 68) (tgt := 76) h dX10_clashes_68 rfl (fun hc => ?_) (fun hc => ?_)
      · have hf := it_p hc hf
        refine k_iload (pc := 76) h dX10_clashes_76 4 rfl ?_
        refine k_aload_n (pc := 78) h dX10_clashes_78 rfl 0 rfl ?_
        refine k_iload_n (pc := 79) h dX10_clashes_79 rfl 1 rfl ?_
        refine k_iload_n (pc := 80) h dX10_clashes_80 rfl 2 rfl ?_
        refine k_iconst (pc := 81) h dX10_clashes_81 kc_iconst_1 ?_
        refine k_iload_n (pc := 82) h dX10_clashes_82 rfl 3 rfl ?_
        refine k_iconst (pc := 83) h dX10_clashes_83 kc_iconst_2 ?_
        obtain ⟨v13, hj, hf⟩ := ob_s hf
        have kj84 : sh_K G shM 92 [(0, .ref 0), (1, .int p1), (2, .int v2), (3, .int v3)] [.int v13, .int (1 : Int32), .int v2, .int p1, .ref 0, .int v9] s0 := by
          obtain ⟨v14, cv14, hf⟩ := ob_s hf
          refine k_callV0 (pc := 92) h cv_RX10_234 (c_X10_clashing p1 v2 (1 : Int32) v13 s0 v14 cv14) rfl rfl rfl (st1 := [.int v14, .int v9]) rfl ⟨rfl, rfl⟩ (rk hR (Nat.le_of_ble_eq_true rfl) (Nat.le_of_ble_eq_true rfl)) (Nat.le_of_ble_eq_true rfl) dX10_clashes_92 ?_
          refine k_ior (pc := 95) h dX10_clashes_95 ?_
          obtain ⟨v15, ev15, hf⟩ := lb_s hf
          refine k_top ev15 ?_
          refine k_istore (pc := 96) h dX10_clashes_96 (nk hL (by decide)) (lv' := [(0, .ref 0), (1, .int p1), (2, .int v2), (3, .int v3), (4, .int v15)]) rfl ?_
          obtain rfl := so1 hf
          exact k_drop [0, 1, 2, 3, 4] rfl kj68
        clear hf
        have hf := hj
        clear hj
        refine k_icmp_ne (pc := 84) (tgt := 91) h dX10_clashes_84 rfl (fun hc => ?_) (fun hc => ?_)
        · have hf := it_n hc hf
          refine k_iconst (pc := 91) h dX10_clashes_91 kc_iconst_0 ?_
          obtain rfl := so1 hf
          exact k_drop [0, 1, 2, 3] rfl kj84
        · have hf := it_p hc hf
          refine k_iconst (pc := 87) h dX10_clashes_87 kc_iconst_1 ?_
          refine k_goto (pc := 88) (tgt := 92) h dX10_clashes_88 rfl ?_
          obtain rfl := so1 hf
          exact k_drop [0, 1, 2, 3] rfl kj84
      · have hf := it_n hc hf
        refine k_iload_n (pc := 71) h dX10_clashes_71 rfl 3 rfl ?_
        refine k_iconst (pc := 72) h dX10_clashes_72 kc_iconst_4 ?_
        refine k_icmp_ne (pc := 73) (tgt := 98) h dX10_clashes_73 rfl (fun hc => ?_) (fun hc => ?_)
        · have hf := it_n hc hf
          obtain rfl := so1 hf
          exact k_drop [0, 1, 2, 3, 4] rfl kj68
        · have hf := it_p hc hf
          refine k_iload (pc := 76) h dX10_clashes_76 4 rfl ?_
          refine k_aload_n (pc := 78) h dX10_clashes_78 rfl 0 rfl ?_
          refine k_iload_n (pc := 79) h dX10_clashes_79 rfl 1 rfl ?_
          refine k_iload_n (pc := 80) h dX10_clashes_80 rfl 2 rfl ?_
          refine k_iconst (pc := 81) h dX10_clashes_81 kc_iconst_1 ?_
          refine k_iload_n (pc := 82) h dX10_clashes_82 rfl 3 rfl ?_
          refine k_iconst (pc := 83) h dX10_clashes_83 kc_iconst_2 ?_
          obtain ⟨v16, hj, hf⟩ := ob_s hf
          have kj84 : sh_K G shM 92 [(0, .ref 0), (1, .int p1), (2, .int v2), (3, .int v3)] [.int v16, .int (1 : Int32), .int v2, .int p1, .ref 0, .int v9] s0 := by
            obtain ⟨v17, cv17, hf⟩ := ob_s hf
            refine k_callV0 (pc := 92) h cv_RX10_234 (c_X10_clashing p1 v2 (1 : Int32) v16 s0 v17 cv17) rfl rfl rfl (st1 := [.int v17, .int v9]) rfl ⟨rfl, rfl⟩ (rk hR (Nat.le_of_ble_eq_true rfl) (Nat.le_of_ble_eq_true rfl)) (Nat.le_of_ble_eq_true rfl) dX10_clashes_92 ?_
            refine k_ior (pc := 95) h dX10_clashes_95 ?_
            obtain ⟨v18, ev18, hf⟩ := lb_s hf
            refine k_top ev18 ?_
            refine k_istore (pc := 96) h dX10_clashes_96 (nk hL (by decide)) (lv' := [(0, .ref 0), (1, .int p1), (2, .int v2), (3, .int v3), (4, .int v18)]) rfl ?_
            obtain rfl := so1 hf
            exact k_drop [0, 1, 2, 3, 4] rfl kj68
          clear hf
          have hf := hj
          clear hj
          refine k_icmp_ne (pc := 84) (tgt := 91) h dX10_clashes_84 rfl (fun hc => ?_) (fun hc => ?_)
          · have hf := it_n hc hf
            refine k_iconst (pc := 91) h dX10_clashes_91 kc_iconst_0 ?_
            obtain rfl := so1 hf
            exact k_drop [0, 1, 2, 3] rfl kj84
          · have hf := it_p hc hf
            refine k_iconst (pc := 87) h dX10_clashes_87 kc_iconst_1 ?_
            refine k_goto (pc := 88) (tgt := 92) h dX10_clashes_88 rfl ?_
            obtain rfl := so1 hf
            exact k_drop [0, 1, 2, 3] rfl kj84
    clear hf
    have hf := hj
    clear hj
    refine k_icmp_ne (pc := 46) (tgt := 66) h dX10_clashes_46 rfl (fun hc => ?_) (fun hc => ?_)
    · have hf := it_n hc hf
      obtain rfl := so1 hf
      exact k_drop [0, 1, 2, 3, 4] rfl kj46
    · have hf := it_p hc hf
      refine k_iload (pc := 49) h dX10_clashes_49 4 rfl ?_
      refine k_aload_n (pc := 51) h dX10_clashes_51 rfl 0 rfl ?_
      refine k_iload_n (pc := 52) h dX10_clashes_52 rfl 1 rfl ?_
      refine k_iload_n (pc := 53) h dX10_clashes_53 rfl 2 rfl ?_
      refine k_iconst (pc := 54) h dX10_clashes_54 kc_iconst_1 ?_
      refine k_iconst (pc := 55) h dX10_clashes_55 kc_iconst_0 ?_
      obtain ⟨v10, cv10, hf⟩ := ob_s hf
      refine k_callV0 (pc := 56) h cv_RX10_234 (c_X10_clashing p1 v2 (1 : Int32) (0 : Int32) s0 v10 cv10) rfl rfl rfl (st1 := [.int v10, .int v4]) rfl ⟨rfl, rfl⟩ (rk hR (Nat.le_of_ble_eq_true rfl) (Nat.le_of_ble_eq_true rfl)) (Nat.le_of_ble_eq_true rfl) dX10_clashes_56 ?_
      refine k_iconst (pc := 59) h dX10_clashes_59 kc_iconst_1 ?_
      refine k_iload_n (pc := 60) h dX10_clashes_60 rfl 1 rfl ?_
      refine k_ishl (pc := 61) h dX10_clashes_61 ?_
      refine k_iand (pc := 62) h dX10_clashes_62 ?_
      refine k_ior (pc := 63) h dX10_clashes_63 ?_
      obtain ⟨v11, ev11, hf⟩ := lb_s hf
      refine k_top ev11 ?_
      refine k_istore (pc := 64) h dX10_clashes_64 (nk hL (by decide)) (lv' := [(0, .ref 0), (1, .int p1), (2, .int v2), (3, .int v3), (4, .int v11)]) rfl ?_
      obtain rfl := so1 hf
      exact k_drop [0, 1, 2, 3, 4] rfl kj46
  clear hf
  have hf := hj
  clear hj
  refine k_icmp_eq (pc := 18) (tgt := 31) h dX10_clashes_18 rfl (fun hc => ?_) (fun hc => ?_)
  · have hf := it_p hc hf
    refine k_iload (pc := 31) h dX10_clashes_31 4 rfl ?_
    refine k_aload_n (pc := 33) h dX10_clashes_33 rfl 0 rfl ?_
    refine k_iload_n (pc := 34) h dX10_clashes_34 rfl 1 rfl ?_
    refine k_iload_n (pc := 35) h dX10_clashes_35 rfl 2 rfl ?_
    refine k_iconst (pc := 36) h dX10_clashes_36 kc_iconst_0 ?_
    refine k_iconst (pc := 37) h dX10_clashes_37 kc_iconst_0 ?_
    obtain ⟨v5, cv5, hf⟩ := ob_s hf
    refine k_callV0 (pc := 38) h cv_RX10_234 (c_X10_clashing p1 v2 (0 : Int32) (0 : Int32) s0 v5 cv5) rfl rfl rfl (st1 := [.int v5, .int (0 : Int32)]) rfl ⟨rfl, rfl⟩ (rk hR (Nat.le_of_ble_eq_true rfl) (Nat.le_of_ble_eq_true rfl)) (Nat.le_of_ble_eq_true rfl) dX10_clashes_38 ?_
    refine k_ior (pc := 41) h dX10_clashes_41 ?_
    obtain ⟨v6, ev6, hf⟩ := lb_s hf
    refine k_top ev6 ?_
    refine k_istore (pc := 42) h dX10_clashes_42 (nk hL (by decide)) (lv' := [(0, .ref 0), (1, .int p1), (2, .int v2), (3, .int v3), (4, .int v6)]) rfl ?_
    obtain rfl := so1 hf
    exact k_drop [0, 1, 2, 3, 4] rfl kj18
  · have hf := it_n hc hf
    refine k_iload_n (pc := 21) h dX10_clashes_21 rfl 3 rfl ?_
    refine k_iconst (pc := 22) h dX10_clashes_22 kc_iconst_3 ?_
    have kb31_1 : f_X10_clashes_B31_1 p1 s0 v2 = some v4 → sh_K G shM 31 [(0, .ref 0), (1, .int p1), (2, .int v2), (3, .int v3), (4, .int (0 : Int32))] [] s0 := by
      clear hf
      intro  hf
      unfold f_X10_clashes_B31_1 at hf
      refine k_iload (pc := 31) h dX10_clashes_31 4 rfl ?_
      refine k_aload_n (pc := 33) h dX10_clashes_33 rfl 0 rfl ?_
      refine k_iload_n (pc := 34) h dX10_clashes_34 rfl 1 rfl ?_
      refine k_iload_n (pc := 35) h dX10_clashes_35 rfl 2 rfl ?_
      refine k_iconst (pc := 36) h dX10_clashes_36 kc_iconst_0 ?_
      refine k_iconst (pc := 37) h dX10_clashes_37 kc_iconst_0 ?_
      obtain ⟨v7, cv7, hf⟩ := ob_s hf
      refine k_callV0 (pc := 38) h cv_RX10_234 (c_X10_clashing p1 v2 (0 : Int32) (0 : Int32) s0 v7 cv7) rfl rfl rfl (st1 := [.int v7, .int (0 : Int32)]) rfl ⟨rfl, rfl⟩ (rk hR (Nat.le_of_ble_eq_true rfl) (Nat.le_of_ble_eq_true rfl)) (Nat.le_of_ble_eq_true rfl) dX10_clashes_38 ?_
      refine k_ior (pc := 41) h dX10_clashes_41 ?_
      obtain ⟨v8, ev8, hf⟩ := lb_s hf
      refine k_top ev8 ?_
      refine k_istore (pc := 42) h dX10_clashes_42 (nk hL (by decide)) (lv' := [(0, .ref 0), (1, .int p1), (2, .int v2), (3, .int v3), (4, .int v8)]) rfl ?_
      obtain rfl := so1 hf
      exact k_drop [0, 1, 2, 3, 4] rfl kj18
    refine k_icmp_eq (pc := 23) (tgt := 31) h dX10_clashes_23 rfl (fun hc => ?_) (fun hc => ?_)
    · have hf := it_p hc hf
      exact k_drop [0, 1, 2, 3, 4] rfl (kb31_1  hf)
    · have hf := it_n hc hf
      refine k_iload_n (pc := 26) h dX10_clashes_26 rfl 3 rfl ?_
      refine k_iconst (pc := 27) h dX10_clashes_27 kc_iconst_5 ?_
      refine k_icmp_ne (pc := 28) (tgt := 44) h dX10_clashes_28 rfl (fun hc => ?_) (fun hc => ?_)
      · have hf := it_n hc hf
        obtain rfl := so1 hf
        exact k_drop [0, 1, 2, 3, 4] rfl kj18
      · have hf := it_p hc hf
        exact k_drop [0, 1, 2, 3, 4] rfl (kb31_1  hf)
theorem dX10_errsAt_0 : decode cX10_errsAt 0 = .ok (.aload_n 0, 1) := by decide +kernel
theorem dX10_errsAt_1 : decode cX10_errsAt 1 = .ok (.iload_n 1, 1) := by decide +kernel
theorem dX10_errsAt_2 : decode cX10_errsAt 2 = .ok (.invokevirtual 174, 3) := by decide +kernel
theorem dX10_errsAt_5 : decode cX10_errsAt 5 = .ok (.istore_n 2, 1) := by decide +kernel
theorem dX10_errsAt_6 : decode cX10_errsAt 6 = .ok (.aload_n 0, 1) := by decide +kernel
theorem dX10_errsAt_7 : decode cX10_errsAt 7 = .ok (.iload_n 1, 1) := by decide +kernel
theorem dX10_errsAt_8 : decode cX10_errsAt 8 = .ok (.invokevirtual 171, 3) := by decide +kernel
theorem dX10_errsAt_11 : decode cX10_errsAt 11 = .ok (.istore_n 3, 1) := by decide +kernel
theorem dX10_errsAt_12 : decode cX10_errsAt 12 = .ok (.aload_n 0, 1) := by decide +kernel
theorem dX10_errsAt_13 : decode cX10_errsAt 13 = .ok (.iload_n 1, 1) := by decide +kernel
theorem dX10_errsAt_14 : decode cX10_errsAt 14 = .ok (.invokevirtual 238, 3) := by decide +kernel
theorem dX10_errsAt_17 : decode cX10_errsAt 17 = .ok (.istore 4, 2) := by decide +kernel
theorem dX10_errsAt_19 : decode cX10_errsAt 19 = .ok (.aload_n 0, 1) := by decide +kernel
theorem dX10_errsAt_20 : decode cX10_errsAt 20 = .ok (.getfield 28, 3) := by decide +kernel
theorem dX10_errsAt_23 : decode cX10_errsAt 23 = .ok (.bipush 8, 2) := by decide +kernel
theorem dX10_errsAt_25 : decode cX10_errsAt 25 = .ok (.iload_n 1, 1) := by decide +kernel
theorem dX10_errsAt_26 : decode cX10_errsAt 26 = .ok (.imul, 1) := by decide +kernel
theorem dX10_errsAt_27 : decode cX10_errsAt 27 = .ok (.aload_n 0, 1) := by decide +kernel
theorem dX10_errsAt_28 : decode cX10_errsAt 28 = .ok (.getfield 16, 3) := by decide +kernel
theorem dX10_errsAt_31 : decode cX10_errsAt 31 = .ok (.iload_n 1, 1) := by decide +kernel
theorem dX10_errsAt_32 : decode cX10_errsAt 32 = .ok (.iaload, 1) := by decide +kernel
theorem dX10_errsAt_33 : decode cX10_errsAt 33 = .ok (.invokestatic 128, 3) := by decide +kernel
theorem dX10_errsAt_36 : decode cX10_errsAt 36 = .ok (.iadd, 1) := by decide +kernel
theorem dX10_errsAt_37 : decode cX10_errsAt 37 = .ok (.iaload, 1) := by decide +kernel
theorem dX10_errsAt_38 : decode cX10_errsAt 38 = .ok (.istore 5, 2) := by decide +kernel
theorem dX10_errsAt_40 : decode cX10_errsAt 40 = .ok (.iconst 0, 1) := by decide +kernel
theorem dX10_errsAt_41 : decode cX10_errsAt 41 = .ok (.istore 6, 2) := by decide +kernel
theorem dX10_errsAt_43 : decode cX10_errsAt 43 = .ok (.iload 6, 2) := by decide +kernel
theorem dX10_errsAt_45 : decode cX10_errsAt 45 = .ok (.aload_n 0, 1) := by decide +kernel
theorem dX10_errsAt_46 : decode cX10_errsAt 46 = .ok (.getfield 101, 3) := by decide +kernel
theorem dX10_errsAt_49 : decode cX10_errsAt 49 = .ok (.if_icmp .ge 27, 3) := by decide +kernel
theorem dX10_errsAt_52 : decode cX10_errsAt 52 = .ok (.iload 4, 2) := by decide +kernel
theorem dX10_errsAt_54 : decode cX10_errsAt 54 = .ok (.iload 6, 2) := by decide +kernel
theorem dX10_errsAt_56 : decode cX10_errsAt 56 = .ok (.invokestatic 89, 3) := by decide +kernel
theorem dX10_errsAt_59 : decode cX10_errsAt 59 = .ok (.ifCond .eq 11, 3) := by decide +kernel
theorem dX10_errsAt_62 : decode cX10_errsAt 62 = .ok (.aload_n 0, 1) := by decide +kernel
theorem dX10_errsAt_63 : decode cX10_errsAt 63 = .ok (.iload_n 1, 1) := by decide +kernel
theorem dX10_errsAt_64 : decode cX10_errsAt 64 = .ok (.iconst 0, 1) := by decide +kernel
theorem dX10_errsAt_65 : decode cX10_errsAt 65 = .ok (.iload 6, 2) := by decide +kernel
theorem dX10_errsAt_67 : decode cX10_errsAt 67 = .ok (.invokevirtual 241, 3) := by decide +kernel
theorem dX10_errsAt_70 : decode cX10_errsAt 70 = .ok (.iinc 6 1, 3) := by decide +kernel
theorem dX10_errsAt_73 : decode cX10_errsAt 73 = .ok (.goto (-30), 3) := by decide +kernel
theorem dX10_errsAt_76 : decode cX10_errsAt 76 = .ok (.iload_n 3, 1) := by decide +kernel
theorem dX10_errsAt_77 : decode cX10_errsAt 77 = .ok (.iconst (-1), 1) := by decide +kernel
theorem dX10_errsAt_78 : decode cX10_errsAt 78 = .ok (.if_icmp .eq 20, 3) := by decide +kernel
theorem dX10_errsAt_81 : decode cX10_errsAt 81 = .ok (.iload 5, 2) := by decide +kernel
theorem dX10_errsAt_83 : decode cX10_errsAt 83 = .ok (.bipush 24, 2) := by decide +kernel
theorem dX10_errsAt_85 : decode cX10_errsAt 85 = .ok (.invokestatic 89, 3) := by decide +kernel
theorem dX10_errsAt_88 : decode cX10_errsAt 88 = .ok (.ifCond .eq 10, 3) := by decide +kernel
theorem dX10_errsAt_91 : decode cX10_errsAt 91 = .ok (.aload_n 0, 1) := by decide +kernel
theorem dX10_errsAt_92 : decode cX10_errsAt 92 = .ok (.iload_n 1, 1) := by decide +kernel
theorem dX10_errsAt_93 : decode cX10_errsAt 93 = .ok (.iconst 1, 1) := by decide +kernel
theorem dX10_errsAt_94 : decode cX10_errsAt 94 = .ok (.iload_n 3, 1) := by decide +kernel
theorem dX10_errsAt_95 : decode cX10_errsAt 95 = .ok (.invokevirtual 241, 3) := by decide +kernel
theorem dX10_errsAt_98 : decode cX10_errsAt 98 = .ok (.iconst 0, 1) := by decide +kernel
theorem dX10_errsAt_99 : decode cX10_errsAt 99 = .ok (.istore 6, 2) := by decide +kernel
theorem dX10_errsAt_101 : decode cX10_errsAt 101 = .ok (.iload 6, 2) := by decide +kernel
theorem dX10_errsAt_103 : decode cX10_errsAt 103 = .ok (.aload_n 0, 1) := by decide +kernel
theorem dX10_errsAt_104 : decode cX10_errsAt 104 = .ok (.getfield 101, 3) := by decide +kernel
theorem dX10_errsAt_107 : decode cX10_errsAt 107 = .ok (.if_icmp .ge 52, 3) := by decide +kernel
theorem dX10_errsAt_110 : decode cX10_errsAt 110 = .ok (.iload_n 3, 1) := by decide +kernel
theorem dX10_errsAt_111 : decode cX10_errsAt 111 = .ok (.iconst (-1), 1) := by decide +kernel
theorem dX10_errsAt_112 : decode cX10_errsAt 112 = .ok (.if_icmp .eq 47, 3) := by decide +kernel
theorem dX10_errsAt_115 : decode cX10_errsAt 115 = .ok (.iload_n 2, 1) := by decide +kernel
theorem dX10_errsAt_116 : decode cX10_errsAt 116 = .ok (.iconst 2, 1) := by decide +kernel
theorem dX10_errsAt_117 : decode cX10_errsAt 117 = .ok (.if_icmp .eq 8, 3) := by decide +kernel
theorem dX10_errsAt_120 : decode cX10_errsAt 120 = .ok (.iload_n 2, 1) := by decide +kernel
theorem dX10_errsAt_121 : decode cX10_errsAt 121 = .ok (.iconst 4, 1) := by decide +kernel
theorem dX10_errsAt_122 : decode cX10_errsAt 122 = .ok (.if_icmp .ne 37, 3) := by decide +kernel
theorem dX10_errsAt_125 : decode cX10_errsAt 125 = .ok (.iload 5, 2) := by decide +kernel
theorem dX10_errsAt_127 : decode cX10_errsAt 127 = .ok (.iload 6, 2) := by decide +kernel
theorem dX10_errsAt_129 : decode cX10_errsAt 129 = .ok (.invokestatic 89, 3) := by decide +kernel
theorem dX10_errsAt_132 : decode cX10_errsAt 132 = .ok (.ifCond .eq 21, 3) := by decide +kernel
theorem dX10_errsAt_135 : decode cX10_errsAt 135 = .ok (.aload_n 0, 1) := by decide +kernel
theorem dX10_errsAt_136 : decode cX10_errsAt 136 = .ok (.iload 6, 2) := by decide +kernel
theorem dX10_errsAt_138 : decode cX10_errsAt 138 = .ok (.invokevirtual 174, 3) := by decide +kernel
theorem dX10_errsAt_141 : decode cX10_errsAt 141 = .ok (.iconst 3, 1) := by decide +kernel
theorem dX10_errsAt_142 : decode cX10_errsAt 142 = .ok (.if_icmp .ne 11, 3) := by decide +kernel
theorem dX10_errsAt_145 : decode cX10_errsAt 145 = .ok (.aload_n 0, 1) := by decide +kernel
theorem dX10_errsAt_146 : decode cX10_errsAt 146 = .ok (.iload_n 1, 1) := by decide +kernel
theorem dX10_errsAt_147 : decode cX10_errsAt 147 = .ok (.iconst 2, 1) := by decide +kernel
theorem dX10_errsAt_148 : decode cX10_errsAt 148 = .ok (.iload 6, 2) := by decide +kernel
theorem dX10_errsAt_150 : decode cX10_errsAt 150 = .ok (.invokevirtual 241, 3) := by decide +kernel
theorem dX10_errsAt_153 : decode cX10_errsAt 153 = .ok (.iinc 6 1, 3) := by decide +kernel
theorem dX10_errsAt_156 : decode cX10_errsAt 156 = .ok (.goto (-55), 3) := by decide +kernel
theorem dX10_errsAt_159 : decode cX10_errsAt 159 = .ok (.aload_n 0, 1) := by decide +kernel
theorem dX10_errsAt_160 : decode cX10_errsAt 160 = .ok (.iload_n 1, 1) := by decide +kernel
theorem dX10_errsAt_161 : decode cX10_errsAt 161 = .ok (.invokevirtual 143, 3) := by decide +kernel
theorem dX10_errsAt_164 : decode cX10_errsAt 164 = .ok (.ifCond .eq 31, 3) := by decide +kernel
theorem dX10_errsAt_167 : decode cX10_errsAt 167 = .ok (.iload_n 3, 1) := by decide +kernel
theorem dX10_errsAt_168 : decode cX10_errsAt 168 = .ok (.iconst (-1), 1) := by decide +kernel
theorem dX10_errsAt_169 : decode cX10_errsAt 169 = .ok (.if_icmp .ne 26, 3) := by decide +kernel
theorem dX10_errsAt_172 : decode cX10_errsAt 172 = .ok (.iload 5, 2) := by decide +kernel
theorem dX10_errsAt_174 : decode cX10_errsAt 174 = .ok (.ldc 245, 2) := by decide +kernel
theorem dX10_errsAt_176 : decode cX10_errsAt 176 = .ok (.iand, 1) := by decide +kernel
theorem dX10_errsAt_177 : decode cX10_errsAt 177 = .ok (.ifCond .eq 18, 3) := by decide +kernel
theorem dX10_errsAt_180 : decode cX10_errsAt 180 = .ok (.aload_n 0, 1) := by decide +kernel
theorem dX10_errsAt_181 : decode cX10_errsAt 181 = .ok (.iload_n 1, 1) := by decide +kernel
theorem dX10_errsAt_182 : decode cX10_errsAt 182 = .ok (.iconst 3, 1) := by decide +kernel
theorem dX10_errsAt_183 : decode cX10_errsAt 183 = .ok (.aload_n 0, 1) := by decide +kernel
theorem dX10_errsAt_184 : decode cX10_errsAt 184 = .ok (.getfield 16, 3) := by decide +kernel
theorem dX10_errsAt_187 : decode cX10_errsAt 187 = .ok (.iload_n 1, 1) := by decide +kernel
theorem dX10_errsAt_188 : decode cX10_errsAt 188 = .ok (.iaload, 1) := by decide +kernel
theorem dX10_errsAt_189 : decode cX10_errsAt 189 = .ok (.invokestatic 128, 3) := by decide +kernel
theorem dX10_errsAt_192 : decode cX10_errsAt 192 = .ok (.invokevirtual 241, 3) := by decide +kernel
theorem dX10_errsAt_195 : decode cX10_errsAt 195 = .ok (.return_, 1) := by decide +kernel
def f_X10_errsAt_L43 (p1 : Int32) (v3 : Int32) (v8 : Int32) (s9 : sh_S) : Option ((Int32 × sh_S) ⊕ (sh_S)) := (if (s9 0 0) ≤ v8 then some (.inr s9) else ob (f_X10_isIn v3 v8) (fun v11 => ob (if v11 = 0 then some s9 else ob (f_X10_errs p1 (0 : Int32) v8 s9) (fun s13 => some s13)) (fun s12 => lb (v8 + (1 : Int32)) (fun v14 => some (.inl (v14, s12))))))
def f_X10_errsAt_B125_1 (p1 : Int32) (s19 : sh_S) (v7 : Int32) (v18 : Int32) : Option ((Int32 × sh_S) ⊕ (sh_S)) := ob (f_X10_isIn v7 v18) (fun v21 => ob (if v21 = 0 then some s19 else ob (f_X10_kind v18 s19) (fun v23 => (if v23 = (3 : Int32) then ob (f_X10_errs p1 (2 : Int32) v18 s19) (fun s24 => some s24) else some s19))) (fun s22 => lb (v18 + (1 : Int32)) (fun v25 => some (.inl (v25, s22)))))
def f_X10_errsAt_L101 (p1 : Int32) (v1 : Int32) (v2 : Int32) (v7 : Int32) (v18 : Int32) (s19 : sh_S) : Option ((Int32 × sh_S) ⊕ (sh_S)) := (if (s19 0 0) ≤ v18 then some (.inr s19) else (if v2 = (-1 : Int32) then some (.inr s19) else (if v1 = (2 : Int32) then f_X10_errsAt_B125_1 p1 s19 v7 v18 else (if v1 = (4 : Int32) then f_X10_errsAt_B125_1 p1 s19 v7 v18 else some (.inr s19)))))
def f_X10_errsAt (p1 : Int32) (s0 : sh_S) : Option (sh_S) := ob (f_X10_kind p1 s0) (fun v1 => ob (f_X10_goesBy p1 s0) (fun v2 => ob (f_X10_clashes p1 s0) (fun v3 => gu (inb p1 24) (ob (f_X10_variable (s0 3 (ix p1))) (fun v5 => gu (inb (((8 : Int32) * p1) + v5) 192) (lb ((s0 7 (ix (((8 : Int32) * p1) + v5)))) (fun v7 => ob (lp (fun q => f_X10_errsAt_L43 p1 v3 q.1 q.2) FU ((0 : Int32), s0)) (fun s10 => ob (if v2 = (-1 : Int32) then some s10 else ob (f_X10_isIn v7 (24 : Int32)) (fun v16 => (if v16 = 0 then some s10 else ob (f_X10_errs p1 (1 : Int32) v2 s10) (fun s17 => some s17)))) (fun s15 => ob (lp (fun q => f_X10_errsAt_L101 p1 v1 v2 v7 q.1 q.2) FU ((0 : Int32), s15)) (fun s20 => ob (f_X10_lends p1 s20) (fun v26 => ob (if v26 = 0 then some s20 else (if v2 = (-1 : Int32) then (if (v7 &&& (-16777217 : Int32)) = 0 then some s20 else gu (inb p1 24) (ob (f_X10_variable (s20 3 (ix p1))) (fun v29 => ob (f_X10_errs p1 (3 : Int32) v29 s20) (fun s30 => some s30)))) else some s20)) (fun s27 => some s27))))))))))))
set_option maxRecDepth 100000 in
set_option maxHeartbeats 4000000 in
theorem c_X10_errsAt (p1 : Int32) (s0 : sh_S) (s9x : sh_S) (hf : f_X10_errsAt p1 s0 = some s9x) : Ctr yX10_errsAt cX10_errsAt 7 none ({ frames := 5, cells := 0, slots := 0, locals := 121 } : Room) shM [.ref 0, .int p1] s0 none s9x := by
  refine Ctr.mk (ri := .return_) (by decide) (Nat.le_of_ble_eq_true rfl) (Rt_v) ?_
  intro G h hL hR hret
  refine k_drop (lv' := [(0, .ref 0), (1, .int p1)]) [0, 1] rfl ?_
  unfold f_X10_errsAt at hf
  refine k_aload_n (pc := 0) h dX10_errsAt_0 rfl 0 rfl ?_
  refine k_iload_n (pc := 1) h dX10_errsAt_1 rfl 1 rfl ?_
  obtain ⟨v1, cv1, hf⟩ := ob_s hf
  refine k_callV0 (pc := 2) h cv_RX10_174 (c_X10_kind p1 s0 v1 cv1) rfl rfl rfl (st1 := [.int v1]) rfl ⟨rfl, rfl⟩ (rk hR (Nat.le_of_ble_eq_true rfl) (Nat.le_of_ble_eq_true rfl)) (Nat.le_of_ble_eq_true rfl) dX10_errsAt_2 ?_
  refine k_istore_n (pc := 5) h dX10_errsAt_5 rfl (nk hL (by decide)) (lv' := [(0, .ref 0), (1, .int p1), (2, .int v1)]) rfl ?_
  refine k_aload_n (pc := 6) h dX10_errsAt_6 rfl 0 rfl ?_
  refine k_iload_n (pc := 7) h dX10_errsAt_7 rfl 1 rfl ?_
  obtain ⟨v2, cv2, hf⟩ := ob_s hf
  refine k_callV0 (pc := 8) h cv_RX10_171 (c_X10_goesBy p1 s0 v2 cv2) rfl rfl rfl (st1 := [.int v2]) rfl ⟨rfl, rfl⟩ (rk hR (Nat.le_of_ble_eq_true rfl) (Nat.le_of_ble_eq_true rfl)) (Nat.le_of_ble_eq_true rfl) dX10_errsAt_8 ?_
  refine k_istore_n (pc := 11) h dX10_errsAt_11 rfl (nk hL (by decide)) (lv' := [(0, .ref 0), (1, .int p1), (2, .int v1), (3, .int v2)]) rfl ?_
  refine k_aload_n (pc := 12) h dX10_errsAt_12 rfl 0 rfl ?_
  refine k_iload_n (pc := 13) h dX10_errsAt_13 rfl 1 rfl ?_
  obtain ⟨v3, cv3, hf⟩ := ob_s hf
  refine k_callV0 (pc := 14) h cv_RX10_238 (c_X10_clashes p1 s0 v3 cv3) rfl rfl rfl (st1 := [.int v3]) rfl ⟨rfl, rfl⟩ (rk hR (Nat.le_of_ble_eq_true rfl) (Nat.le_of_ble_eq_true rfl)) (Nat.le_of_ble_eq_true rfl) dX10_errsAt_14 ?_
  refine k_istore (pc := 17) h dX10_errsAt_17 (nk hL (by decide)) (lv' := [(0, .ref 0), (1, .int p1), (2, .int v1), (3, .int v2), (4, .int v3)]) rfl ?_
  refine k_aload_n (pc := 19) h dX10_errsAt_19 rfl 0 rfl ?_
  refine k_getR (pc := 20) h fl_RX10_28 rfl rfl dX10_errsAt_20 ?_
  refine k_bipush (pc := 23) h dX10_errsAt_23 kc_bipush_8 ?_
  refine k_iload_n (pc := 25) h dX10_errsAt_25 rfl 1 rfl ?_
  refine k_imul (pc := 26) h dX10_errsAt_26 ?_
  refine k_aload_n (pc := 27) h dX10_errsAt_27 rfl 0 rfl ?_
  refine k_getR (pc := 28) h fl_RX10_16 rfl rfl dX10_errsAt_28 ?_
  refine k_iload_n (pc := 31) h dX10_errsAt_31 rfl 1 rfl ?_
  obtain ⟨g4, hf⟩ := gu_s hf
  refine k_iald (pc := 32) (n := 24) h rfl g4 dX10_errsAt_32 ?_
  obtain ⟨v5, cv5, hf⟩ := ob_s hf
  refine k_callSp (pc := 33) h cs_RX10_128 (c_X10_variable (s0 3 (ix p1)) _ v5 cv5) rfl rfl (st1 := [.int v5, .int ((8 : Int32) * p1), .ref 7]) rfl ⟨rfl, rfl⟩ (rk hR (Nat.le_of_ble_eq_true rfl) (Nat.le_of_ble_eq_true rfl)) (Nat.le_of_ble_eq_true rfl) dX10_errsAt_33 ?_
  refine k_iadd (pc := 36) h dX10_errsAt_36 ?_
  obtain ⟨g6, hf⟩ := gu_s hf
  refine k_iald (pc := 37) (n := 192) h rfl g6 dX10_errsAt_37 ?_
  obtain ⟨v7, ev7, hf⟩ := lb_s hf
  refine k_top ev7 ?_
  refine k_istore (pc := 38) h dX10_errsAt_38 (nk hL (by decide)) (lv' := [(0, .ref 0), (1, .int p1), (2, .int v1), (3, .int v2), (4, .int v3), (5, .int v7)]) rfl ?_
  refine k_iconst (pc := 40) h dX10_errsAt_40 kc_iconst_0 ?_
  refine k_istore (pc := 41) h dX10_errsAt_41 (nk hL (by decide)) (lv' := [(0, .ref 0), (1, .int p1), (2, .int v1), (3, .int v2), (4, .int v3), (5, .int v7), (6, .int (0 : Int32))]) rfl ?_
  obtain ⟨s10, hl, hf⟩ := ob_s hf
  refine k_drop (lv' := [(0, .ref 0), (1, .int p1), (2, .int v1), (3, .int v2), (4, .int v3), (5, .int v7), (6, .int (0 : Int32))]) [0, 1, 2, 3, 4, 5, 6] rfl ?_
  refine lp_s (P := (fun q : Int32 × sh_S => sh_K G shM 43 [(0, .ref 0), (1, .int p1), (2, .int v1), (3, .int v2), (4, .int v3), (5, .int v7), (6, .int q.1)] [] q.2)) (Q := (fun q : sh_S => sh_K G shM 76 [(0, .ref 0), (1, .int p1), (2, .int v1), (3, .int v2), (5, .int v7)] [] q)) (s := ((0 : Int32), s0)) ?_ hl ?_
  · clear hf hl
    intro q rr hf kc43
    obtain ⟨v8, s9⟩ := q
    have hf : f_X10_errsAt_L43 p1 v3 v8 s9 = some rr := hf
    unfold f_X10_errsAt_L43 at hf
    refine k_iload (pc := 43) h dX10_errsAt_43 6 rfl ?_
    refine k_aload_n (pc := 45) h dX10_errsAt_45 rfl 0 rfl ?_
    refine k_getI (pc := 46) h fl_RX10_101 rfl rfl dX10_errsAt_46 ?_
    refine k_icmp_ge (pc := 49) (tgt := 76) h dX10_errsAt_49 rfl (fun hc => ?_) (fun hc => ?_)
    · have hf := it_p hc hf
      obtain rfl := so1 hf
      exact k_drop [0, 1, 2, 3, 5] rfl kc43
    · have hf := it_n hc hf
      refine k_iload (pc := 52) h dX10_errsAt_52 4 rfl ?_
      refine k_iload (pc := 54) h dX10_errsAt_54 6 rfl ?_
      obtain ⟨v11, cv11, hf⟩ := ob_s hf
      refine k_callSp (pc := 56) h cs_RX10_89 (c_X10_isIn v3 v8 _ v11 cv11) rfl rfl (st1 := [.int v11]) rfl ⟨rfl, rfl⟩ (rk hR (Nat.le_of_ble_eq_true rfl) (Nat.le_of_ble_eq_true rfl)) (Nat.le_of_ble_eq_true rfl) dX10_errsAt_56 ?_
      obtain ⟨s12, hj, hf⟩ := ob_s hf
      have kj59 : sh_K G shM 70 [(0, .ref 0), (1, .int p1), (2, .int v1), (3, .int v2), (4, .int v3), (5, .int v7), (6, .int v8)] [] s12 := by
        obtain ⟨v14, ev14, hf⟩ := lb_s hf
        refine k_iinc (pc := 70) h dX10_errsAt_70 6 rfl ((congrArg (_ + ·) kc_iconst_1).trans ev14.symm) (nk hL (by decide)) (lv' := [(0, .ref 0), (1, .int p1), (2, .int v1), (3, .int v2), (4, .int v3), (5, .int v7), (6, .int v14)]) rfl ?_
        refine k_goto (pc := 73) (tgt := 43) h dX10_errsAt_73 rfl ?_
        obtain rfl := so1 hf
        exact k_drop [0, 1, 2, 3, 4, 5, 6] rfl kc43
      clear hf
      have hf := hj
      clear hj
      refine k_if_eq (pc := 59) (tgt := 70) h dX10_errsAt_59 rfl (fun hc => ?_) (fun hc => ?_)
      · have hf := it_p hc hf
        obtain rfl := so1 hf
        exact k_drop [0, 1, 2, 3, 4, 5, 6] rfl kj59
      · have hf := it_n hc hf
        refine k_aload_n (pc := 62) h dX10_errsAt_62 rfl 0 rfl ?_
        refine k_iload_n (pc := 63) h dX10_errsAt_63 rfl 1 rfl ?_
        refine k_iconst (pc := 64) h dX10_errsAt_64 kc_iconst_0 ?_
        refine k_iload (pc := 65) h dX10_errsAt_65 6 rfl ?_
        obtain ⟨s13, cs13, hf⟩ := ob_s hf
        refine k_callV0 (pc := 67) h cv_RX10_241 (c_X10_errs p1 (0 : Int32) v8 s9 s13 cs13) rfl rfl rfl (st1 := []) rfl ⟨rfl, rfl⟩ (rk hR (Nat.le_of_ble_eq_true rfl) (Nat.le_of_ble_eq_true rfl)) (Nat.le_of_ble_eq_true rfl) dX10_errsAt_67 ?_
        obtain rfl := so1 hf
        exact k_drop [0, 1, 2, 3, 4, 5, 6] rfl kj59
  · refine k_iload_n (pc := 76) h dX10_errsAt_76 rfl 3 rfl ?_
    refine k_iconst (pc := 77) h dX10_errsAt_77 kc_iconst_m1 ?_
    obtain ⟨s15, hj, hf⟩ := ob_s hf
    have kj78 : sh_K G shM 98 [(0, .ref 0), (1, .int p1), (2, .int v1), (3, .int v2), (5, .int v7)] [] s15 := by
      refine k_iconst (pc := 98) h dX10_errsAt_98 kc_iconst_0 ?_
      refine k_istore (pc := 99) h dX10_errsAt_99 (nk hL (by decide)) (lv' := [(0, .ref 0), (1, .int p1), (2, .int v1), (3, .int v2), (5, .int v7), (6, .int (0 : Int32))]) rfl ?_
      obtain ⟨s20, hl, hf⟩ := ob_s hf
      refine k_drop (lv' := [(0, .ref 0), (1, .int p1), (2, .int v1), (3, .int v2), (5, .int v7), (6, .int (0 : Int32))]) [0, 1, 2, 3, 4, 5] rfl ?_
      refine lp_s (P := (fun q : Int32 × sh_S => sh_K G shM 101 [(0, .ref 0), (1, .int p1), (2, .int v1), (3, .int v2), (5, .int v7), (6, .int q.1)] [] q.2)) (Q := (fun q : sh_S => sh_K G shM 159 [(0, .ref 0), (1, .int p1), (3, .int v2), (5, .int v7)] [] q)) (s := ((0 : Int32), s15)) ?_ hl ?_
      · clear hf hl
        intro q rr hf kc101
        obtain ⟨v18, s19⟩ := q
        have hf : f_X10_errsAt_L101 p1 v1 v2 v7 v18 s19 = some rr := hf
        unfold f_X10_errsAt_L101 at hf
        refine k_iload (pc := 101) h dX10_errsAt_101 5 rfl ?_
        refine k_aload_n (pc := 103) h dX10_errsAt_103 rfl 0 rfl ?_
        refine k_getI (pc := 104) h fl_RX10_101 rfl rfl dX10_errsAt_104 ?_
        refine k_icmp_ge (pc := 107) (tgt := 159) h dX10_errsAt_107 rfl (fun hc => ?_) (fun hc => ?_)
        · have hf := it_p hc hf
          obtain rfl := so1 hf
          exact k_drop [0, 1, 3, 4] rfl kc101
        · have hf := it_n hc hf
          refine k_iload_n (pc := 110) h dX10_errsAt_110 rfl 3 rfl ?_
          refine k_iconst (pc := 111) h dX10_errsAt_111 kc_iconst_m1 ?_
          refine k_icmp_eq (pc := 112) (tgt := 159) h dX10_errsAt_112 rfl (fun hc => ?_) (fun hc => ?_)
          · have hf := it_p hc hf
            obtain rfl := so1 hf
            exact k_drop [0, 1, 3, 4] rfl kc101
          · have hf := it_n hc hf
            refine k_iload_n (pc := 115) h dX10_errsAt_115 rfl 2 rfl ?_
            refine k_iconst (pc := 116) h dX10_errsAt_116 kc_iconst_2 ?_
            have kb125_1 : f_X10_errsAt_B125_1 p1 s19 v7 v18 = some rr → sh_K G shM 125 [(0, .ref 0), (1, .int p1), (2, .int v1), (3, .int v2), (5, .int v7), (6, .int v18)] [] s19 := by
              clear hf
              intro  hf
              unfold f_X10_errsAt_B125_1 at hf
              refine k_iload (pc := 125) h dX10_errsAt_125 4 rfl ?_
              refine k_iload (pc := 127) h dX10_errsAt_127 5 rfl ?_
              obtain ⟨v21, cv21, hf⟩ := ob_s hf
              refine k_callSp (pc := 129) h cs_RX10_89 (c_X10_isIn v7 v18 _ v21 cv21) rfl rfl (st1 := [.int v21]) rfl ⟨rfl, rfl⟩ (rk hR (Nat.le_of_ble_eq_true rfl) (Nat.le_of_ble_eq_true rfl)) (Nat.le_of_ble_eq_true rfl) dX10_errsAt_129 ?_
              obtain ⟨s22, hj, hf⟩ := ob_s hf
              have kj132 : sh_K G shM 153 [(0, .ref 0), (1, .int p1), (2, .int v1), (3, .int v2), (5, .int v7), (6, .int v18)] [] s22 := by
                obtain ⟨v25, ev25, hf⟩ := lb_s hf
                refine k_iinc (pc := 153) h dX10_errsAt_153 5 rfl ((congrArg (_ + ·) kc_iconst_1).trans ev25.symm) (nk hL (by decide)) (lv' := [(0, .ref 0), (1, .int p1), (2, .int v1), (3, .int v2), (5, .int v7), (6, .int v25)]) rfl ?_
                refine k_goto (pc := 156) (tgt := 101) h dX10_errsAt_156 rfl ?_
                obtain rfl := so1 hf
                exact k_drop [0, 1, 2, 3, 4, 5] rfl kc101
              clear hf
              have hf := hj
              clear hj
              refine k_if_eq (pc := 132) (tgt := 153) h dX10_errsAt_132 rfl (fun hc => ?_) (fun hc => ?_)
              · have hf := it_p hc hf
                obtain rfl := so1 hf
                exact k_drop [0, 1, 2, 3, 4, 5] rfl kj132
              · have hf := it_n hc hf
                refine k_aload_n (pc := 135) h dX10_errsAt_135 rfl 0 rfl ?_
                refine k_iload (pc := 136) h dX10_errsAt_136 5 rfl ?_
                obtain ⟨v23, cv23, hf⟩ := ob_s hf
                refine k_callV0 (pc := 138) h cv_RX10_174 (c_X10_kind v18 s19 v23 cv23) rfl rfl rfl (st1 := [.int v23]) rfl ⟨rfl, rfl⟩ (rk hR (Nat.le_of_ble_eq_true rfl) (Nat.le_of_ble_eq_true rfl)) (Nat.le_of_ble_eq_true rfl) dX10_errsAt_138 ?_
                refine k_iconst (pc := 141) h dX10_errsAt_141 kc_iconst_3 ?_
                refine k_icmp_ne (pc := 142) (tgt := 153) h dX10_errsAt_142 rfl (fun hc => ?_) (fun hc => ?_)
                · have hf := it_n hc hf
                  obtain rfl := so1 hf
                  exact k_drop [0, 1, 2, 3, 4, 5] rfl kj132
                · have hf := it_p hc hf
                  refine k_aload_n (pc := 145) h dX10_errsAt_145 rfl 0 rfl ?_
                  refine k_iload_n (pc := 146) h dX10_errsAt_146 rfl 1 rfl ?_
                  refine k_iconst (pc := 147) h dX10_errsAt_147 kc_iconst_2 ?_
                  refine k_iload (pc := 148) h dX10_errsAt_148 5 rfl ?_
                  obtain ⟨s24, cs24, hf⟩ := ob_s hf
                  refine k_callV0 (pc := 150) h cv_RX10_241 (c_X10_errs p1 (2 : Int32) v18 s19 s24 cs24) rfl rfl rfl (st1 := []) rfl ⟨rfl, rfl⟩ (rk hR (Nat.le_of_ble_eq_true rfl) (Nat.le_of_ble_eq_true rfl)) (Nat.le_of_ble_eq_true rfl) dX10_errsAt_150 ?_
                  obtain rfl := so1 hf
                  exact k_drop [0, 1, 2, 3, 4, 5] rfl kj132
            refine k_icmp_eq (pc := 117) (tgt := 125) h dX10_errsAt_117 rfl (fun hc => ?_) (fun hc => ?_)
            · have hf := it_p hc hf
              exact k_drop [0, 1, 2, 3, 4, 5] rfl (kb125_1  hf)
            · have hf := it_n hc hf
              refine k_iload_n (pc := 120) h dX10_errsAt_120 rfl 2 rfl ?_
              refine k_iconst (pc := 121) h dX10_errsAt_121 kc_iconst_4 ?_
              refine k_icmp_ne (pc := 122) (tgt := 159) h dX10_errsAt_122 rfl (fun hc => ?_) (fun hc => ?_)
              · have hf := it_n hc hf
                obtain rfl := so1 hf
                exact k_drop [0, 1, 3, 4] rfl kc101
              · have hf := it_p hc hf
                exact k_drop [0, 1, 2, 3, 4, 5] rfl (kb125_1  hf)
      · refine k_aload_n (pc := 159) h dX10_errsAt_159 rfl 0 rfl ?_
        refine k_iload_n (pc := 160) h dX10_errsAt_160 rfl 1 rfl ?_
        obtain ⟨v26, cv26, hf⟩ := ob_s hf
        refine k_callV0 (pc := 161) h cv_RX10_143 (c_X10_lends p1 s20 v26 cv26) rfl rfl rfl (st1 := [.int v26]) rfl ⟨rfl, rfl⟩ (rk hR (Nat.le_of_ble_eq_true rfl) (Nat.le_of_ble_eq_true rfl)) (Nat.le_of_ble_eq_true rfl) dX10_errsAt_161 ?_
        obtain ⟨s27, hj, hf⟩ := ob_s hf
        have kj164 : sh_K G shM 195 [] [] s27 := by
          obtain rfl := so1 hf
          exact hret 195 _ dX10_errsAt_195 trivial
        clear hf
        have hf := hj
        clear hj
        refine k_if_eq (pc := 164) (tgt := 195) h dX10_errsAt_164 rfl (fun hc => ?_) (fun hc => ?_)
        · have hf := it_p hc hf
          obtain rfl := so1 hf
          exact k_drop [] rfl kj164
        · have hf := it_n hc hf
          refine k_iload_n (pc := 167) h dX10_errsAt_167 rfl 2 rfl ?_
          refine k_iconst (pc := 168) h dX10_errsAt_168 kc_iconst_m1 ?_
          refine k_icmp_ne (pc := 169) (tgt := 195) h dX10_errsAt_169 rfl (fun hc => ?_) (fun hc => ?_)
          · have hf := it_n hc hf
            obtain rfl := so1 hf
            exact k_drop [] rfl kj164
          · have hf := it_p hc hf
            refine k_iload (pc := 172) h dX10_errsAt_172 3 rfl ?_
            refine k_ldc (pc := 174) h dX10_errsAt_174 wd_1309 ?_
            refine k_iand (pc := 176) h dX10_errsAt_176 ?_
            refine k_if_eq (pc := 177) (tgt := 195) h dX10_errsAt_177 rfl (fun hc => ?_) (fun hc => ?_)
            · have hf := it_p hc hf
              obtain rfl := so1 hf
              exact k_drop [] rfl kj164
            · have hf := it_n hc hf
              refine k_aload_n (pc := 180) h dX10_errsAt_180 rfl 0 rfl ?_
              refine k_iload_n (pc := 181) h dX10_errsAt_181 rfl 1 rfl ?_
              refine k_iconst (pc := 182) h dX10_errsAt_182 kc_iconst_3 ?_
              refine k_aload_n (pc := 183) h dX10_errsAt_183 rfl 0 rfl ?_
              refine k_getR (pc := 184) h fl_RX10_16 rfl rfl dX10_errsAt_184 ?_
              refine k_iload_n (pc := 187) h dX10_errsAt_187 rfl 1 rfl ?_
              obtain ⟨g28, hf⟩ := gu_s hf
              refine k_iald (pc := 188) (n := 24) h rfl g28 dX10_errsAt_188 ?_
              obtain ⟨v29, cv29, hf⟩ := ob_s hf
              refine k_callSp (pc := 189) h cs_RX10_128 (c_X10_variable (s20 3 (ix p1)) _ v29 cv29) rfl rfl (st1 := [.int v29, .int (3 : Int32), .int p1, .ref 0]) rfl ⟨rfl, rfl⟩ (rk hR (Nat.le_of_ble_eq_true rfl) (Nat.le_of_ble_eq_true rfl)) (Nat.le_of_ble_eq_true rfl) dX10_errsAt_189 ?_
              obtain ⟨s30, cs30, hf⟩ := ob_s hf
              refine k_callV0 (pc := 192) h cv_RX10_241 (c_X10_errs p1 (3 : Int32) v29 s20 s30 cs30) rfl rfl rfl (st1 := []) rfl ⟨rfl, rfl⟩ (rk hR (Nat.le_of_ble_eq_true rfl) (Nat.le_of_ble_eq_true rfl)) (Nat.le_of_ble_eq_true rfl) dX10_errsAt_192 ?_
              obtain rfl := so1 hf
              exact k_drop [] rfl kj164
    clear hf
    have hf := hj
    clear hj
    refine k_icmp_eq (pc := 78) (tgt := 98) h dX10_errsAt_78 rfl (fun hc => ?_) (fun hc => ?_)
    · have hf := it_p hc hf
      obtain rfl := so1 hf
      exact k_drop [0, 1, 2, 3, 4] rfl kj78
    · have hf := it_n hc hf
      refine k_iload (pc := 81) h dX10_errsAt_81 4 rfl ?_
      refine k_bipush (pc := 83) h dX10_errsAt_83 kc_bipush_24 ?_
      obtain ⟨v16, cv16, hf⟩ := ob_s hf
      refine k_callSp (pc := 85) h cs_RX10_89 (c_X10_isIn v7 (24 : Int32) _ v16 cv16) rfl rfl (st1 := [.int v16]) rfl ⟨rfl, rfl⟩ (rk hR (Nat.le_of_ble_eq_true rfl) (Nat.le_of_ble_eq_true rfl)) (Nat.le_of_ble_eq_true rfl) dX10_errsAt_85 ?_
      refine k_if_eq (pc := 88) (tgt := 98) h dX10_errsAt_88 rfl (fun hc => ?_) (fun hc => ?_)
      · have hf := it_p hc hf
        obtain rfl := so1 hf
        exact k_drop [0, 1, 2, 3, 4] rfl kj78
      · have hf := it_n hc hf
        refine k_aload_n (pc := 91) h dX10_errsAt_91 rfl 0 rfl ?_
        refine k_iload_n (pc := 92) h dX10_errsAt_92 rfl 1 rfl ?_
        refine k_iconst (pc := 93) h dX10_errsAt_93 kc_iconst_1 ?_
        refine k_iload_n (pc := 94) h dX10_errsAt_94 rfl 3 rfl ?_
        obtain ⟨s17, cs17, hf⟩ := ob_s hf
        refine k_callV0 (pc := 95) h cv_RX10_241 (c_X10_errs p1 (1 : Int32) v2 s10 s17 cs17) rfl rfl rfl (st1 := []) rfl ⟨rfl, rfl⟩ (rk hR (Nat.le_of_ble_eq_true rfl) (Nat.le_of_ble_eq_true rfl)) (Nat.le_of_ble_eq_true rfl) dX10_errsAt_95 ?_
        obtain rfl := so1 hf
        exact k_drop [0, 1, 2, 3, 4] rfl kj78
theorem dX10_errsAll_0 : decode cX10_errsAll 0 = .ok (.aload_n 0, 1) := by decide +kernel
theorem dX10_errsAll_1 : decode cX10_errsAll 1 = .ok (.invokevirtual 193, 3) := by decide +kernel
theorem dX10_errsAll_4 : decode cX10_errsAll 4 = .ok (.aload_n 0, 1) := by decide +kernel
theorem dX10_errsAll_5 : decode cX10_errsAll 5 = .ok (.iconst 0, 1) := by decide +kernel
theorem dX10_errsAll_6 : decode cX10_errsAll 6 = .ok (.putfield 224, 3) := by decide +kernel
theorem dX10_errsAll_9 : decode cX10_errsAll 9 = .ok (.iconst 0, 1) := by decide +kernel
theorem dX10_errsAll_10 : decode cX10_errsAll 10 = .ok (.istore_n 1, 1) := by decide +kernel
theorem dX10_errsAll_11 : decode cX10_errsAll 11 = .ok (.iload_n 1, 1) := by decide +kernel
theorem dX10_errsAll_12 : decode cX10_errsAll 12 = .ok (.aload_n 0, 1) := by decide +kernel
theorem dX10_errsAll_13 : decode cX10_errsAll 13 = .ok (.getfield 101, 3) := by decide +kernel
theorem dX10_errsAll_16 : decode cX10_errsAll 16 = .ok (.if_icmp .ge 25, 3) := by decide +kernel
theorem dX10_errsAll_19 : decode cX10_errsAll 19 = .ok (.aload_n 0, 1) := by decide +kernel
theorem dX10_errsAll_20 : decode cX10_errsAll 20 = .ok (.getfield 146, 3) := by decide +kernel
theorem dX10_errsAll_23 : decode cX10_errsAll 23 = .ok (.iload_n 1, 1) := by decide +kernel
theorem dX10_errsAll_24 : decode cX10_errsAll 24 = .ok (.invokestatic 89, 3) := by decide +kernel
theorem dX10_errsAll_27 : decode cX10_errsAll 27 = .ok (.ifCond .eq 8, 3) := by decide +kernel
theorem dX10_errsAll_30 : decode cX10_errsAll 30 = .ok (.aload_n 0, 1) := by decide +kernel
theorem dX10_errsAll_31 : decode cX10_errsAll 31 = .ok (.iload_n 1, 1) := by decide +kernel
theorem dX10_errsAll_32 : decode cX10_errsAll 32 = .ok (.invokevirtual 246, 3) := by decide +kernel
theorem dX10_errsAll_35 : decode cX10_errsAll 35 = .ok (.iinc 1 1, 3) := by decide +kernel
theorem dX10_errsAll_38 : decode cX10_errsAll 38 = .ok (.goto (-27), 3) := by decide +kernel
theorem dX10_errsAll_41 : decode cX10_errsAll 41 = .ok (.return_, 1) := by decide +kernel
def f_X10_errsAll_L11 (v3 : Int32) (s4 : sh_S) : Option ((Int32 × sh_S) ⊕ (sh_S)) := (if (s4 0 0) ≤ v3 then some (.inr s4) else ob (f_X10_isIn (s4 0 5) v3) (fun v6 => ob (if v6 = 0 then some s4 else ob (f_X10_errsAt v3 s4) (fun s8 => some s8)) (fun s7 => lb (v3 + (1 : Int32)) (fun v9 => some (.inl (v9, s7))))))
def f_X10_errsAll  (s0 : sh_S) : Option (sh_S) := ob (f_X10_findsAll  s0) (fun s1 => lb (ur s1 0 (upd (s1 0) 12 (0 : Int32))) (fun s2 => ob (lp (fun q => f_X10_errsAll_L11 q.1 q.2) FU ((0 : Int32), s2)) (fun s5 => some s5)))
set_option maxRecDepth 100000 in
set_option maxHeartbeats 4000000 in
theorem c_X10_errsAll  (s0 : sh_S) (s9x : sh_S) (hf : f_X10_errsAll  s0 = some s9x) : Ctr yX10_errsAll cX10_errsAll 2 none ({ frames := 7, cells := 0, slots := 0, locals := 157 } : Room) shM [.ref 0] s0 none s9x := by
  refine Ctr.mk (ri := .return_) (by decide) (Nat.le_of_ble_eq_true rfl) (Rt_v) ?_
  intro G h hL hR hret
  refine k_drop (lv' := [(0, .ref 0)]) [0] rfl ?_
  unfold f_X10_errsAll at hf
  refine k_aload_n (pc := 0) h dX10_errsAll_0 rfl 0 rfl ?_
  obtain ⟨s1, cs1, hf⟩ := ob_s hf
  refine k_callV0 (pc := 1) h cv_RX10_193 (c_X10_findsAll  s0 s1 cs1) rfl rfl rfl (st1 := []) rfl ⟨rfl, rfl⟩ (rk hR (Nat.le_of_ble_eq_true rfl) (Nat.le_of_ble_eq_true rfl)) (Nat.le_of_ble_eq_true rfl) dX10_errsAll_1 ?_
  refine k_aload_n (pc := 4) h dX10_errsAll_4 rfl 0 rfl ?_
  refine k_iconst (pc := 5) h dX10_errsAll_5 kc_iconst_0 ?_
  obtain ⟨s2, es2, hf⟩ := lb_s hf
  refine k_put (pc := 6) h fl_RX10_224 fp_X10_12 rfl rfl rfl rfl dX10_errsAll_6 ?_
  refine k_heap es2 ?_
  refine k_iconst (pc := 9) h dX10_errsAll_9 kc_iconst_0 ?_
  refine k_istore_n (pc := 10) h dX10_errsAll_10 rfl (nk hL (by decide)) (lv' := [(0, .ref 0), (1, .int (0 : Int32))]) rfl ?_
  obtain ⟨s5, hl, hf⟩ := ob_s hf
  refine k_drop (lv' := [(0, .ref 0), (1, .int (0 : Int32))]) [0, 1] rfl ?_
  refine lp_s (P := (fun q : Int32 × sh_S => sh_K G shM 11 [(0, .ref 0), (1, .int q.1)] [] q.2)) (Q := (fun q : sh_S => sh_K G shM 41 [] [] q)) (s := ((0 : Int32), s2)) ?_ hl ?_
  · clear hf hl
    intro q rr hf kc11
    obtain ⟨v3, s4⟩ := q
    have hf : f_X10_errsAll_L11 v3 s4 = some rr := hf
    unfold f_X10_errsAll_L11 at hf
    refine k_iload_n (pc := 11) h dX10_errsAll_11 rfl 1 rfl ?_
    refine k_aload_n (pc := 12) h dX10_errsAll_12 rfl 0 rfl ?_
    refine k_getI (pc := 13) h fl_RX10_101 rfl rfl dX10_errsAll_13 ?_
    refine k_icmp_ge (pc := 16) (tgt := 41) h dX10_errsAll_16 rfl (fun hc => ?_) (fun hc => ?_)
    · have hf := it_p hc hf
      obtain rfl := so1 hf
      exact k_drop [] rfl kc11
    · have hf := it_n hc hf
      refine k_aload_n (pc := 19) h dX10_errsAll_19 rfl 0 rfl ?_
      refine k_getI (pc := 20) h fl_RX10_146 rfl rfl dX10_errsAll_20 ?_
      refine k_iload_n (pc := 23) h dX10_errsAll_23 rfl 1 rfl ?_
      obtain ⟨v6, cv6, hf⟩ := ob_s hf
      refine k_callSp (pc := 24) h cs_RX10_89 (c_X10_isIn (s4 0 5) v3 _ v6 cv6) rfl rfl (st1 := [.int v6]) rfl ⟨rfl, rfl⟩ (rk hR (Nat.le_of_ble_eq_true rfl) (Nat.le_of_ble_eq_true rfl)) (Nat.le_of_ble_eq_true rfl) dX10_errsAll_24 ?_
      obtain ⟨s7, hj, hf⟩ := ob_s hf
      have kj27 : sh_K G shM 35 [(0, .ref 0), (1, .int v3)] [] s7 := by
        obtain ⟨v9, ev9, hf⟩ := lb_s hf
        refine k_iinc (pc := 35) h dX10_errsAll_35 1 rfl ((congrArg (_ + ·) kc_iconst_1).trans ev9.symm) (nk hL (by decide)) (lv' := [(0, .ref 0), (1, .int v9)]) rfl ?_
        refine k_goto (pc := 38) (tgt := 11) h dX10_errsAll_38 rfl ?_
        obtain rfl := so1 hf
        exact k_drop [0, 1] rfl kc11
      clear hf
      have hf := hj
      clear hj
      refine k_if_eq (pc := 27) (tgt := 35) h dX10_errsAll_27 rfl (fun hc => ?_) (fun hc => ?_)
      · have hf := it_p hc hf
        obtain rfl := so1 hf
        exact k_drop [0, 1] rfl kj27
      · have hf := it_n hc hf
        refine k_aload_n (pc := 30) h dX10_errsAll_30 rfl 0 rfl ?_
        refine k_iload_n (pc := 31) h dX10_errsAll_31 rfl 1 rfl ?_
        obtain ⟨s8, cs8, hf⟩ := ob_s hf
        refine k_callV0 (pc := 32) h cv_RX10_246 (c_X10_errsAt v3 s4 s8 cs8) rfl rfl rfl (st1 := []) rfl ⟨rfl, rfl⟩ (rk hR (Nat.le_of_ble_eq_true rfl) (Nat.le_of_ble_eq_true rfl)) (Nat.le_of_ble_eq_true rfl) dX10_errsAll_32 ?_
        obtain rfl := so1 hf
        exact k_drop [0, 1] rfl kj27
  · obtain rfl := so1 hf
    exact hret 41 _ dX10_errsAll_41 trivial
theorem dX10_errorsOf_0 : decode cX10_errorsOf 0 = .ok (.aload_n 0, 1) := by decide +kernel
theorem dX10_errorsOf_1 : decode cX10_errorsOf 1 = .ok (.invokevirtual 249, 3) := by decide +kernel
theorem dX10_errorsOf_4 : decode cX10_errorsOf 4 = .ok (.aload_n 0, 1) := by decide +kernel
theorem dX10_errorsOf_5 : decode cX10_errorsOf 5 = .ok (.getfield 224, 3) := by decide +kernel
theorem dX10_errorsOf_8 : decode cX10_errorsOf 8 = .ok (.ireturn, 1) := by decide +kernel
def f_X10_errorsOf  (s0 : sh_S) : Option (Int32 × sh_S) := ob (f_X10_errsAll  s0) (fun s1 => some ((s1 0 12), s1))
set_option maxRecDepth 100000 in
set_option maxHeartbeats 4000000 in
theorem c_X10_errorsOf  (s0 : sh_S) (r : Int32) (s9x : sh_S) (hf : f_X10_errorsOf  s0 = some (r, s9x)) : Ctr yX10_errorsOf cX10_errorsOf 1 (some .int) ({ frames := 8, cells := 0, slots := 0, locals := 178 } : Room) shM [.ref 0] s0 (some (.int r)) s9x := by
  refine Ctr.mk (ri := .ireturn) (by decide) (Nat.le_of_ble_eq_true rfl) (Rt_i r) ?_
  intro G h hL hR hret
  refine k_drop (lv' := [(0, .ref 0)]) [0] rfl ?_
  unfold f_X10_errorsOf at hf
  refine k_aload_n (pc := 0) h dX10_errorsOf_0 rfl 0 rfl ?_
  obtain ⟨s1, cs1, hf⟩ := ob_s hf
  refine k_callV0 (pc := 1) h cv_RX10_249 (c_X10_errsAll  s0 s1 cs1) rfl rfl rfl (st1 := []) rfl ⟨rfl, rfl⟩ (rk hR (Nat.le_of_ble_eq_true rfl) (Nat.le_of_ble_eq_true rfl)) (Nat.le_of_ble_eq_true rfl) dX10_errorsOf_1 ?_
  refine k_aload_n (pc := 4) h dX10_errorsOf_4 rfl 0 rfl ?_
  refine k_getI (pc := 5) h fl_RX10_224 rfl rfl dX10_errorsOf_5 ?_
  obtain ⟨rfl, rfl⟩ := so2 hf
  exact hret 8 _ dX10_errorsOf_8 trivial
theorem dX10_errors_0 : decode cX10_errors 0 = .ok (.aload_n 0, 1) := by decide +kernel
theorem dX10_errors_1 : decode cX10_errors 1 = .ok (.invokevirtual 252, 3) := by decide +kernel
theorem dX10_errors_4 : decode cX10_errors 4 = .ok (.ireturn, 1) := by decide +kernel
def f_X10_errors  (s0 : sh_S) : Option (Int32 × sh_S) := ob2 (f_X10_errorsOf  s0) (fun v1 s2 => some (v1, s2))
set_option maxRecDepth 100000 in
set_option maxHeartbeats 4000000 in
theorem c_X10_errors  (s0 : sh_S) (r : Int32) (s9x : sh_S) (hf : f_X10_errors  s0 = some (r, s9x)) : Ctr yX10_errors cX10_errors 1 (some .int) ({ frames := 9, cells := 0, slots := 0, locals := 198 } : Room) shM [.ref 0] s0 (some (.int r)) s9x := by
  refine Ctr.mk (ri := .ireturn) (by decide) (Nat.le_of_ble_eq_true rfl) (Rt_i r) ?_
  intro G h hL hR hret
  refine k_drop (lv' := [(0, .ref 0)]) [0] rfl ?_
  unfold f_X10_errors at hf
  refine k_aload_n (pc := 0) h dX10_errors_0 rfl 0 rfl ?_
  obtain ⟨v1, s2, cv1, hf⟩ := ob2_s hf
  refine k_callV0 (pc := 1) h cv_RX10_252 (c_X10_errorsOf  s0 v1 s2 cv1) rfl rfl rfl (st1 := [.int v1]) rfl ⟨rfl, rfl⟩ (rk hR (Nat.le_of_ble_eq_true rfl) (Nat.le_of_ble_eq_true rfl)) (Nat.le_of_ble_eq_true rfl) dX10_errors_1 ?_
  obtain ⟨rfl, rfl⟩ := so2 hf
  exact hret 4 _ dX10_errors_4 trivial
theorem dX10_errorOf_0 : decode cX10_errorOf 0 = .ok (.aload_n 0, 1) := by decide +kernel
theorem dX10_errorOf_1 : decode cX10_errorOf 1 = .ok (.invokevirtual 249, 3) := by decide +kernel
theorem dX10_errorOf_4 : decode cX10_errorOf 4 = .ok (.iload_n 1, 1) := by decide +kernel
theorem dX10_errorOf_5 : decode cX10_errorOf 5 = .ok (.aload_n 0, 1) := by decide +kernel
theorem dX10_errorOf_6 : decode cX10_errorOf 6 = .ok (.getfield 224, 3) := by decide +kernel
theorem dX10_errorOf_9 : decode cX10_errorOf 9 = .ok (.if_icmp .lt 7, 3) := by decide +kernel
theorem dX10_errorOf_12 : decode cX10_errorOf 12 = .ok (.iconst (-1), 1) := by decide +kernel
theorem dX10_errorOf_13 : decode cX10_errorOf 13 = .ok (.goto 36, 3) := by decide +kernel
theorem dX10_errorOf_16 : decode cX10_errorOf 16 = .ok (.iload_n 2, 1) := by decide +kernel
theorem dX10_errorOf_17 : decode cX10_errorOf 17 = .ok (.ifCond .ne 12, 3) := by decide +kernel
theorem dX10_errorOf_20 : decode cX10_errorOf 20 = .ok (.aload_n 0, 1) := by decide +kernel
theorem dX10_errorOf_21 : decode cX10_errorOf 21 = .ok (.getfield 37, 3) := by decide +kernel
theorem dX10_errorOf_24 : decode cX10_errorOf 24 = .ok (.iload_n 1, 1) := by decide +kernel
theorem dX10_errorOf_25 : decode cX10_errorOf 25 = .ok (.iaload, 1) := by decide +kernel
theorem dX10_errorOf_26 : decode cX10_errorOf 26 = .ok (.goto 23, 3) := by decide +kernel
theorem dX10_errorOf_29 : decode cX10_errorOf 29 = .ok (.iload_n 2, 1) := by decide +kernel
theorem dX10_errorOf_30 : decode cX10_errorOf 30 = .ok (.iconst 1, 1) := by decide +kernel
theorem dX10_errorOf_31 : decode cX10_errorOf 31 = .ok (.if_icmp .ne 12, 3) := by decide +kernel
theorem dX10_errorOf_34 : decode cX10_errorOf 34 = .ok (.aload_n 0, 1) := by decide +kernel
theorem dX10_errorOf_35 : decode cX10_errorOf 35 = .ok (.getfield 40, 3) := by decide +kernel
theorem dX10_errorOf_38 : decode cX10_errorOf 38 = .ok (.iload_n 1, 1) := by decide +kernel
theorem dX10_errorOf_39 : decode cX10_errorOf 39 = .ok (.iaload, 1) := by decide +kernel
theorem dX10_errorOf_40 : decode cX10_errorOf 40 = .ok (.goto 9, 3) := by decide +kernel
theorem dX10_errorOf_43 : decode cX10_errorOf 43 = .ok (.aload_n 0, 1) := by decide +kernel
theorem dX10_errorOf_44 : decode cX10_errorOf 44 = .ok (.getfield 43, 3) := by decide +kernel
theorem dX10_errorOf_47 : decode cX10_errorOf 47 = .ok (.iload_n 1, 1) := by decide +kernel
theorem dX10_errorOf_48 : decode cX10_errorOf 48 = .ok (.iaload, 1) := by decide +kernel
theorem dX10_errorOf_49 : decode cX10_errorOf 49 = .ok (.ireturn, 1) := by decide +kernel
def f_X10_errorOf (p1 : Int32) (p2 : Int32) (s0 : sh_S) : Option (Int32 × sh_S) := ob (f_X10_errsAll  s0) (fun s1 => ob (if p1 < (s1 0 12) then (if p2 = 0 then gu (inb p1 1300) (some (s1 10 (ix p1))) else (if p2 = (1 : Int32) then gu (inb p1 1300) (some (s1 11 (ix p1))) else gu (inb p1 1300) (some (s1 12 (ix p1))))) else some (-1 : Int32)) (fun v2 => some (v2, s1)))
set_option maxRecDepth 100000 in
set_option maxHeartbeats 4000000 in
theorem c_X10_errorOf (p1 : Int32) (p2 : Int32) (s0 : sh_S) (r : Int32) (s9x : sh_S) (hf : f_X10_errorOf p1 p2 s0 = some (r, s9x)) : Ctr yX10_errorOf cX10_errorOf 3 (some .int) ({ frames := 8, cells := 0, slots := 0, locals := 178 } : Room) shM [.ref 0, .int p1, .int p2] s0 (some (.int r)) s9x := by
  refine Ctr.mk (ri := .ireturn) (by decide) (Nat.le_of_ble_eq_true rfl) (Rt_i r) ?_
  intro G h hL hR hret
  refine k_drop (lv' := [(0, .ref 0), (1, .int p1), (2, .int p2)]) [0, 1, 2] rfl ?_
  unfold f_X10_errorOf at hf
  refine k_aload_n (pc := 0) h dX10_errorOf_0 rfl 0 rfl ?_
  obtain ⟨s1, cs1, hf⟩ := ob_s hf
  refine k_callV0 (pc := 1) h cv_RX10_249 (c_X10_errsAll  s0 s1 cs1) rfl rfl rfl (st1 := []) rfl ⟨rfl, rfl⟩ (rk hR (Nat.le_of_ble_eq_true rfl) (Nat.le_of_ble_eq_true rfl)) (Nat.le_of_ble_eq_true rfl) dX10_errorOf_1 ?_
  refine k_iload_n (pc := 4) h dX10_errorOf_4 rfl 1 rfl ?_
  refine k_aload_n (pc := 5) h dX10_errorOf_5 rfl 0 rfl ?_
  refine k_getI (pc := 6) h fl_RX10_224 rfl rfl dX10_errorOf_6 ?_
  obtain ⟨v2, hj, hf⟩ := ob_s hf
  have kj9 : sh_K G shM 49 [] [.int v2] s1 := by
    obtain ⟨rfl, rfl⟩ := so2 hf
    exact hret 49 _ dX10_errorOf_49 trivial
  clear hf
  have hf := hj
  clear hj
  refine k_icmp_lt (pc := 9) (tgt := 16) h dX10_errorOf_9 rfl (fun hc => ?_) (fun hc => ?_)
  · have hf := it_p hc hf
    refine k_iload_n (pc := 16) h dX10_errorOf_16 rfl 2 rfl ?_
    refine k_if_ne (pc := 17) (tgt := 29) h dX10_errorOf_17 rfl (fun hc => ?_) (fun hc => ?_)
    · have hf := it_n hc hf
      refine k_iload_n (pc := 29) h dX10_errorOf_29 rfl 2 rfl ?_
      refine k_iconst (pc := 30) h dX10_errorOf_30 kc_iconst_1 ?_
      refine k_icmp_ne (pc := 31) (tgt := 43) h dX10_errorOf_31 rfl (fun hc => ?_) (fun hc => ?_)
      · have hf := it_n hc hf
        refine k_aload_n (pc := 43) h dX10_errorOf_43 rfl 0 rfl ?_
        refine k_getR (pc := 44) h fl_RX10_43 rfl rfl dX10_errorOf_44 ?_
        refine k_iload_n (pc := 47) h dX10_errorOf_47 rfl 1 rfl ?_
        obtain ⟨g3, hf⟩ := gu_s hf
        refine k_iald (pc := 48) (n := 1300) h rfl g3 dX10_errorOf_48 ?_
        obtain rfl := so1 hf
        exact k_drop [] rfl kj9
      · have hf := it_p hc hf
        refine k_aload_n (pc := 34) h dX10_errorOf_34 rfl 0 rfl ?_
        refine k_getR (pc := 35) h fl_RX10_40 rfl rfl dX10_errorOf_35 ?_
        refine k_iload_n (pc := 38) h dX10_errorOf_38 rfl 1 rfl ?_
        obtain ⟨g4, hf⟩ := gu_s hf
        refine k_iald (pc := 39) (n := 1300) h rfl g4 dX10_errorOf_39 ?_
        refine k_goto (pc := 40) (tgt := 49) h dX10_errorOf_40 rfl ?_
        obtain rfl := so1 hf
        exact k_drop [] rfl kj9
    · have hf := it_p hc hf
      refine k_aload_n (pc := 20) h dX10_errorOf_20 rfl 0 rfl ?_
      refine k_getR (pc := 21) h fl_RX10_37 rfl rfl dX10_errorOf_21 ?_
      refine k_iload_n (pc := 24) h dX10_errorOf_24 rfl 1 rfl ?_
      obtain ⟨g5, hf⟩ := gu_s hf
      refine k_iald (pc := 25) (n := 1300) h rfl g5 dX10_errorOf_25 ?_
      refine k_goto (pc := 26) (tgt := 49) h dX10_errorOf_26 rfl ?_
      obtain rfl := so1 hf
      exact k_drop [] rfl kj9
  · have hf := it_n hc hf
    refine k_iconst (pc := 12) h dX10_errorOf_12 kc_iconst_m1 ?_
    refine k_goto (pc := 13) (tgt := 49) h dX10_errorOf_13 rfl ?_
    obtain rfl := so1 hf
    exact k_drop [] rfl kj9
theorem dX10_error_0 : decode cX10_error 0 = .ok (.iload_n 1, 1) := by decide +kernel
theorem dX10_error_1 : decode cX10_error 1 = .ok (.iconst 0, 1) := by decide +kernel
theorem dX10_error_2 : decode cX10_error 2 = .ok (.sipush 999, 3) := by decide +kernel
theorem dX10_error_5 : decode cX10_error 5 = .ok (.invokestatic 93, 3) := by decide +kernel
theorem dX10_error_8 : decode cX10_error 8 = .ok (.ifCond .eq 21, 3) := by decide +kernel
theorem dX10_error_11 : decode cX10_error 11 = .ok (.iload_n 2, 1) := by decide +kernel
theorem dX10_error_12 : decode cX10_error 12 = .ok (.iconst 0, 1) := by decide +kernel
theorem dX10_error_13 : decode cX10_error 13 = .ok (.iconst 2, 1) := by decide +kernel
theorem dX10_error_14 : decode cX10_error 14 = .ok (.invokestatic 93, 3) := by decide +kernel
theorem dX10_error_17 : decode cX10_error 17 = .ok (.ifCond .eq 12, 3) := by decide +kernel
theorem dX10_error_20 : decode cX10_error 20 = .ok (.aload_n 0, 1) := by decide +kernel
theorem dX10_error_21 : decode cX10_error 21 = .ok (.iload_n 1, 1) := by decide +kernel
theorem dX10_error_22 : decode cX10_error 22 = .ok (.iload_n 2, 1) := by decide +kernel
theorem dX10_error_23 : decode cX10_error 23 = .ok (.invokevirtual 255, 3) := by decide +kernel
theorem dX10_error_26 : decode cX10_error 26 = .ok (.goto 5, 3) := by decide +kernel
theorem dX10_error_29 : decode cX10_error 29 = .ok (.bipush (-2), 2) := by decide +kernel
theorem dX10_error_31 : decode cX10_error 31 = .ok (.ireturn, 1) := by decide +kernel
def f_X10_error (p1 : Int32) (p2 : Int32) (s0 : sh_S) : Option (Int32 × sh_S) := ob (f_X10_in p1 (0 : Int32) (999 : Int32)) (fun v1 => ob2 (if v1 = 0 then some ((-2 : Int32), s0) else ob (f_X10_in p2 (0 : Int32) (2 : Int32)) (fun v4 => (if v4 = 0 then some ((-2 : Int32), s0) else ob2 (f_X10_errorOf p1 p2 s0) (fun v5 s6 => some (v5, s6))))) (fun v2 s3 => some (v2, s3)))
set_option maxRecDepth 100000 in
set_option maxHeartbeats 4000000 in
theorem c_X10_error (p1 : Int32) (p2 : Int32) (s0 : sh_S) (r : Int32) (s9x : sh_S) (hf : f_X10_error p1 p2 s0 = some (r, s9x)) : Ctr yX10_error cX10_error 3 (some .int) ({ frames := 9, cells := 0, slots := 0, locals := 200 } : Room) shM [.ref 0, .int p1, .int p2] s0 (some (.int r)) s9x := by
  refine Ctr.mk (ri := .ireturn) (by decide) (Nat.le_of_ble_eq_true rfl) (Rt_i r) ?_
  intro G h hL hR hret
  refine k_drop (lv' := [(0, .ref 0), (1, .int p1), (2, .int p2)]) [0, 1, 2] rfl ?_
  unfold f_X10_error at hf
  refine k_iload_n (pc := 0) h dX10_error_0 rfl 1 rfl ?_
  refine k_iconst (pc := 1) h dX10_error_1 kc_iconst_0 ?_
  refine k_sipush (pc := 2) h dX10_error_2 kc_sipush_999 ?_
  obtain ⟨v1, cv1, hf⟩ := ob_s hf
  refine k_callSp (pc := 5) h cs_RX10_93 (c_X10_in p1 (0 : Int32) (999 : Int32) _ v1 cv1) rfl rfl (st1 := [.int v1]) rfl ⟨rfl, rfl⟩ (rk hR (Nat.le_of_ble_eq_true rfl) (Nat.le_of_ble_eq_true rfl)) (Nat.le_of_ble_eq_true rfl) dX10_error_5 ?_
  obtain ⟨v2, s3, hj, hf⟩ := ob2_s hf
  have kj8 : sh_K G shM 31 [] [.int v2] s3 := by
    obtain ⟨rfl, rfl⟩ := so2 hf
    exact hret 31 _ dX10_error_31 trivial
  clear hf
  have hf := hj
  clear hj
  refine k_if_eq (pc := 8) (tgt := 29) h dX10_error_8 rfl (fun hc => ?_) (fun hc => ?_)
  · have hf := it_p hc hf
    refine k_bipush (pc := 29) h dX10_error_29 kc_bipush_m2 ?_
    obtain ⟨rfl, rfl⟩ := so2 hf
    exact k_drop [] rfl kj8
  · have hf := it_n hc hf
    refine k_iload_n (pc := 11) h dX10_error_11 rfl 2 rfl ?_
    refine k_iconst (pc := 12) h dX10_error_12 kc_iconst_0 ?_
    refine k_iconst (pc := 13) h dX10_error_13 kc_iconst_2 ?_
    obtain ⟨v4, cv4, hf⟩ := ob_s hf
    refine k_callSp (pc := 14) h cs_RX10_93 (c_X10_in p2 (0 : Int32) (2 : Int32) _ v4 cv4) rfl rfl (st1 := [.int v4]) rfl ⟨rfl, rfl⟩ (rk hR (Nat.le_of_ble_eq_true rfl) (Nat.le_of_ble_eq_true rfl)) (Nat.le_of_ble_eq_true rfl) dX10_error_14 ?_
    refine k_if_eq (pc := 17) (tgt := 29) h dX10_error_17 rfl (fun hc => ?_) (fun hc => ?_)
    · have hf := it_p hc hf
      refine k_bipush (pc := 29) h dX10_error_29 kc_bipush_m2 ?_
      obtain ⟨rfl, rfl⟩ := so2 hf
      exact k_drop [] rfl kj8
    · have hf := it_n hc hf
      refine k_aload_n (pc := 20) h dX10_error_20 rfl 0 rfl ?_
      refine k_iload_n (pc := 21) h dX10_error_21 rfl 1 rfl ?_
      refine k_iload_n (pc := 22) h dX10_error_22 rfl 2 rfl ?_
      obtain ⟨v5, s6, cv5, hf⟩ := ob2_s hf
      refine k_callV0 (pc := 23) h cv_RX10_255 (c_X10_errorOf p1 p2 s0 v5 s6 cv5) rfl rfl rfl (st1 := [.int v5]) rfl ⟨rfl, rfl⟩ (rk hR (Nat.le_of_ble_eq_true rfl) (Nat.le_of_ble_eq_true rfl)) (Nat.le_of_ble_eq_true rfl) dX10_error_23 ?_
      refine k_goto (pc := 26) (tgt := 31) h dX10_error_26 rfl ?_
      obtain ⟨rfl, rfl⟩ := so2 hf
      exact k_drop [] rfl kj8
theorem dX10_goesTo_0 : decode cX10_goesTo 0 = .ok (.aload_n 0, 1) := by decide +kernel
theorem dX10_goesTo_1 : decode cX10_goesTo 1 = .ok (.getfield 49, 3) := by decide +kernel
theorem dX10_goesTo_4 : decode cX10_goesTo 4 = .ok (.aload_n 0, 1) := by decide +kernel
theorem dX10_goesTo_5 : decode cX10_goesTo 5 = .ok (.getfield 258, 3) := by decide +kernel
theorem dX10_goesTo_8 : decode cX10_goesTo 8 = .ok (.iload_n 1, 1) := by decide +kernel
theorem dX10_goesTo_9 : decode cX10_goesTo 9 = .ok (.iastore, 1) := by decide +kernel
theorem dX10_goesTo_10 : decode cX10_goesTo 10 = .ok (.aload_n 0, 1) := by decide +kernel
theorem dX10_goesTo_11 : decode cX10_goesTo 11 = .ok (.dup, 1) := by decide +kernel
theorem dX10_goesTo_12 : decode cX10_goesTo 12 = .ok (.getfield 258, 3) := by decide +kernel
theorem dX10_goesTo_15 : decode cX10_goesTo 15 = .ok (.iconst 1, 1) := by decide +kernel
theorem dX10_goesTo_16 : decode cX10_goesTo 16 = .ok (.iadd, 1) := by decide +kernel
theorem dX10_goesTo_17 : decode cX10_goesTo 17 = .ok (.putfield 258, 3) := by decide +kernel
theorem dX10_goesTo_20 : decode cX10_goesTo 20 = .ok (.return_, 1) := by decide +kernel
def f_X10_goesTo (p1 : Int32) (s0 : sh_S) : Option (sh_S) := gu (inb (s0 0 17) 60) (lb (ur s0 14 (upd (s0 14) (ix (s0 0 17)) p1)) (fun s2 => lb (ur s2 0 (upd (s2 0) 17 ((s2 0 17) + (1 : Int32)))) (fun s3 => some s3)))
set_option maxRecDepth 100000 in
set_option maxHeartbeats 4000000 in
theorem c_X10_goesTo (p1 : Int32) (s0 : sh_S) (s9x : sh_S) (hf : f_X10_goesTo p1 s0 = some s9x) : Ctr yX10_goesTo cX10_goesTo 2 none ({ frames := 0, cells := 0, slots := 0, locals := 0 } : Room) shM [.ref 0, .int p1] s0 none s9x := by
  refine Ctr.mk (ri := .return_) (by decide) (Nat.le_of_ble_eq_true rfl) (Rt_v) ?_
  intro G h hL hR hret
  refine k_drop (lv' := [(0, .ref 0), (1, .int p1)]) [0, 1] rfl ?_
  unfold f_X10_goesTo at hf
  refine k_aload_n (pc := 0) h dX10_goesTo_0 rfl 0 rfl ?_
  refine k_getR (pc := 1) h fl_RX10_49 rfl rfl dX10_goesTo_1 ?_
  refine k_aload_n (pc := 4) h dX10_goesTo_4 rfl 0 rfl ?_
  refine k_getI (pc := 5) h fl_RX10_258 rfl rfl dX10_goesTo_5 ?_
  refine k_iload_n (pc := 8) h dX10_goesTo_8 rfl 1 rfl ?_
  obtain ⟨g1, hf⟩ := gu_s hf
  obtain ⟨s2, es2, hf⟩ := lb_s hf
  refine k_iast (pc := 9) (n := 60) h rfl g1 dX10_goesTo_9 ?_
  refine k_heap es2 ?_
  refine k_aload_n (pc := 10) h dX10_goesTo_10 rfl 0 rfl ?_
  refine k_dup (pc := 11) h dX10_goesTo_11 rfl ?_
  refine k_getI (pc := 12) h fl_RX10_258 rfl rfl dX10_goesTo_12 ?_
  refine k_iconst (pc := 15) h dX10_goesTo_15 kc_iconst_1 ?_
  refine k_iadd (pc := 16) h dX10_goesTo_16 ?_
  obtain ⟨s3, es3, hf⟩ := lb_s hf
  refine k_put (pc := 17) h fl_RX10_258 fp_X10_17 rfl rfl rfl rfl dX10_goesTo_17 ?_
  refine k_heap es3 ?_
  obtain rfl := so1 hf
  exact hret 20 _ dX10_goesTo_20 trivial
theorem dX10_nearest_0 : decode cX10_nearest 0 = .ok (.iconst (-1), 1) := by decide +kernel
theorem dX10_nearest_1 : decode cX10_nearest 1 = .ok (.istore_n 2, 1) := by decide +kernel
theorem dX10_nearest_2 : decode cX10_nearest 2 = .ok (.iconst 0, 1) := by decide +kernel
theorem dX10_nearest_3 : decode cX10_nearest 3 = .ok (.istore_n 3, 1) := by decide +kernel
theorem dX10_nearest_4 : decode cX10_nearest 4 = .ok (.iload_n 3, 1) := by decide +kernel
theorem dX10_nearest_5 : decode cX10_nearest 5 = .ok (.aload_n 0, 1) := by decide +kernel
theorem dX10_nearest_6 : decode cX10_nearest 6 = .ok (.getfield 101, 3) := by decide +kernel
theorem dX10_nearest_9 : decode cX10_nearest 9 = .ok (.if_icmp .ge 70, 3) := by decide +kernel
theorem dX10_nearest_12 : decode cX10_nearest 12 = .ok (.aload_n 0, 1) := by decide +kernel
theorem dX10_nearest_13 : decode cX10_nearest 13 = .ok (.iload_n 1, 1) := by decide +kernel
theorem dX10_nearest_14 : decode cX10_nearest 14 = .ok (.invokevirtual 140, 3) := by decide +kernel
theorem dX10_nearest_17 : decode cX10_nearest 17 = .ok (.iload_n 3, 1) := by decide +kernel
theorem dX10_nearest_18 : decode cX10_nearest 18 = .ok (.invokestatic 89, 3) := by decide +kernel
theorem dX10_nearest_21 : decode cX10_nearest 21 = .ok (.ifCond .eq 18, 3) := by decide +kernel
theorem dX10_nearest_24 : decode cX10_nearest 24 = .ok (.aload_n 0, 1) := by decide +kernel
theorem dX10_nearest_25 : decode cX10_nearest 25 = .ok (.getfield 46, 3) := by decide +kernel
theorem dX10_nearest_28 : decode cX10_nearest 28 = .ok (.iload_n 3, 1) := by decide +kernel
theorem dX10_nearest_29 : decode cX10_nearest 29 = .ok (.iaload, 1) := by decide +kernel
theorem dX10_nearest_30 : decode cX10_nearest 30 = .ok (.bipush 99, 2) := by decide +kernel
theorem dX10_nearest_32 : decode cX10_nearest 32 = .ok (.if_icmp .ge 7, 3) := by decide +kernel
theorem dX10_nearest_35 : decode cX10_nearest 35 = .ok (.iconst 1, 1) := by decide +kernel
theorem dX10_nearest_36 : decode cX10_nearest 36 = .ok (.goto 4, 3) := by decide +kernel
theorem dX10_nearest_39 : decode cX10_nearest 39 = .ok (.iconst 0, 1) := by decide +kernel
theorem dX10_nearest_40 : decode cX10_nearest 40 = .ok (.istore 4, 2) := by decide +kernel
theorem dX10_nearest_42 : decode cX10_nearest 42 = .ok (.iload 4, 2) := by decide +kernel
theorem dX10_nearest_44 : decode cX10_nearest 44 = .ok (.ifCond .eq 27, 3) := by decide +kernel
theorem dX10_nearest_47 : decode cX10_nearest 47 = .ok (.iload_n 2, 1) := by decide +kernel
theorem dX10_nearest_48 : decode cX10_nearest 48 = .ok (.iconst (-1), 1) := by decide +kernel
theorem dX10_nearest_49 : decode cX10_nearest 49 = .ok (.if_icmp .eq 18, 3) := by decide +kernel
theorem dX10_nearest_52 : decode cX10_nearest 52 = .ok (.aload_n 0, 1) := by decide +kernel
theorem dX10_nearest_53 : decode cX10_nearest 53 = .ok (.getfield 46, 3) := by decide +kernel
theorem dX10_nearest_56 : decode cX10_nearest 56 = .ok (.iload_n 3, 1) := by decide +kernel
theorem dX10_nearest_57 : decode cX10_nearest 57 = .ok (.iaload, 1) := by decide +kernel
theorem dX10_nearest_58 : decode cX10_nearest 58 = .ok (.aload_n 0, 1) := by decide +kernel
theorem dX10_nearest_59 : decode cX10_nearest 59 = .ok (.getfield 46, 3) := by decide +kernel
theorem dX10_nearest_62 : decode cX10_nearest 62 = .ok (.iload_n 2, 1) := by decide +kernel
theorem dX10_nearest_63 : decode cX10_nearest 63 = .ok (.iaload, 1) := by decide +kernel
theorem dX10_nearest_64 : decode cX10_nearest 64 = .ok (.if_icmp .ge 7, 3) := by decide +kernel
theorem dX10_nearest_67 : decode cX10_nearest 67 = .ok (.iload_n 3, 1) := by decide +kernel
theorem dX10_nearest_68 : decode cX10_nearest 68 = .ok (.goto 4, 3) := by decide +kernel
theorem dX10_nearest_71 : decode cX10_nearest 71 = .ok (.iload_n 2, 1) := by decide +kernel
theorem dX10_nearest_72 : decode cX10_nearest 72 = .ok (.istore_n 2, 1) := by decide +kernel
theorem dX10_nearest_73 : decode cX10_nearest 73 = .ok (.iinc 3 1, 3) := by decide +kernel
theorem dX10_nearest_76 : decode cX10_nearest 76 = .ok (.goto (-72), 3) := by decide +kernel
theorem dX10_nearest_79 : decode cX10_nearest 79 = .ok (.iload_n 2, 1) := by decide +kernel
theorem dX10_nearest_80 : decode cX10_nearest 80 = .ok (.ireturn, 1) := by decide +kernel
def f_X10_nearest_L4 (p1 : Int32) (s0 : sh_S) (v1 : Int32) (v2 : Int32) : Option ((Int32 × Int32) ⊕ (Int32)) := (if (s0 0 0) ≤ v2 then some (.inr v1) else ob (f_X10_nextOf p1 s0) (fun v4 => ob (f_X10_isIn v4 v2) (fun v5 => ob (if v5 = 0 then some (0 : Int32) else gu (inb v2 24) ((if (99 : Int32) ≤ (s0 13 (ix v2)) then some (0 : Int32) else some (1 : Int32)))) (fun v6 => ob (if v6 = 0 then some v1 else (if v1 = (-1 : Int32) then some v2 else gu (inb v2 24) (gu (inb v1 24) ((if (s0 13 (ix v1)) ≤ (s0 13 (ix v2)) then some v1 else some v2))))) (fun v8 => lb (v2 + (1 : Int32)) (fun v11 => some (.inl (v8, v11))))))))
def f_X10_nearest (p1 : Int32) (s0 : sh_S) : Option (Int32) := ob (lp (fun q => f_X10_nearest_L4 p1 s0 q.1 q.2) FU ((-1 : Int32), (0 : Int32))) (fun v3 => some v3)
set_option maxRecDepth 100000 in
set_option maxHeartbeats 4000000 in
theorem c_X10_nearest (p1 : Int32) (s0 : sh_S) (r : Int32) (hf : f_X10_nearest p1 s0 = some r) : Ctr yX10_nearest cX10_nearest 5 (some .int) ({ frames := 4, cells := 0, slots := 0, locals := 87 } : Room) shM [.ref 0, .int p1] s0 (some (.int r)) s0 := by
  refine Ctr.mk (ri := .ireturn) (by decide) (Nat.le_of_ble_eq_true rfl) (Rt_i r) ?_
  intro G h hL hR hret
  refine k_drop (lv' := [(0, .ref 0), (1, .int p1)]) [0, 1] rfl ?_
  unfold f_X10_nearest at hf
  refine k_iconst (pc := 0) h dX10_nearest_0 kc_iconst_m1 ?_
  refine k_istore_n (pc := 1) h dX10_nearest_1 rfl (nk hL (by decide)) (lv' := [(0, .ref 0), (1, .int p1), (2, .int (-1 : Int32))]) rfl ?_
  refine k_iconst (pc := 2) h dX10_nearest_2 kc_iconst_0 ?_
  refine k_istore_n (pc := 3) h dX10_nearest_3 rfl (nk hL (by decide)) (lv' := [(0, .ref 0), (1, .int p1), (2, .int (-1 : Int32)), (3, .int (0 : Int32))]) rfl ?_
  obtain ⟨v3, hl, hf⟩ := ob_s hf
  refine k_drop (lv' := [(0, .ref 0), (1, .int p1), (2, .int (-1 : Int32)), (3, .int (0 : Int32))]) [0, 1, 2, 3] rfl ?_
  refine lp_s (P := (fun q : Int32 × Int32 => sh_K G shM 4 [(0, .ref 0), (1, .int p1), (2, .int q.1), (3, .int q.2)] [] s0)) (Q := (fun q : Int32 => sh_K G shM 79 [(2, .int q)] [] s0)) (s := ((-1 : Int32), (0 : Int32))) ?_ hl ?_
  · clear hf hl
    intro q rr hf kc4
    obtain ⟨v1, v2⟩ := q
    have hf : f_X10_nearest_L4 p1 s0 v1 v2 = some rr := hf
    unfold f_X10_nearest_L4 at hf
    refine k_iload_n (pc := 4) h dX10_nearest_4 rfl 3 rfl ?_
    refine k_aload_n (pc := 5) h dX10_nearest_5 rfl 0 rfl ?_
    refine k_getI (pc := 6) h fl_RX10_101 rfl rfl dX10_nearest_6 ?_
    refine k_icmp_ge (pc := 9) (tgt := 79) h dX10_nearest_9 rfl (fun hc => ?_) (fun hc => ?_)
    · have hf := it_p hc hf
      obtain rfl := so1 hf
      exact k_drop [2] rfl kc4
    · have hf := it_n hc hf
      refine k_aload_n (pc := 12) h dX10_nearest_12 rfl 0 rfl ?_
      refine k_iload_n (pc := 13) h dX10_nearest_13 rfl 1 rfl ?_
      obtain ⟨v4, cv4, hf⟩ := ob_s hf
      refine k_callV0 (pc := 14) h cv_RX10_140 (c_X10_nextOf p1 s0 v4 cv4) rfl rfl rfl (st1 := [.int v4]) rfl ⟨rfl, rfl⟩ (rk hR (Nat.le_of_ble_eq_true rfl) (Nat.le_of_ble_eq_true rfl)) (Nat.le_of_ble_eq_true rfl) dX10_nearest_14 ?_
      refine k_iload_n (pc := 17) h dX10_nearest_17 rfl 3 rfl ?_
      obtain ⟨v5, cv5, hf⟩ := ob_s hf
      refine k_callSp (pc := 18) h cs_RX10_89 (c_X10_isIn v4 v2 _ v5 cv5) rfl rfl (st1 := [.int v5]) rfl ⟨rfl, rfl⟩ (rk hR (Nat.le_of_ble_eq_true rfl) (Nat.le_of_ble_eq_true rfl)) (Nat.le_of_ble_eq_true rfl) dX10_nearest_18 ?_
      obtain ⟨v6, hj, hf⟩ := ob_s hf
      have kj21 : sh_K G shM 40 [(0, .ref 0), (1, .int p1), (2, .int v1), (3, .int v2)] [.int v6] s0 := by
        refine k_istore (pc := 40) h dX10_nearest_40 (nk hL (by decide)) (lv' := [(0, .ref 0), (1, .int p1), (2, .int v1), (3, .int v2), (4, .int v6)]) rfl ?_
        refine k_iload (pc := 42) h dX10_nearest_42 4 rfl ?_
        obtain ⟨v8, hj, hf⟩ := ob_s hf
        have kj44 : sh_K G shM 72 [(0, .ref 0), (1, .int p1), (3, .int v2)] [.int v8] s0 := by
          refine k_istore_n (pc := 72) h dX10_nearest_72 rfl (nk hL (by decide)) (lv' := [(0, .ref 0), (1, .int p1), (2, .int v8), (3, .int v2)]) rfl ?_
          obtain ⟨v11, ev11, hf⟩ := lb_s hf
          refine k_iinc (pc := 73) h dX10_nearest_73 3 rfl ((congrArg (_ + ·) kc_iconst_1).trans ev11.symm) (nk hL (by decide)) (lv' := [(0, .ref 0), (1, .int p1), (2, .int v8), (3, .int v11)]) rfl ?_
          refine k_goto (pc := 76) (tgt := 4) h dX10_nearest_76 rfl ?_
          obtain rfl := so1 hf
          exact k_drop [0, 1, 2, 3] rfl kc4
        clear hf
        have hf := hj
        clear hj
        refine k_if_eq (pc := 44) (tgt := 71) h dX10_nearest_44 rfl (fun hc => ?_) (fun hc => ?_)
        · have hf := it_p hc hf
          refine k_iload_n (pc := 71) h dX10_nearest_71 rfl 2 rfl ?_
          obtain rfl := so1 hf
          exact k_drop [0, 1, 3] rfl kj44
        · have hf := it_n hc hf
          refine k_iload_n (pc := 47) h dX10_nearest_47 rfl 2 rfl ?_
          refine k_iconst (pc := 48) h dX10_nearest_48 kc_iconst_m1 ?_
          refine k_icmp_eq (pc := 49) (tgt := 67) h dX10_nearest_49 rfl (fun hc => ?_) (fun hc => ?_)
          · have hf := it_p hc hf
            refine k_iload_n (pc := 67) h dX10_nearest_67 rfl 3 rfl ?_
            refine k_goto (pc := 68) (tgt := 72) h dX10_nearest_68 rfl ?_
            obtain rfl := so1 hf
            exact k_drop [0, 1, 3] rfl kj44
          · have hf := it_n hc hf
            refine k_aload_n (pc := 52) h dX10_nearest_52 rfl 0 rfl ?_
            refine k_getR (pc := 53) h fl_RX10_46 rfl rfl dX10_nearest_53 ?_
            refine k_iload_n (pc := 56) h dX10_nearest_56 rfl 3 rfl ?_
            obtain ⟨g9, hf⟩ := gu_s hf
            refine k_iald (pc := 57) (n := 24) h rfl g9 dX10_nearest_57 ?_
            refine k_aload_n (pc := 58) h dX10_nearest_58 rfl 0 rfl ?_
            refine k_getR (pc := 59) h fl_RX10_46 rfl rfl dX10_nearest_59 ?_
            refine k_iload_n (pc := 62) h dX10_nearest_62 rfl 2 rfl ?_
            obtain ⟨g10, hf⟩ := gu_s hf
            refine k_iald (pc := 63) (n := 24) h rfl g10 dX10_nearest_63 ?_
            refine k_icmp_ge (pc := 64) (tgt := 71) h dX10_nearest_64 rfl (fun hc => ?_) (fun hc => ?_)
            · have hf := it_p hc hf
              refine k_iload_n (pc := 71) h dX10_nearest_71 rfl 2 rfl ?_
              obtain rfl := so1 hf
              exact k_drop [0, 1, 3] rfl kj44
            · have hf := it_n hc hf
              refine k_iload_n (pc := 67) h dX10_nearest_67 rfl 3 rfl ?_
              refine k_goto (pc := 68) (tgt := 72) h dX10_nearest_68 rfl ?_
              obtain rfl := so1 hf
              exact k_drop [0, 1, 3] rfl kj44
      clear hf
      have hf := hj
      clear hj
      refine k_if_eq (pc := 21) (tgt := 39) h dX10_nearest_21 rfl (fun hc => ?_) (fun hc => ?_)
      · have hf := it_p hc hf
        refine k_iconst (pc := 39) h dX10_nearest_39 kc_iconst_0 ?_
        obtain rfl := so1 hf
        exact k_drop [0, 1, 2, 3] rfl kj21
      · have hf := it_n hc hf
        refine k_aload_n (pc := 24) h dX10_nearest_24 rfl 0 rfl ?_
        refine k_getR (pc := 25) h fl_RX10_46 rfl rfl dX10_nearest_25 ?_
        refine k_iload_n (pc := 28) h dX10_nearest_28 rfl 3 rfl ?_
        obtain ⟨g7, hf⟩ := gu_s hf
        refine k_iald (pc := 29) (n := 24) h rfl g7 dX10_nearest_29 ?_
        refine k_bipush (pc := 30) h dX10_nearest_30 kc_bipush_99 ?_
        refine k_icmp_ge (pc := 32) (tgt := 39) h dX10_nearest_32 rfl (fun hc => ?_) (fun hc => ?_)
        · have hf := it_p hc hf
          refine k_iconst (pc := 39) h dX10_nearest_39 kc_iconst_0 ?_
          obtain rfl := so1 hf
          exact k_drop [0, 1, 2, 3] rfl kj21
        · have hf := it_n hc hf
          refine k_iconst (pc := 35) h dX10_nearest_35 kc_iconst_1 ?_
          refine k_goto (pc := 36) (tgt := 40) h dX10_nearest_36 rfl ?_
          obtain rfl := so1 hf
          exact k_drop [0, 1, 2, 3] rfl kj21
  · refine k_iload_n (pc := 79) h dX10_nearest_79 rfl 0 rfl ?_
    obtain rfl := so1 hf
    exact hret 80 _ dX10_nearest_80 trivial
theorem dX10_measures_0 : decode cX10_measures 0 = .ok (.iconst 0, 1) := by decide +kernel
theorem dX10_measures_1 : decode cX10_measures 1 = .ok (.istore_n 3, 1) := by decide +kernel
theorem dX10_measures_2 : decode cX10_measures 2 = .ok (.iload_n 3, 1) := by decide +kernel
theorem dX10_measures_3 : decode cX10_measures 3 = .ok (.bipush 24, 2) := by decide +kernel
theorem dX10_measures_5 : decode cX10_measures 5 = .ok (.if_icmp .ge 29, 3) := by decide +kernel
theorem dX10_measures_8 : decode cX10_measures 8 = .ok (.aload_n 0, 1) := by decide +kernel
theorem dX10_measures_9 : decode cX10_measures 9 = .ok (.getfield 46, 3) := by decide +kernel
theorem dX10_measures_12 : decode cX10_measures 12 = .ok (.iload_n 3, 1) := by decide +kernel
theorem dX10_measures_13 : decode cX10_measures 13 = .ok (.iload_n 1, 1) := by decide +kernel
theorem dX10_measures_14 : decode cX10_measures 14 = .ok (.iload_n 3, 1) := by decide +kernel
theorem dX10_measures_15 : decode cX10_measures 15 = .ok (.invokestatic 89, 3) := by decide +kernel
theorem dX10_measures_18 : decode cX10_measures 18 = .ok (.ifCond .eq 7, 3) := by decide +kernel
theorem dX10_measures_21 : decode cX10_measures 21 = .ok (.iconst 0, 1) := by decide +kernel
theorem dX10_measures_22 : decode cX10_measures 22 = .ok (.goto 5, 3) := by decide +kernel
theorem dX10_measures_25 : decode cX10_measures 25 = .ok (.bipush 99, 2) := by decide +kernel
theorem dX10_measures_27 : decode cX10_measures 27 = .ok (.iastore, 1) := by decide +kernel
theorem dX10_measures_28 : decode cX10_measures 28 = .ok (.iinc 3 1, 3) := by decide +kernel
theorem dX10_measures_31 : decode cX10_measures 31 = .ok (.goto (-29), 3) := by decide +kernel
theorem dX10_measures_34 : decode cX10_measures 34 = .ok (.iconst 0, 1) := by decide +kernel
theorem dX10_measures_35 : decode cX10_measures 35 = .ok (.istore_n 3, 1) := by decide +kernel
theorem dX10_measures_36 : decode cX10_measures 36 = .ok (.iload_n 3, 1) := by decide +kernel
theorem dX10_measures_37 : decode cX10_measures 37 = .ok (.aload_n 0, 1) := by decide +kernel
theorem dX10_measures_38 : decode cX10_measures 38 = .ok (.getfield 101, 3) := by decide +kernel
theorem dX10_measures_41 : decode cX10_measures 41 = .ok (.if_icmp .ge 116, 3) := by decide +kernel
theorem dX10_measures_44 : decode cX10_measures 44 = .ok (.iconst 0, 1) := by decide +kernel
theorem dX10_measures_45 : decode cX10_measures 45 = .ok (.istore 4, 2) := by decide +kernel
theorem dX10_measures_47 : decode cX10_measures 47 = .ok (.iload 4, 2) := by decide +kernel
theorem dX10_measures_49 : decode cX10_measures 49 = .ok (.aload_n 0, 1) := by decide +kernel
theorem dX10_measures_50 : decode cX10_measures 50 = .ok (.getfield 101, 3) := by decide +kernel
theorem dX10_measures_53 : decode cX10_measures 53 = .ok (.if_icmp .ge 98, 3) := by decide +kernel
theorem dX10_measures_56 : decode cX10_measures 56 = .ok (.aload_n 0, 1) := by decide +kernel
theorem dX10_measures_57 : decode cX10_measures 57 = .ok (.iload 4, 2) := by decide +kernel
theorem dX10_measures_59 : decode cX10_measures 59 = .ok (.invokevirtual 261, 3) := by decide +kernel
theorem dX10_measures_62 : decode cX10_measures 62 = .ok (.istore 5, 2) := by decide +kernel
theorem dX10_measures_64 : decode cX10_measures 64 = .ok (.iload_n 2, 1) := by decide +kernel
theorem dX10_measures_65 : decode cX10_measures 65 = .ok (.iload 4, 2) := by decide +kernel
theorem dX10_measures_67 : decode cX10_measures 67 = .ok (.invokestatic 89, 3) := by decide +kernel
theorem dX10_measures_70 : decode cX10_measures 70 = .ok (.ifCond .eq 41, 3) := by decide +kernel
theorem dX10_measures_73 : decode cX10_measures 73 = .ok (.iload 5, 2) := by decide +kernel
theorem dX10_measures_75 : decode cX10_measures 75 = .ok (.iconst (-1), 1) := by decide +kernel
theorem dX10_measures_76 : decode cX10_measures 76 = .ok (.if_icmp .eq 35, 3) := by decide +kernel
theorem dX10_measures_79 : decode cX10_measures 79 = .ok (.aload_n 0, 1) := by decide +kernel
theorem dX10_measures_80 : decode cX10_measures 80 = .ok (.getfield 46, 3) := by decide +kernel
theorem dX10_measures_83 : decode cX10_measures 83 = .ok (.iload 5, 2) := by decide +kernel
theorem dX10_measures_85 : decode cX10_measures 85 = .ok (.ifCond .ge 7, 3) := by decide +kernel
theorem dX10_measures_88 : decode cX10_measures 88 = .ok (.iconst 0, 1) := by decide +kernel
theorem dX10_measures_89 : decode cX10_measures 89 = .ok (.goto 5, 3) := by decide +kernel
theorem dX10_measures_92 : decode cX10_measures 92 = .ok (.iload 5, 2) := by decide +kernel
theorem dX10_measures_94 : decode cX10_measures 94 = .ok (.iaload, 1) := by decide +kernel
theorem dX10_measures_95 : decode cX10_measures 95 = .ok (.iconst 1, 1) := by decide +kernel
theorem dX10_measures_96 : decode cX10_measures 96 = .ok (.iadd, 1) := by decide +kernel
theorem dX10_measures_97 : decode cX10_measures 97 = .ok (.aload_n 0, 1) := by decide +kernel
theorem dX10_measures_98 : decode cX10_measures 98 = .ok (.getfield 46, 3) := by decide +kernel
theorem dX10_measures_101 : decode cX10_measures 101 = .ok (.iload 4, 2) := by decide +kernel
theorem dX10_measures_103 : decode cX10_measures 103 = .ok (.iaload, 1) := by decide +kernel
theorem dX10_measures_104 : decode cX10_measures 104 = .ok (.if_icmp .ge 7, 3) := by decide +kernel
theorem dX10_measures_107 : decode cX10_measures 107 = .ok (.iconst 1, 1) := by decide +kernel
theorem dX10_measures_108 : decode cX10_measures 108 = .ok (.goto 4, 3) := by decide +kernel
theorem dX10_measures_111 : decode cX10_measures 111 = .ok (.iconst 0, 1) := by decide +kernel
theorem dX10_measures_112 : decode cX10_measures 112 = .ok (.istore 6, 2) := by decide +kernel
theorem dX10_measures_114 : decode cX10_measures 114 = .ok (.aload_n 0, 1) := by decide +kernel
theorem dX10_measures_115 : decode cX10_measures 115 = .ok (.getfield 46, 3) := by decide +kernel
theorem dX10_measures_118 : decode cX10_measures 118 = .ok (.iload 4, 2) := by decide +kernel
theorem dX10_measures_120 : decode cX10_measures 120 = .ok (.iload 6, 2) := by decide +kernel
theorem dX10_measures_122 : decode cX10_measures 122 = .ok (.ifCond .eq 15, 3) := by decide +kernel
theorem dX10_measures_125 : decode cX10_measures 125 = .ok (.aload_n 0, 1) := by decide +kernel
theorem dX10_measures_126 : decode cX10_measures 126 = .ok (.getfield 46, 3) := by decide +kernel
theorem dX10_measures_129 : decode cX10_measures 129 = .ok (.iload 5, 2) := by decide +kernel
theorem dX10_measures_131 : decode cX10_measures 131 = .ok (.iaload, 1) := by decide +kernel
theorem dX10_measures_132 : decode cX10_measures 132 = .ok (.iconst 1, 1) := by decide +kernel
theorem dX10_measures_133 : decode cX10_measures 133 = .ok (.iadd, 1) := by decide +kernel
theorem dX10_measures_134 : decode cX10_measures 134 = .ok (.goto 10, 3) := by decide +kernel
theorem dX10_measures_137 : decode cX10_measures 137 = .ok (.aload_n 0, 1) := by decide +kernel
theorem dX10_measures_138 : decode cX10_measures 138 = .ok (.getfield 46, 3) := by decide +kernel
theorem dX10_measures_141 : decode cX10_measures 141 = .ok (.iload 4, 2) := by decide +kernel
theorem dX10_measures_143 : decode cX10_measures 143 = .ok (.iaload, 1) := by decide +kernel
theorem dX10_measures_144 : decode cX10_measures 144 = .ok (.iastore, 1) := by decide +kernel
theorem dX10_measures_145 : decode cX10_measures 145 = .ok (.iinc 4 1, 3) := by decide +kernel
theorem dX10_measures_148 : decode cX10_measures 148 = .ok (.goto (-101), 3) := by decide +kernel
theorem dX10_measures_151 : decode cX10_measures 151 = .ok (.iinc 3 1, 3) := by decide +kernel
theorem dX10_measures_154 : decode cX10_measures 154 = .ok (.goto (-118), 3) := by decide +kernel
theorem dX10_measures_157 : decode cX10_measures 157 = .ok (.return_, 1) := by decide +kernel
def f_X10_measures_L2 (p1 : Int32) (v1 : Int32) (s2 : sh_S) : Option ((Int32 × sh_S) ⊕ (sh_S)) := (if (24 : Int32) ≤ v1 then some (.inr s2) else ob (f_X10_isIn p1 v1) (fun v4 => ob (if v4 = 0 then some (99 : Int32) else some (0 : Int32)) (fun v5 => gu (inb v1 24) (lb (ur s2 13 (upd (s2 13) (ix v1) v5)) (fun s7 => lb (v1 + (1 : Int32)) (fun v8 => some (.inl (v8, s7))))))))
def f_X10_measures_L47 (p2 : Int32) (v12 : Int32) (s13 : sh_S) : Option ((Int32 × sh_S) ⊕ (sh_S)) := (if (s13 0 0) ≤ v12 then some (.inr s13) else ob (f_X10_nearest v12 s13) (fun v15 => ob (f_X10_isIn p2 v12) (fun v16 => ob (if v16 = 0 then some (0 : Int32) else (if v15 = (-1 : Int32) then some (0 : Int32) else ob (if 0 ≤ v15 then some v15 else some (0 : Int32)) (fun v18 => gu (inb v18 24) (gu (inb v12 24) ((if (s13 13 (ix v12)) ≤ ((s13 13 (ix v18)) + (1 : Int32)) then some (0 : Int32) else some (1 : Int32))))))) (fun v17 => ob (if v17 = 0 then gu (inb v12 24) (some (s13 13 (ix v12))) else gu (inb v15 24) (some ((s13 13 (ix v15)) + (1 : Int32)))) (fun v21 => gu (inb v12 24) (lb (ur s13 13 (upd (s13 13) (ix v12) v21)) (fun s25 => lb (v12 + (1 : Int32)) (fun v26 => some (.inl (v26, s25))))))))))
def f_X10_measures_L36 (p2 : Int32) (v9 : Int32) (s10 : sh_S) : Option ((Int32 × sh_S) ⊕ (sh_S)) := (if (s10 0 0) ≤ v9 then some (.inr s10) else ob (lp (fun q => f_X10_measures_L47 p2 q.1 q.2) FU ((0 : Int32), s10)) (fun s14 => lb (v9 + (1 : Int32)) (fun v27 => some (.inl (v27, s14)))))
def f_X10_measures (p1 : Int32) (p2 : Int32) (s0 : sh_S) : Option (sh_S) := ob (lp (fun q => f_X10_measures_L2 p1 q.1 q.2) FU ((0 : Int32), s0)) (fun s3 => ob (lp (fun q => f_X10_measures_L36 p2 q.1 q.2) FU ((0 : Int32), s3)) (fun s11 => some s11))
set_option maxRecDepth 100000 in
set_option maxHeartbeats 4000000 in
theorem c_X10_measures (p1 : Int32) (p2 : Int32) (s0 : sh_S) (s9x : sh_S) (hf : f_X10_measures p1 p2 s0 = some s9x) : Ctr yX10_measures cX10_measures 7 none ({ frames := 5, cells := 0, slots := 0, locals := 111 } : Room) shM [.ref 0, .int p1, .int p2] s0 none s9x := by
  refine Ctr.mk (ri := .return_) (by decide) (Nat.le_of_ble_eq_true rfl) (Rt_v) ?_
  intro G h hL hR hret
  refine k_drop (lv' := [(0, .ref 0), (1, .int p1), (2, .int p2)]) [0, 1, 2] rfl ?_
  unfold f_X10_measures at hf
  refine k_iconst (pc := 0) h dX10_measures_0 kc_iconst_0 ?_
  refine k_istore_n (pc := 1) h dX10_measures_1 rfl (nk hL (by decide)) (lv' := [(0, .ref 0), (1, .int p1), (2, .int p2), (3, .int (0 : Int32))]) rfl ?_
  obtain ⟨s3, hl, hf⟩ := ob_s hf
  refine k_drop (lv' := [(0, .ref 0), (1, .int p1), (2, .int p2), (3, .int (0 : Int32))]) [0, 1, 2, 3] rfl ?_
  refine lp_s (P := (fun q : Int32 × sh_S => sh_K G shM 2 [(0, .ref 0), (1, .int p1), (2, .int p2), (3, .int q.1)] [] q.2)) (Q := (fun q : sh_S => sh_K G shM 34 [(0, .ref 0), (2, .int p2)] [] q)) (s := ((0 : Int32), s0)) ?_ hl ?_
  · clear hf hl
    intro q rr hf kc2
    obtain ⟨v1, s2⟩ := q
    have hf : f_X10_measures_L2 p1 v1 s2 = some rr := hf
    unfold f_X10_measures_L2 at hf
    refine k_iload_n (pc := 2) h dX10_measures_2 rfl 3 rfl ?_
    refine k_bipush (pc := 3) h dX10_measures_3 kc_bipush_24 ?_
    refine k_icmp_ge (pc := 5) (tgt := 34) h dX10_measures_5 rfl (fun hc => ?_) (fun hc => ?_)
    · have hf := it_p hc hf
      obtain rfl := so1 hf
      exact k_drop [0, 2] rfl kc2
    · have hf := it_n hc hf
      refine k_aload_n (pc := 8) h dX10_measures_8 rfl 0 rfl ?_
      refine k_getR (pc := 9) h fl_RX10_46 rfl rfl dX10_measures_9 ?_
      refine k_iload_n (pc := 12) h dX10_measures_12 rfl 3 rfl ?_
      refine k_iload_n (pc := 13) h dX10_measures_13 rfl 1 rfl ?_
      refine k_iload_n (pc := 14) h dX10_measures_14 rfl 3 rfl ?_
      obtain ⟨v4, cv4, hf⟩ := ob_s hf
      refine k_callSp (pc := 15) h cs_RX10_89 (c_X10_isIn p1 v1 _ v4 cv4) rfl rfl (st1 := [.int v4, .int v1, .ref 13]) rfl ⟨rfl, rfl⟩ (rk hR (Nat.le_of_ble_eq_true rfl) (Nat.le_of_ble_eq_true rfl)) (Nat.le_of_ble_eq_true rfl) dX10_measures_15 ?_
      obtain ⟨v5, hj, hf⟩ := ob_s hf
      have kj18 : sh_K G shM 27 [(0, .ref 0), (1, .int p1), (2, .int p2), (3, .int v1)] [.int v5, .int v1, .ref 13] s2 := by
        obtain ⟨g6, hf⟩ := gu_s hf
        obtain ⟨s7, es7, hf⟩ := lb_s hf
        refine k_iast (pc := 27) (n := 24) h rfl g6 dX10_measures_27 ?_
        refine k_heap es7 ?_
        obtain ⟨v8, ev8, hf⟩ := lb_s hf
        refine k_iinc (pc := 28) h dX10_measures_28 3 rfl ((congrArg (_ + ·) kc_iconst_1).trans ev8.symm) (nk hL (by decide)) (lv' := [(0, .ref 0), (1, .int p1), (2, .int p2), (3, .int v8)]) rfl ?_
        refine k_goto (pc := 31) (tgt := 2) h dX10_measures_31 rfl ?_
        obtain rfl := so1 hf
        exact k_drop [0, 1, 2, 3] rfl kc2
      clear hf
      have hf := hj
      clear hj
      refine k_if_eq (pc := 18) (tgt := 25) h dX10_measures_18 rfl (fun hc => ?_) (fun hc => ?_)
      · have hf := it_p hc hf
        refine k_bipush (pc := 25) h dX10_measures_25 kc_bipush_99 ?_
        obtain rfl := so1 hf
        exact k_drop [0, 1, 2, 3] rfl kj18
      · have hf := it_n hc hf
        refine k_iconst (pc := 21) h dX10_measures_21 kc_iconst_0 ?_
        refine k_goto (pc := 22) (tgt := 27) h dX10_measures_22 rfl ?_
        obtain rfl := so1 hf
        exact k_drop [0, 1, 2, 3] rfl kj18
  · refine k_iconst (pc := 34) h dX10_measures_34 kc_iconst_0 ?_
    refine k_istore_n (pc := 35) h dX10_measures_35 rfl (nk hL (by decide)) (lv' := [(0, .ref 0), (2, .int p2), (3, .int (0 : Int32))]) rfl ?_
    obtain ⟨s11, hl, hf⟩ := ob_s hf
    refine k_drop (lv' := [(0, .ref 0), (2, .int p2), (3, .int (0 : Int32))]) [0, 1, 2] rfl ?_
    refine lp_s (P := (fun q : Int32 × sh_S => sh_K G shM 36 [(0, .ref 0), (2, .int p2), (3, .int q.1)] [] q.2)) (Q := (fun q : sh_S => sh_K G shM 157 [] [] q)) (s := ((0 : Int32), s3)) ?_ hl ?_
    · clear hf hl
      intro q rr hf kc36
      obtain ⟨v9, s10⟩ := q
      have hf : f_X10_measures_L36 p2 v9 s10 = some rr := hf
      unfold f_X10_measures_L36 at hf
      refine k_iload_n (pc := 36) h dX10_measures_36 rfl 2 rfl ?_
      refine k_aload_n (pc := 37) h dX10_measures_37 rfl 0 rfl ?_
      refine k_getI (pc := 38) h fl_RX10_101 rfl rfl dX10_measures_38 ?_
      refine k_icmp_ge (pc := 41) (tgt := 157) h dX10_measures_41 rfl (fun hc => ?_) (fun hc => ?_)
      · have hf := it_p hc hf
        obtain rfl := so1 hf
        exact k_drop [] rfl kc36
      · have hf := it_n hc hf
        refine k_iconst (pc := 44) h dX10_measures_44 kc_iconst_0 ?_
        refine k_istore (pc := 45) h dX10_measures_45 (nk hL (by decide)) (lv' := [(0, .ref 0), (2, .int p2), (3, .int v9), (4, .int (0 : Int32))]) rfl ?_
        obtain ⟨s14, hl, hf⟩ := ob_s hf
        refine k_drop (lv' := [(0, .ref 0), (2, .int p2), (3, .int v9), (4, .int (0 : Int32))]) [0, 1, 2, 3] rfl ?_
        refine lp_s (P := (fun q : Int32 × sh_S => sh_K G shM 47 [(0, .ref 0), (2, .int p2), (3, .int v9), (4, .int q.1)] [] q.2)) (Q := (fun q : sh_S => sh_K G shM 151 [(0, .ref 0), (2, .int p2), (3, .int v9)] [] q)) (s := ((0 : Int32), s10)) ?_ hl ?_
        · clear hf hl
          intro q rr hf kc47
          obtain ⟨v12, s13⟩ := q
          have hf : f_X10_measures_L47 p2 v12 s13 = some rr := hf
          unfold f_X10_measures_L47 at hf
          refine k_iload (pc := 47) h dX10_measures_47 3 rfl ?_
          refine k_aload_n (pc := 49) h dX10_measures_49 rfl 0 rfl ?_
          refine k_getI (pc := 50) h fl_RX10_101 rfl rfl dX10_measures_50 ?_
          refine k_icmp_ge (pc := 53) (tgt := 151) h dX10_measures_53 rfl (fun hc => ?_) (fun hc => ?_)
          · have hf := it_p hc hf
            obtain rfl := so1 hf
            exact k_drop [0, 1, 2] rfl kc47
          · have hf := it_n hc hf
            refine k_aload_n (pc := 56) h dX10_measures_56 rfl 0 rfl ?_
            refine k_iload (pc := 57) h dX10_measures_57 3 rfl ?_
            obtain ⟨v15, cv15, hf⟩ := ob_s hf
            refine k_callV0 (pc := 59) h cv_RX10_261 (c_X10_nearest v12 s13 v15 cv15) rfl rfl rfl (st1 := [.int v15]) rfl ⟨rfl, rfl⟩ (rk hR (Nat.le_of_ble_eq_true rfl) (Nat.le_of_ble_eq_true rfl)) (Nat.le_of_ble_eq_true rfl) dX10_measures_59 ?_
            refine k_istore (pc := 62) h dX10_measures_62 (nk hL (by decide)) (lv' := [(0, .ref 0), (2, .int p2), (3, .int v9), (4, .int v12), (5, .int v15)]) rfl ?_
            refine k_iload_n (pc := 64) h dX10_measures_64 rfl 1 rfl ?_
            refine k_iload (pc := 65) h dX10_measures_65 3 rfl ?_
            obtain ⟨v16, cv16, hf⟩ := ob_s hf
            refine k_callSp (pc := 67) h cs_RX10_89 (c_X10_isIn p2 v12 _ v16 cv16) rfl rfl (st1 := [.int v16]) rfl ⟨rfl, rfl⟩ (rk hR (Nat.le_of_ble_eq_true rfl) (Nat.le_of_ble_eq_true rfl)) (Nat.le_of_ble_eq_true rfl) dX10_measures_67 ?_
            obtain ⟨v17, hj, hf⟩ := ob_s hf
            have kj70 : sh_K G shM 112 [(0, .ref 0), (2, .int p2), (3, .int v9), (4, .int v12), (5, .int v15)] [.int v17] s13 := by
              refine k_istore (pc := 112) h dX10_measures_112 (nk hL (by decide)) (lv' := [(0, .ref 0), (2, .int p2), (3, .int v9), (4, .int v12), (5, .int v15), (6, .int v17)]) rfl ?_
              refine k_aload_n (pc := 114) h dX10_measures_114 rfl 0 rfl ?_
              refine k_getR (pc := 115) h fl_RX10_46 rfl rfl dX10_measures_115 ?_
              refine k_iload (pc := 118) h dX10_measures_118 3 rfl ?_
              refine k_iload (pc := 120) h dX10_measures_120 5 rfl ?_
              obtain ⟨v21, hj, hf⟩ := ob_s hf
              have kj122 : sh_K G shM 144 [(0, .ref 0), (2, .int p2), (3, .int v9), (4, .int v12)] [.int v21, .int v12, .ref 13] s13 := by
                obtain ⟨g24, hf⟩ := gu_s hf
                obtain ⟨s25, es25, hf⟩ := lb_s hf
                refine k_iast (pc := 144) (n := 24) h rfl g24 dX10_measures_144 ?_
                refine k_heap es25 ?_
                obtain ⟨v26, ev26, hf⟩ := lb_s hf
                refine k_iinc (pc := 145) h dX10_measures_145 3 rfl ((congrArg (_ + ·) kc_iconst_1).trans ev26.symm) (nk hL (by decide)) (lv' := [(0, .ref 0), (2, .int p2), (3, .int v9), (4, .int v26)]) rfl ?_
                refine k_goto (pc := 148) (tgt := 47) h dX10_measures_148 rfl ?_
                obtain rfl := so1 hf
                exact k_drop [0, 1, 2, 3] rfl kc47
              clear hf
              have hf := hj
              clear hj
              refine k_if_eq (pc := 122) (tgt := 137) h dX10_measures_122 rfl (fun hc => ?_) (fun hc => ?_)
              · have hf := it_p hc hf
                refine k_aload_n (pc := 137) h dX10_measures_137 rfl 0 rfl ?_
                refine k_getR (pc := 138) h fl_RX10_46 rfl rfl dX10_measures_138 ?_
                refine k_iload (pc := 141) h dX10_measures_141 3 rfl ?_
                obtain ⟨g22, hf⟩ := gu_s hf
                refine k_iald (pc := 143) (n := 24) h rfl g22 dX10_measures_143 ?_
                obtain rfl := so1 hf
                exact k_drop [0, 1, 2, 3] rfl kj122
              · have hf := it_n hc hf
                refine k_aload_n (pc := 125) h dX10_measures_125 rfl 0 rfl ?_
                refine k_getR (pc := 126) h fl_RX10_46 rfl rfl dX10_measures_126 ?_
                refine k_iload (pc := 129) h dX10_measures_129 4 rfl ?_
                obtain ⟨g23, hf⟩ := gu_s hf
                refine k_iald (pc := 131) (n := 24) h rfl g23 dX10_measures_131 ?_
                refine k_iconst (pc := 132) h dX10_measures_132 kc_iconst_1 ?_
                refine k_iadd (pc := 133) h dX10_measures_133 ?_
                refine k_goto (pc := 134) (tgt := 144) h dX10_measures_134 rfl ?_
                obtain rfl := so1 hf
                exact k_drop [0, 1, 2, 3] rfl kj122
            clear hf
            have hf := hj
            clear hj
            refine k_if_eq (pc := 70) (tgt := 111) h dX10_measures_70 rfl (fun hc => ?_) (fun hc => ?_)
            · have hf := it_p hc hf
              refine k_iconst (pc := 111) h dX10_measures_111 kc_iconst_0 ?_
              obtain rfl := so1 hf
              exact k_drop [0, 1, 2, 3, 4] rfl kj70
            · have hf := it_n hc hf
              refine k_iload (pc := 73) h dX10_measures_73 4 rfl ?_
              refine k_iconst (pc := 75) h dX10_measures_75 kc_iconst_m1 ?_
              refine k_icmp_eq (pc := 76) (tgt := 111) h dX10_measures_76 rfl (fun hc => ?_) (fun hc => ?_)
              · have hf := it_p hc hf
                refine k_iconst (pc := 111) h dX10_measures_111 kc_iconst_0 ?_
                obtain rfl := so1 hf
                exact k_drop [0, 1, 2, 3, 4] rfl kj70
              · have hf := it_n hc hf
                refine k_aload_n (pc := 79) h dX10_measures_79 rfl 0 rfl ?_
                refine k_getR (pc := 80) h fl_RX10_46 rfl rfl dX10_measures_80 ?_
                refine k_iload (pc := 83) h dX10_measures_83 4 rfl ?_
                obtain ⟨v18, hj, hf⟩ := ob_s hf
                have kj85 : sh_K G shM 94 [(0, .ref 0), (2, .int p2), (3, .int v9), (4, .int v12), (5, .int v15)] [.int v18, .ref 13] s13 := by
                  obtain ⟨g19, hf⟩ := gu_s hf
                  refine k_iald (pc := 94) (n := 24) h rfl g19 dX10_measures_94 ?_
                  refine k_iconst (pc := 95) h dX10_measures_95 kc_iconst_1 ?_
                  refine k_iadd (pc := 96) h dX10_measures_96 ?_
                  refine k_aload_n (pc := 97) h dX10_measures_97 rfl 0 rfl ?_
                  refine k_getR (pc := 98) h fl_RX10_46 rfl rfl dX10_measures_98 ?_
                  refine k_iload (pc := 101) h dX10_measures_101 3 rfl ?_
                  obtain ⟨g20, hf⟩ := gu_s hf
                  refine k_iald (pc := 103) (n := 24) h rfl g20 dX10_measures_103 ?_
                  refine k_icmp_ge (pc := 104) (tgt := 111) h dX10_measures_104 rfl (fun hc => ?_) (fun hc => ?_)
                  · have hf := it_p hc hf
                    refine k_iconst (pc := 111) h dX10_measures_111 kc_iconst_0 ?_
                    obtain rfl := so1 hf
                    exact k_drop [0, 1, 2, 3, 4] rfl kj70
                  · have hf := it_n hc hf
                    refine k_iconst (pc := 107) h dX10_measures_107 kc_iconst_1 ?_
                    refine k_goto (pc := 108) (tgt := 112) h dX10_measures_108 rfl ?_
                    obtain rfl := so1 hf
                    exact k_drop [0, 1, 2, 3, 4] rfl kj70
                clear hf
                have hf := hj
                clear hj
                refine k_if_ge (pc := 85) (tgt := 92) h dX10_measures_85 rfl (fun hc => ?_) (fun hc => ?_)
                · have hf := it_p hc hf
                  refine k_iload (pc := 92) h dX10_measures_92 4 rfl ?_
                  obtain rfl := so1 hf
                  exact k_drop [0, 1, 2, 3, 4] rfl kj85
                · have hf := it_n hc hf
                  refine k_iconst (pc := 88) h dX10_measures_88 kc_iconst_0 ?_
                  refine k_goto (pc := 89) (tgt := 94) h dX10_measures_89 rfl ?_
                  obtain rfl := so1 hf
                  exact k_drop [0, 1, 2, 3, 4] rfl kj85
        · obtain ⟨v27, ev27, hf⟩ := lb_s hf
          refine k_iinc (pc := 151) h dX10_measures_151 2 rfl ((congrArg (_ + ·) kc_iconst_1).trans ev27.symm) (nk hL (by decide)) (lv' := [(0, .ref 0), (2, .int p2), (3, .int v27)]) rfl ?_
          refine k_goto (pc := 154) (tgt := 36) h dX10_measures_154 rfl ?_
          obtain rfl := so1 hf
          exact k_drop [0, 1, 2] rfl kc36
    · obtain rfl := so1 hf
      exact hret 157 _ dX10_measures_157 trivial
theorem dX10_walks_0 : decode cX10_walks 0 = .ok (.aload_n 0, 1) := by decide +kernel
theorem dX10_walks_1 : decode cX10_walks 1 = .ok (.iload_n 1, 1) := by decide +kernel
theorem dX10_walks_2 : decode cX10_walks 2 = .ok (.invokevirtual 261, 3) := by decide +kernel
theorem dX10_walks_5 : decode cX10_walks 5 = .ok (.istore_n 2, 1) := by decide +kernel
theorem dX10_walks_6 : decode cX10_walks 6 = .ok (.iconst 0, 1) := by decide +kernel
theorem dX10_walks_7 : decode cX10_walks 7 = .ok (.istore_n 3, 1) := by decide +kernel
theorem dX10_walks_8 : decode cX10_walks 8 = .ok (.iload_n 3, 1) := by decide +kernel
theorem dX10_walks_9 : decode cX10_walks 9 = .ok (.bipush 25, 2) := by decide +kernel
theorem dX10_walks_11 : decode cX10_walks 11 = .ok (.if_icmp .ge 38, 3) := by decide +kernel
theorem dX10_walks_14 : decode cX10_walks 14 = .ok (.iload_n 2, 1) := by decide +kernel
theorem dX10_walks_15 : decode cX10_walks 15 = .ok (.iconst (-1), 1) := by decide +kernel
theorem dX10_walks_16 : decode cX10_walks 16 = .ok (.if_icmp .eq 33, 3) := by decide +kernel
theorem dX10_walks_19 : decode cX10_walks 19 = .ok (.aload_n 0, 1) := by decide +kernel
theorem dX10_walks_20 : decode cX10_walks 20 = .ok (.iload_n 2, 1) := by decide +kernel
theorem dX10_walks_21 : decode cX10_walks 21 = .ok (.invokevirtual 264, 3) := by decide +kernel
theorem dX10_walks_24 : decode cX10_walks 24 = .ok (.aload_n 0, 1) := by decide +kernel
theorem dX10_walks_25 : decode cX10_walks 25 = .ok (.getfield 46, 3) := by decide +kernel
theorem dX10_walks_28 : decode cX10_walks 28 = .ok (.iload_n 2, 1) := by decide +kernel
theorem dX10_walks_29 : decode cX10_walks 29 = .ok (.iaload, 1) := by decide +kernel
theorem dX10_walks_30 : decode cX10_walks 30 = .ok (.ifCond .ne 7, 3) := by decide +kernel
theorem dX10_walks_33 : decode cX10_walks 33 = .ok (.iconst (-1), 1) := by decide +kernel
theorem dX10_walks_34 : decode cX10_walks 34 = .ok (.goto 8, 3) := by decide +kernel
theorem dX10_walks_37 : decode cX10_walks 37 = .ok (.aload_n 0, 1) := by decide +kernel
theorem dX10_walks_38 : decode cX10_walks 38 = .ok (.iload_n 2, 1) := by decide +kernel
theorem dX10_walks_39 : decode cX10_walks 39 = .ok (.invokevirtual 261, 3) := by decide +kernel
theorem dX10_walks_42 : decode cX10_walks 42 = .ok (.istore_n 2, 1) := by decide +kernel
theorem dX10_walks_43 : decode cX10_walks 43 = .ok (.iinc 3 1, 3) := by decide +kernel
theorem dX10_walks_46 : decode cX10_walks 46 = .ok (.goto (-38), 3) := by decide +kernel
theorem dX10_walks_49 : decode cX10_walks 49 = .ok (.return_, 1) := by decide +kernel
def f_X10_walks_L8 (v2 : Int32) (v3 : Int32) (s4 : sh_S) : Option ((Int32 × Int32 × sh_S) ⊕ (sh_S)) := (if (25 : Int32) ≤ v3 then some (.inr s4) else (if v2 = (-1 : Int32) then some (.inr s4) else ob (f_X10_goesTo v2 s4) (fun s6 => gu (inb v2 24) (ob (if (s6 13 (ix v2)) = 0 then some (-1 : Int32) else ob (f_X10_nearest v2 s6) (fun v9 => some v9)) (fun v8 => lb (v3 + (1 : Int32)) (fun v10 => some (.inl (v8, v10, s6))))))))
def f_X10_walks (p1 : Int32) (s0 : sh_S) : Option (sh_S) := ob (f_X10_nearest p1 s0) (fun v1 => ob (lp (fun q => f_X10_walks_L8 q.1 q.2.1 q.2.2) FU (v1, (0 : Int32), s0)) (fun s5 => some s5))
set_option maxRecDepth 100000 in
set_option maxHeartbeats 4000000 in
theorem c_X10_walks (p1 : Int32) (s0 : sh_S) (s9x : sh_S) (hf : f_X10_walks p1 s0 = some s9x) : Ctr yX10_walks cX10_walks 4 none ({ frames := 5, cells := 0, slots := 0, locals := 111 } : Room) shM [.ref 0, .int p1] s0 none s9x := by
  refine Ctr.mk (ri := .return_) (by decide) (Nat.le_of_ble_eq_true rfl) (Rt_v) ?_
  intro G h hL hR hret
  refine k_drop (lv' := [(0, .ref 0), (1, .int p1)]) [0, 1] rfl ?_
  unfold f_X10_walks at hf
  refine k_aload_n (pc := 0) h dX10_walks_0 rfl 0 rfl ?_
  refine k_iload_n (pc := 1) h dX10_walks_1 rfl 1 rfl ?_
  obtain ⟨v1, cv1, hf⟩ := ob_s hf
  refine k_callV0 (pc := 2) h cv_RX10_261 (c_X10_nearest p1 s0 v1 cv1) rfl rfl rfl (st1 := [.int v1]) rfl ⟨rfl, rfl⟩ (rk hR (Nat.le_of_ble_eq_true rfl) (Nat.le_of_ble_eq_true rfl)) (Nat.le_of_ble_eq_true rfl) dX10_walks_2 ?_
  refine k_istore_n (pc := 5) h dX10_walks_5 rfl (nk hL (by decide)) (lv' := [(0, .ref 0), (1, .int p1), (2, .int v1)]) rfl ?_
  refine k_iconst (pc := 6) h dX10_walks_6 kc_iconst_0 ?_
  refine k_istore_n (pc := 7) h dX10_walks_7 rfl (nk hL (by decide)) (lv' := [(0, .ref 0), (1, .int p1), (2, .int v1), (3, .int (0 : Int32))]) rfl ?_
  obtain ⟨s5, hl, hf⟩ := ob_s hf
  refine k_drop (lv' := [(0, .ref 0), (2, .int v1), (3, .int (0 : Int32))]) [0, 2, 3] rfl ?_
  refine lp_s (P := (fun q : Int32 × Int32 × sh_S => sh_K G shM 8 [(0, .ref 0), (2, .int q.1), (3, .int q.2.1)] [] q.2.2)) (Q := (fun q : sh_S => sh_K G shM 49 [] [] q)) (s := (v1, (0 : Int32), s0)) ?_ hl ?_
  · clear hf hl
    intro q rr hf kc8
    obtain ⟨v2, v3, s4⟩ := q
    have hf : f_X10_walks_L8 v2 v3 s4 = some rr := hf
    unfold f_X10_walks_L8 at hf
    refine k_iload_n (pc := 8) h dX10_walks_8 rfl 2 rfl ?_
    refine k_bipush (pc := 9) h dX10_walks_9 kc_bipush_25 ?_
    refine k_icmp_ge (pc := 11) (tgt := 49) h dX10_walks_11 rfl (fun hc => ?_) (fun hc => ?_)
    · have hf := it_p hc hf
      obtain rfl := so1 hf
      exact k_drop [] rfl kc8
    · have hf := it_n hc hf
      refine k_iload_n (pc := 14) h dX10_walks_14 rfl 1 rfl ?_
      refine k_iconst (pc := 15) h dX10_walks_15 kc_iconst_m1 ?_
      refine k_icmp_eq (pc := 16) (tgt := 49) h dX10_walks_16 rfl (fun hc => ?_) (fun hc => ?_)
      · have hf := it_p hc hf
        obtain rfl := so1 hf
        exact k_drop [] rfl kc8
      · have hf := it_n hc hf
        refine k_aload_n (pc := 19) h dX10_walks_19 rfl 0 rfl ?_
        refine k_iload_n (pc := 20) h dX10_walks_20 rfl 1 rfl ?_
        obtain ⟨s6, cs6, hf⟩ := ob_s hf
        refine k_callV0 (pc := 21) h cv_RX10_264 (c_X10_goesTo v2 s4 s6 cs6) rfl rfl rfl (st1 := []) rfl ⟨rfl, rfl⟩ (rk hR (Nat.le_of_ble_eq_true rfl) (Nat.le_of_ble_eq_true rfl)) (Nat.le_of_ble_eq_true rfl) dX10_walks_21 ?_
        refine k_aload_n (pc := 24) h dX10_walks_24 rfl 0 rfl ?_
        refine k_getR (pc := 25) h fl_RX10_46 rfl rfl dX10_walks_25 ?_
        refine k_iload_n (pc := 28) h dX10_walks_28 rfl 1 rfl ?_
        obtain ⟨g7, hf⟩ := gu_s hf
        refine k_iald (pc := 29) (n := 24) h rfl g7 dX10_walks_29 ?_
        obtain ⟨v8, hj, hf⟩ := ob_s hf
        have kj30 : sh_K G shM 42 [(0, .ref 0), (3, .int v3)] [.int v8] s6 := by
          refine k_istore_n (pc := 42) h dX10_walks_42 rfl (nk hL (by decide)) (lv' := [(0, .ref 0), (2, .int v8), (3, .int v3)]) rfl ?_
          obtain ⟨v10, ev10, hf⟩ := lb_s hf
          refine k_iinc (pc := 43) h dX10_walks_43 2 rfl ((congrArg (_ + ·) kc_iconst_1).trans ev10.symm) (nk hL (by decide)) (lv' := [(0, .ref 0), (2, .int v8), (3, .int v10)]) rfl ?_
          refine k_goto (pc := 46) (tgt := 8) h dX10_walks_46 rfl ?_
          obtain rfl := so1 hf
          exact k_drop [0, 1, 2] rfl kc8
        clear hf
        have hf := hj
        clear hj
        refine k_if_ne (pc := 30) (tgt := 37) h dX10_walks_30 rfl (fun hc => ?_) (fun hc => ?_)
        · have hf := it_n hc hf
          refine k_aload_n (pc := 37) h dX10_walks_37 rfl 0 rfl ?_
          refine k_iload_n (pc := 38) h dX10_walks_38 rfl 1 rfl ?_
          obtain ⟨v9, cv9, hf⟩ := ob_s hf
          refine k_callV0 (pc := 39) h cv_RX10_261 (c_X10_nearest v2 s6 v9 cv9) rfl rfl rfl (st1 := [.int v9]) rfl ⟨rfl, rfl⟩ (rk hR (Nat.le_of_ble_eq_true rfl) (Nat.le_of_ble_eq_true rfl)) (Nat.le_of_ble_eq_true rfl) dX10_walks_39 ?_
          obtain rfl := so1 hf
          exact k_drop [0, 2] rfl kj30
        · have hf := it_p hc hf
          refine k_iconst (pc := 33) h dX10_walks_33 kc_iconst_m1 ?_
          refine k_goto (pc := 34) (tgt := 42) h dX10_walks_34 rfl ?_
          obtain rfl := so1 hf
          exact k_drop [0, 2] rfl kj30
  · obtain rfl := so1 hf
    exact hret 49 _ dX10_walks_49 trivial
