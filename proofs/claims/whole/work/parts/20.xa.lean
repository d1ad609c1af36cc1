theorem dX5_forget_0 : decode cX5_forget 0 = .ok (.aload_n 0, 1) := by decide +kernel
theorem dX5_forget_1 : decode cX5_forget 1 = .ok (.iconst 0, 1) := by decide +kernel
theorem dX5_forget_2 : decode cX5_forget 2 = .ok (.putfield 9, 3) := by decide +kernel
theorem dX5_forget_5 : decode cX5_forget 5 = .ok (.aload_n 0, 1) := by decide +kernel
theorem dX5_forget_6 : decode cX5_forget 6 = .ok (.iconst 0, 1) := by decide +kernel
theorem dX5_forget_7 : decode cX5_forget 7 = .ok (.putfield 15, 3) := by decide +kernel
theorem dX5_forget_10 : decode cX5_forget 10 = .ok (.return_, 1) := by decide +kernel
def f_X5_forget  (s0 : sh_S) : Option (sh_S) := lb (ur s0 52 (upd (s0 52) 3 (0 : Int32))) (fun s1 => lb (ur s1 52 (upd (s1 52) 4 (0 : Int32))) (fun s2 => some s2))
set_option maxRecDepth 100000 in
set_option maxHeartbeats 4000000 in
theorem c_X5_forget  (s0 : sh_S) (s9x : sh_S) (hf : f_X5_forget  s0 = some s9x) : Ctr yX5_forget cX5_forget 1 none ({ frames := 0, cells := 0, slots := 0, locals := 0 } : Room) shX [.ref 52] s0 none s9x := by
  refine Ctr.mk (ri := .return_) (by decide) (Nat.le_of_ble_eq_true rfl) (Rt_v) ?_
  intro G h hL hR hret
  refine k_drop (lv' := [(0, .ref 52)]) [0] rfl ?_
  unfold f_X5_forget at hf
  refine k_aload_n (pc := 0) h dX5_forget_0 rfl 0 rfl ?_
  refine k_iconst (pc := 1) h dX5_forget_1 kc_iconst_0 ?_
  obtain ⟨s1, es1, hf⟩ := lb_s hf
  refine k_put (pc := 2) h fl_RX5_9 fp_X5_3 rfl rfl rfl rfl dX5_forget_2 ?_
  refine k_heap es1 ?_
  refine k_aload_n (pc := 5) h dX5_forget_5 rfl 0 rfl ?_
  refine k_iconst (pc := 6) h dX5_forget_6 kc_iconst_0 ?_
  obtain ⟨s2, es2, hf⟩ := lb_s hf
  refine k_put (pc := 7) h fl_RX5_15 fp_X5_4 rfl rfl rfl rfl dX5_forget_7 ?_
  refine k_heap es2 ?_
  obtain rfl := so1 hf
  exact hret 10 _ dX5_forget_10 trivial
theorem dX5_errorsWith_0 : decode cX5_errorsWith 0 = .ok (.aload_n 0, 1) := by decide +kernel
theorem dX5_errorsWith_1 : decode cX5_errorsWith 1 = .ok (.getfield 28, 3) := by decide +kernel
theorem dX5_errorsWith_4 : decode cX5_errorsWith 4 = .ok (.getfield 57, 3) := by decide +kernel
theorem dX5_errorsWith_7 : decode cX5_errorsWith 7 = .ok (.iload_n 1, 1) := by decide +kernel
theorem dX5_errorsWith_8 : decode cX5_errorsWith 8 = .ok (.iaload, 1) := by decide +kernel
theorem dX5_errorsWith_9 : decode cX5_errorsWith 9 = .ok (.istore_n 3, 1) := by decide +kernel
theorem dX5_errorsWith_10 : decode cX5_errorsWith 10 = .ok (.iload_n 3, 1) := by decide +kernel
theorem dX5_errorsWith_11 : decode cX5_errorsWith 11 = .ok (.iload_n 2, 1) := by decide +kernel
theorem dX5_errorsWith_12 : decode cX5_errorsWith 12 = .ok (.if_icmp .eq 20, 3) := by decide +kernel
theorem dX5_errorsWith_15 : decode cX5_errorsWith 15 = .ok (.aload_n 0, 1) := by decide +kernel
theorem dX5_errorsWith_16 : decode cX5_errorsWith 16 = .ok (.getfield 32, 3) := by decide +kernel
theorem dX5_errorsWith_19 : decode cX5_errorsWith 19 = .ok (.getfield 70, 3) := by decide +kernel
theorem dX5_errorsWith_22 : decode cX5_errorsWith 22 = .ok (.getfield 74, 3) := by decide +kernel
theorem dX5_errorsWith_25 : decode cX5_errorsWith 25 = .ok (.iload_n 1, 1) := by decide +kernel
theorem dX5_errorsWith_26 : decode cX5_errorsWith 26 = .ok (.invokestatic 79, 3) := by decide +kernel
theorem dX5_errorsWith_29 : decode cX5_errorsWith 29 = .ok (.ifCond .ne 14, 3) := by decide +kernel
theorem dX5_errorsWith_32 : decode cX5_errorsWith 32 = .ok (.aload_n 0, 1) := by decide +kernel
theorem dX5_errorsWith_33 : decode cX5_errorsWith 33 = .ok (.getfield 32, 3) := by decide +kernel
theorem dX5_errorsWith_36 : decode cX5_errorsWith 36 = .ok (.getfield 61, 3) := by decide +kernel
theorem dX5_errorsWith_39 : decode cX5_errorsWith 39 = .ok (.getfield 65, 3) := by decide +kernel
theorem dX5_errorsWith_42 : decode cX5_errorsWith 42 = .ok (.ireturn, 1) := by decide +kernel
theorem dX5_errorsWith_43 : decode cX5_errorsWith 43 = .ok (.aload_n 0, 1) := by decide +kernel
theorem dX5_errorsWith_44 : decode cX5_errorsWith 44 = .ok (.getfield 28, 3) := by decide +kernel
theorem dX5_errorsWith_47 : decode cX5_errorsWith 47 = .ok (.iload_n 1, 1) := by decide +kernel
theorem dX5_errorsWith_48 : decode cX5_errorsWith 48 = .ok (.iload_n 2, 1) := by decide +kernel
theorem dX5_errorsWith_49 : decode cX5_errorsWith 49 = .ok (.invokevirtual 83, 3) := by decide +kernel
theorem dX5_errorsWith_52 : decode cX5_errorsWith 52 = .ok (.aload_n 0, 1) := by decide +kernel
theorem dX5_errorsWith_53 : decode cX5_errorsWith 53 = .ok (.getfield 41, 3) := by decide +kernel
theorem dX5_errorsWith_56 : decode cX5_errorsWith 56 = .ok (.invokevirtual 87, 3) := by decide +kernel
theorem dX5_errorsWith_59 : decode cX5_errorsWith 59 = .ok (.aload_n 0, 1) := by decide +kernel
theorem dX5_errorsWith_60 : decode cX5_errorsWith 60 = .ok (.getfield 41, 3) := by decide +kernel
theorem dX5_errorsWith_63 : decode cX5_errorsWith 63 = .ok (.invokevirtual 44, 3) := by decide +kernel
theorem dX5_errorsWith_66 : decode cX5_errorsWith 66 = .ok (.pop, 1) := by decide +kernel
theorem dX5_errorsWith_67 : decode cX5_errorsWith 67 = .ok (.aload_n 0, 1) := by decide +kernel
theorem dX5_errorsWith_68 : decode cX5_errorsWith 68 = .ok (.getfield 28, 3) := by decide +kernel
theorem dX5_errorsWith_71 : decode cX5_errorsWith 71 = .ok (.iload_n 1, 1) := by decide +kernel
theorem dX5_errorsWith_72 : decode cX5_errorsWith 72 = .ok (.iload_n 3, 1) := by decide +kernel
theorem dX5_errorsWith_73 : decode cX5_errorsWith 73 = .ok (.invokevirtual 83, 3) := by decide +kernel
theorem dX5_errorsWith_76 : decode cX5_errorsWith 76 = .ok (.aload_n 0, 1) := by decide +kernel
theorem dX5_errorsWith_77 : decode cX5_errorsWith 77 = .ok (.getfield 41, 3) := by decide +kernel
theorem dX5_errorsWith_80 : decode cX5_errorsWith 80 = .ok (.getfield 61, 3) := by decide +kernel
theorem dX5_errorsWith_83 : decode cX5_errorsWith 83 = .ok (.getfield 65, 3) := by decide +kernel
theorem dX5_errorsWith_86 : decode cX5_errorsWith 86 = .ok (.ireturn, 1) := by decide +kernel
def f_X5_errorsWith (p1 : Int32) (p2 : Int32) (s0 : sh_S) : Option (Int32 × sh_S) := gu (inb p1 24) (lb ((s0 1 (ix p1))) (fun v2 => (if v2 = p2 then some ((s0 29 2), s0) else ob (f_X9_hasBit (s0 11 8) p1) (fun v3 => (if v3 = 0 then some ((s0 29 2), s0) else ob (f_X4_turn p1 p2 (rs em_LI s0)) (fun s4 => lb (mg em_LI 0 s0 s4) (fun s5 => ob (f_X0_forget  (rs em_TR s5)) (fun s6 => lb (mg em_TR 0 s5 s6) (fun s7 => ob (f_X0_examine  (rs em_TR s7)) (fun s8 => lb (mg em_TR 0 s7 s8) (fun s9 => ob (f_X4_turn p1 v2 (rs em_LI s9)) (fun s10 => lb (mg em_LI 0 s9 s10) (fun s11 => some ((s11 50 2), s11))))))))))))))
set_option maxRecDepth 100000 in
set_option maxHeartbeats 4000000 in
theorem c_X5_errorsWith (p1 : Int32) (p2 : Int32) (s0 : sh_S) (r : Int32) (s9x : sh_S) (hf : f_X5_errorsWith p1 p2 s0 = some (r, s9x)) : Ctr yX5_errorsWith cX5_errorsWith 4 (some .int) ({ frames := 4, cells := 0, slots := 0, locals := 129 } : Room) shX [.ref 52, .int p1, .int p2] s0 (some (.int r)) s9x := by
  refine Ctr.mk (ri := .ireturn) (by decide) (Nat.le_of_ble_eq_true rfl) (Rt_i r) ?_
  intro G h hL hR hret
  refine k_drop (lv' := [(0, .ref 52), (1, .int p1), (2, .int p2)]) [0, 1, 2] rfl ?_
  unfold f_X5_errorsWith at hf
  refine k_aload_n (pc := 0) h dX5_errorsWith_0 rfl 0 rfl ?_
  refine k_getR (pc := 1) h fl_RX5_28 rfl rfl dX5_errorsWith_1 ?_
  refine k_getR (pc := 4) h fl_RX5_57 rfl rfl dX5_errorsWith_4 ?_
  refine k_iload_n (pc := 7) h dX5_errorsWith_7 rfl 1 rfl ?_
  obtain ⟨g1, hf⟩ := gu_s hf
  refine k_iald (pc := 8) (n := 24) h rfl g1 dX5_errorsWith_8 ?_
  obtain ⟨v2, ev2, hf⟩ := lb_s hf
  refine k_top ev2 ?_
  refine k_istore_n (pc := 9) h dX5_errorsWith_9 rfl (nk hL (by decide)) (lv' := [(0, .ref 52), (1, .int p1), (2, .int p2), (3, .int v2)]) rfl ?_
  refine k_iload_n (pc := 10) h dX5_errorsWith_10 rfl 3 rfl ?_
  refine k_iload_n (pc := 11) h dX5_errorsWith_11 rfl 2 rfl ?_
  refine k_icmp_eq (pc := 12) (tgt := 32) h dX5_errorsWith_12 rfl (fun hc => ?_) (fun hc => ?_)
  · have hf := it_p hc hf
    refine k_aload_n (pc := 32) h dX5_errorsWith_32 rfl 0 rfl ?_
    refine k_getR (pc := 33) h fl_RX5_32 rfl rfl dX5_errorsWith_33 ?_
    refine k_getR (pc := 36) h fl_RX5_61 rfl rfl dX5_errorsWith_36 ?_
    refine k_getI (pc := 39) h fl_RX5_65 rfl rfl dX5_errorsWith_39 ?_
    obtain ⟨rfl, rfl⟩ := so2 hf
    exact hret 42 _ dX5_errorsWith_42 trivial
  · have hf := it_n hc hf
    refine k_aload_n (pc := 15) h dX5_errorsWith_15 rfl 0 rfl ?_
    refine k_getR (pc := 16) h fl_RX5_32 rfl rfl dX5_errorsWith_16 ?_
    refine k_getR (pc := 19) h fl_RX5_70 rfl rfl dX5_errorsWith_19 ?_
    refine k_getI (pc := 22) h fl_RX5_74 rfl rfl dX5_errorsWith_22 ?_
    refine k_iload_n (pc := 25) h dX5_errorsWith_25 rfl 1 rfl ?_
    obtain ⟨v3, cv3, hf⟩ := ob_s hf
    refine k_callNp (pc := 26) h cn_RX5_79 (c_X9_hasBit (s0 11 8) p1 _ v3 cv3) rfl rfl (st1 := [.int v3]) rfl ⟨rfl, rfl⟩ (rk hR (Nat.le_of_ble_eq_true rfl) (Nat.le_of_ble_eq_true rfl)) (Nat.le_of_ble_eq_true rfl) dX5_errorsWith_26 ?_
    refine k_if_ne (pc := 29) (tgt := 43) h dX5_errorsWith_29 rfl (fun hc => ?_) (fun hc => ?_)
    · have hf := it_n hc hf
      refine k_aload_n (pc := 43) h dX5_errorsWith_43 rfl 0 rfl ?_
      refine k_getR (pc := 44) h fl_RX5_28 rfl rfl dX5_errorsWith_44 ?_
      refine k_iload_n (pc := 47) h dX5_errorsWith_47 rfl 1 rfl ?_
      refine k_iload_n (pc := 48) h dX5_errorsWith_48 rfl 2 rfl ?_
      obtain ⟨s4, cs4, hf⟩ := ob_s hf
      obtain ⟨s5, es5, hf⟩ := lb_s hf
      refine k_callVe (pc := 49) (em := em_LI) h cv_RX5_83 (c_X4_turn p1 p2 (rs em_LI s0) s4 cs4) emb_LI_X rfl rfl rfl (st1 := []) rfl ⟨rfl, rfl⟩ (rk hR (Nat.le_of_ble_eq_true rfl) (Nat.le_of_ble_eq_true rfl)) (Nat.le_of_ble_eq_true rfl) dX5_errorsWith_49 es5 ?_
      refine k_aload_n (pc := 52) h dX5_errorsWith_52 rfl 0 rfl ?_
      refine k_getR (pc := 53) h fl_RX5_41 rfl rfl dX5_errorsWith_53 ?_
      obtain ⟨s6, cs6, hf⟩ := ob_s hf
      obtain ⟨s7, es7, hf⟩ := lb_s hf
      refine k_callVe (pc := 56) (em := em_TR) h cv_RX5_87 (c_X0_forget  (rs em_TR s5) s6 cs6) emb_TR_X rfl rfl rfl (st1 := []) rfl ⟨rfl, rfl⟩ (rk hR (Nat.le_of_ble_eq_true rfl) (Nat.le_of_ble_eq_true rfl)) (Nat.le_of_ble_eq_true rfl) dX5_errorsWith_56 es7 ?_
      refine k_aload_n (pc := 59) h dX5_errorsWith_59 rfl 0 rfl ?_
      refine k_getR (pc := 60) h fl_RX5_41 rfl rfl dX5_errorsWith_60 ?_
      obtain ⟨s8, cs8, hf⟩ := ob_s hf
      obtain ⟨s9, es9, hf⟩ := lb_s hf
      refine k_callVe (pc := 63) (em := em_TR) h cv_RX5_44 (c_X0_examine  (rs em_TR s7) s8 cs8) emb_TR_X rfl rfl rfl (st1 := [.ref 31]) rfl ⟨rfl, rfl⟩ (rk hR (Nat.le_of_ble_eq_true rfl) (Nat.le_of_ble_eq_true rfl)) (Nat.le_of_ble_eq_true rfl) dX5_errorsWith_63 es9 ?_
      refine k_pop (pc := 66) h dX5_errorsWith_66 rfl ?_
      refine k_aload_n (pc := 67) h dX5_errorsWith_67 rfl 0 rfl ?_
      refine k_getR (pc := 68) h fl_RX5_28 rfl rfl dX5_errorsWith_68 ?_
      refine k_iload_n (pc := 71) h dX5_errorsWith_71 rfl 1 rfl ?_
      refine k_iload_n (pc := 72) h dX5_errorsWith_72 rfl 3 rfl ?_
      obtain ⟨s10, cs10, hf⟩ := ob_s hf
      obtain ⟨s11, es11, hf⟩ := lb_s hf
      refine k_callVe (pc := 73) (em := em_LI) h cv_RX5_83 (c_X4_turn p1 v2 (rs em_LI s9) s10 cs10) emb_LI_X rfl rfl rfl (st1 := []) rfl ⟨rfl, rfl⟩ (rk hR (Nat.le_of_ble_eq_true rfl) (Nat.le_of_ble_eq_true rfl)) (Nat.le_of_ble_eq_true rfl) dX5_errorsWith_73 es11 ?_
      refine k_aload_n (pc := 76) h dX5_errorsWith_76 rfl 0 rfl ?_
      refine k_getR (pc := 77) h fl_RX5_41 rfl rfl dX5_errorsWith_77 ?_
      refine k_getR (pc := 80) h fl_RX5_61 rfl rfl dX5_errorsWith_80 ?_
      refine k_getI (pc := 83) h fl_RX5_65 rfl rfl dX5_errorsWith_83 ?_
      obtain ⟨rfl, rfl⟩ := so2 hf
      exact hret 86 _ dX5_errorsWith_86 trivial
    · have hf := it_p hc hf
      refine k_aload_n (pc := 32) h dX5_errorsWith_32 rfl 0 rfl ?_
      refine k_getR (pc := 33) h fl_RX5_32 rfl rfl dX5_errorsWith_33 ?_
      refine k_getR (pc := 36) h fl_RX5_61 rfl rfl dX5_errorsWith_36 ?_
      refine k_getI (pc := 39) h fl_RX5_65 rfl rfl dX5_errorsWith_39 ?_
      obtain ⟨rfl, rfl⟩ := so2 hf
      exact hret 42 _ dX5_errorsWith_42 trivial
theorem dX5_findMend_0 : decode cX5_findMend 0 = .ok (.aload_n 0, 1) := by decide +kernel
theorem dX5_findMend_1 : decode cX5_findMend 1 = .ok (.getfield 9, 3) := by decide +kernel
theorem dX5_findMend_4 : decode cX5_findMend 4 = .ok (.ifCond .eq 4, 3) := by decide +kernel
theorem dX5_findMend_7 : decode cX5_findMend 7 = .ok (.return_, 1) := by decide +kernel
theorem dX5_findMend_8 : decode cX5_findMend 8 = .ok (.aload_n 0, 1) := by decide +kernel
theorem dX5_findMend_9 : decode cX5_findMend 9 = .ok (.getfield 32, 3) := by decide +kernel
theorem dX5_findMend_12 : decode cX5_findMend 12 = .ok (.invokevirtual 44, 3) := by decide +kernel
theorem dX5_findMend_15 : decode cX5_findMend 15 = .ok (.pop, 1) := by decide +kernel
theorem dX5_findMend_16 : decode cX5_findMend 16 = .ok (.aload_n 0, 1) := by decide +kernel
theorem dX5_findMend_17 : decode cX5_findMend 17 = .ok (.iconst 1, 1) := by decide +kernel
theorem dX5_findMend_18 : decode cX5_findMend 18 = .ok (.putfield 9, 3) := by decide +kernel
theorem dX5_findMend_21 : decode cX5_findMend 21 = .ok (.aload_n 0, 1) := by decide +kernel
theorem dX5_findMend_22 : decode cX5_findMend 22 = .ok (.iconst (-1), 1) := by decide +kernel
theorem dX5_findMend_23 : decode cX5_findMend 23 = .ok (.putfield 18, 3) := by decide +kernel
theorem dX5_findMend_26 : decode cX5_findMend 26 = .ok (.aload_n 0, 1) := by decide +kernel
theorem dX5_findMend_27 : decode cX5_findMend 27 = .ok (.iconst (-1), 1) := by decide +kernel
theorem dX5_findMend_28 : decode cX5_findMend 28 = .ok (.putfield 22, 3) := by decide +kernel
theorem dX5_findMend_31 : decode cX5_findMend 31 = .ok (.iconst 0, 1) := by decide +kernel
theorem dX5_findMend_32 : decode cX5_findMend 32 = .ok (.istore_n 1, 1) := by decide +kernel
theorem dX5_findMend_33 : decode cX5_findMend 33 = .ok (.iload_n 1, 1) := by decide +kernel
theorem dX5_findMend_34 : decode cX5_findMend 34 = .ok (.aload_n 0, 1) := by decide +kernel
theorem dX5_findMend_35 : decode cX5_findMend 35 = .ok (.getfield 28, 3) := by decide +kernel
theorem dX5_findMend_38 : decode cX5_findMend 38 = .ok (.getfield 48, 3) := by decide +kernel
theorem dX5_findMend_41 : decode cX5_findMend 41 = .ok (.if_icmp .ge 42, 3) := by decide +kernel
theorem dX5_findMend_44 : decode cX5_findMend 44 = .ok (.aload_n 0, 1) := by decide +kernel
theorem dX5_findMend_45 : decode cX5_findMend 45 = .ok (.iload_n 1, 1) := by decide +kernel
theorem dX5_findMend_46 : decode cX5_findMend 46 = .ok (.iconst 0, 1) := by decide +kernel
theorem dX5_findMend_47 : decode cX5_findMend 47 = .ok (.invokevirtual 53, 3) := by decide +kernel
theorem dX5_findMend_50 : decode cX5_findMend 50 = .ok (.istore_n 2, 1) := by decide +kernel
theorem dX5_findMend_51 : decode cX5_findMend 51 = .ok (.aload_n 0, 1) := by decide +kernel
theorem dX5_findMend_52 : decode cX5_findMend 52 = .ok (.getfield 18, 3) := by decide +kernel
theorem dX5_findMend_55 : decode cX5_findMend 55 = .ok (.iconst (-1), 1) := by decide +kernel
theorem dX5_findMend_56 : decode cX5_findMend 56 = .ok (.if_icmp .eq 11, 3) := by decide +kernel
theorem dX5_findMend_59 : decode cX5_findMend 59 = .ok (.iload_n 2, 1) := by decide +kernel
theorem dX5_findMend_60 : decode cX5_findMend 60 = .ok (.aload_n 0, 1) := by decide +kernel
theorem dX5_findMend_61 : decode cX5_findMend 61 = .ok (.getfield 22, 3) := by decide +kernel
theorem dX5_findMend_64 : decode cX5_findMend 64 = .ok (.if_icmp .ge 13, 3) := by decide +kernel
theorem dX5_findMend_67 : decode cX5_findMend 67 = .ok (.aload_n 0, 1) := by decide +kernel
theorem dX5_findMend_68 : decode cX5_findMend 68 = .ok (.iload_n 1, 1) := by decide +kernel
theorem dX5_findMend_69 : decode cX5_findMend 69 = .ok (.putfield 18, 3) := by decide +kernel
theorem dX5_findMend_72 : decode cX5_findMend 72 = .ok (.aload_n 0, 1) := by decide +kernel
theorem dX5_findMend_73 : decode cX5_findMend 73 = .ok (.iload_n 2, 1) := by decide +kernel
theorem dX5_findMend_74 : decode cX5_findMend 74 = .ok (.putfield 22, 3) := by decide +kernel
theorem dX5_findMend_77 : decode cX5_findMend 77 = .ok (.iinc 1 1, 3) := by decide +kernel
theorem dX5_findMend_80 : decode cX5_findMend 80 = .ok (.goto (-47), 3) := by decide +kernel
theorem dX5_findMend_83 : decode cX5_findMend 83 = .ok (.return_, 1) := by decide +kernel
def f_X5_findMend_L33 (v6 : Int32) (s7 : sh_S) : Option ((Int32 × sh_S) ⊕ (sh_S)) := (if (s7 0 9) ≤ v6 then some (.inr s7) else ob2 (f_X5_errorsWith v6 (0 : Int32) s7) (fun v9 s10 => ob (if (s10 52 5) = (-1 : Int32) then lb (ur s10 52 (upd (s10 52) 5 v6)) (fun s12 => lb (ur s12 52 (upd (s12 52) 6 v9)) (fun s13 => some s13)) else (if (s10 52 6) ≤ v9 then some s10 else lb (ur s10 52 (upd (s10 52) 5 v6)) (fun s14 => lb (ur s14 52 (upd (s14 52) 6 v9)) (fun s15 => some s15)))) (fun s11 => lb (v6 + (1 : Int32)) (fun v16 => some (.inl (v16, s11))))))
def f_X5_findMend  (s0 : sh_S) : Option (sh_S) := (if (s0 52 3) = 0 then ob (f_X0_examine  (rs em_CK s0)) (fun s1 => lb (mg em_CK 0 s0 s1) (fun s2 => lb (ur s2 52 (upd (s2 52) 3 (1 : Int32))) (fun s3 => lb (ur s3 52 (upd (s3 52) 5 (-1 : Int32))) (fun s4 => lb (ur s4 52 (upd (s4 52) 6 (-1 : Int32))) (fun s5 => ob (lp (fun q => f_X5_findMend_L33 q.1 q.2) FU ((0 : Int32), s5)) (fun s8 => some s8)))))) else some s0)
set_option maxRecDepth 100000 in
set_option maxHeartbeats 4000000 in
theorem c_X5_findMend  (s0 : sh_S) (s9x : sh_S) (hf : f_X5_findMend  s0 = some s9x) : Ctr yX5_findMend cX5_findMend 3 none ({ frames := 5, cells := 0, slots := 0, locals := 152 } : Room) shX [.ref 52] s0 none s9x := by
  refine Ctr.mk (ri := .return_) (by decide) (Nat.le_of_ble_eq_true rfl) (Rt_v) ?_
  intro G h hL hR hret
  refine k_drop (lv' := [(0, .ref 52)]) [0] rfl ?_
  unfold f_X5_findMend at hf
  refine k_aload_n (pc := 0) h dX5_findMend_0 rfl 0 rfl ?_
  refine k_getI (pc := 1) h fl_RX5_9 rfl rfl dX5_findMend_1 ?_
  refine k_if_eq (pc := 4) (tgt := 8) h dX5_findMend_4 rfl (fun hc => ?_) (fun hc => ?_)
  · have hf := it_p hc hf
    refine k_aload_n (pc := 8) h dX5_findMend_8 rfl 0 rfl ?_
    refine k_getR (pc := 9) h fl_RX5_32 rfl rfl dX5_findMend_9 ?_
    obtain ⟨s1, cs1, hf⟩ := ob_s hf
    obtain ⟨s2, es2, hf⟩ := lb_s hf
    refine k_callVe (pc := 12) (em := em_CK) h cv_RX5_44 (c_X0_examine  (rs em_CK s0) s1 cs1) emb_CK_X rfl rfl rfl (st1 := [.ref 10]) rfl ⟨rfl, rfl⟩ (rk hR (Nat.le_of_ble_eq_true rfl) (Nat.le_of_ble_eq_true rfl)) (Nat.le_of_ble_eq_true rfl) dX5_findMend_12 es2 ?_
    refine k_pop (pc := 15) h dX5_findMend_15 rfl ?_
    refine k_aload_n (pc := 16) h dX5_findMend_16 rfl 0 rfl ?_
    refine k_iconst (pc := 17) h dX5_findMend_17 kc_iconst_1 ?_
    obtain ⟨s3, es3, hf⟩ := lb_s hf
    refine k_put (pc := 18) h fl_RX5_9 fp_X5_3 rfl rfl rfl rfl dX5_findMend_18 ?_
    refine k_heap es3 ?_
    refine k_aload_n (pc := 21) h dX5_findMend_21 rfl 0 rfl ?_
    refine k_iconst (pc := 22) h dX5_findMend_22 kc_iconst_m1 ?_
    obtain ⟨s4, es4, hf⟩ := lb_s hf
    refine k_put (pc := 23) h fl_RX5_18 fp_X5_5 rfl rfl rfl rfl dX5_findMend_23 ?_
    refine k_heap es4 ?_
    refine k_aload_n (pc := 26) h dX5_findMend_26 rfl 0 rfl ?_
    refine k_iconst (pc := 27) h dX5_findMend_27 kc_iconst_m1 ?_
    obtain ⟨s5, es5, hf⟩ := lb_s hf
    refine k_put (pc := 28) h fl_RX5_22 fp_X5_6 rfl rfl rfl rfl dX5_findMend_28 ?_
    refine k_heap es5 ?_
    refine k_iconst (pc := 31) h dX5_findMend_31 kc_iconst_0 ?_
    refine k_istore_n (pc := 32) h dX5_findMend_32 rfl (nk hL (by decide)) (lv' := [(0, .ref 52), (1, .int (0 : Int32))]) rfl ?_
    obtain ⟨s8, hl, hf⟩ := ob_s hf
    refine k_drop (lv' := [(0, .ref 52), (1, .int (0 : Int32))]) [0, 1] rfl ?_
    refine lp_s (P := (fun q : Int32 × sh_S => sh_K G shX 33 [(0, .ref 52), (1, .int q.1)] [] q.2)) (Q := (fun q : sh_S => sh_K G shX 83 [] [] q)) (s := ((0 : Int32), s5)) ?_ hl ?_
    · clear hf hl
      intro q rr hf kc33
      obtain ⟨v6, s7⟩ := q
      have hf : f_X5_findMend_L33 v6 s7 = some rr := hf
      unfold f_X5_findMend_L33 at hf
      refine k_iload_n (pc := 33) h dX5_findMend_33 rfl 1 rfl ?_
      refine k_aload_n (pc := 34) h dX5_findMend_34 rfl 0 rfl ?_
      refine k_getR (pc := 35) h fl_RX5_28 rfl rfl dX5_findMend_35 ?_
      refine k_getI (pc := 38) h fl_RX5_48 rfl rfl dX5_findMend_38 ?_
      refine k_icmp_ge (pc := 41) (tgt := 83) h dX5_findMend_41 rfl (fun hc => ?_) (fun hc => ?_)
      · have hf := it_p hc hf
        obtain rfl := so1 hf
        exact k_drop [] rfl kc33
      · have hf := it_n hc hf
        refine k_aload_n (pc := 44) h dX5_findMend_44 rfl 0 rfl ?_
        refine k_iload_n (pc := 45) h dX5_findMend_45 rfl 1 rfl ?_
        refine k_iconst (pc := 46) h dX5_findMend_46 kc_iconst_0 ?_
        obtain ⟨v9, s10, cv9, hf⟩ := ob2_s hf
        refine k_callV0 (pc := 47) h cv_RX5_53 (c_X5_errorsWith v6 (0 : Int32) s7 v9 s10 cv9) rfl rfl rfl (st1 := [.int v9]) rfl ⟨rfl, rfl⟩ (rk hR (Nat.le_of_ble_eq_true rfl) (Nat.le_of_ble_eq_true rfl)) (Nat.le_of_ble_eq_true rfl) dX5_findMend_47 ?_
        refine k_istore_n (pc := 50) h dX5_findMend_50 rfl (nk hL (by decide)) (lv' := [(0, .ref 52), (1, .int v6), (2, .int v9)]) rfl ?_
        refine k_aload_n (pc := 51) h dX5_findMend_51 rfl 0 rfl ?_
        refine k_getI (pc := 52) h fl_RX5_18 rfl rfl dX5_findMend_52 ?_
        refine k_iconst (pc := 55) h dX5_findMend_55 kc_iconst_m1 ?_
        obtain ⟨s11, hj, hf⟩ := ob_s hf
        have kj56 : sh_K G shX 77 [(0, .ref 52), (1, .int v6)] [] s11 := by
          obtain ⟨v16, ev16, hf⟩ := lb_s hf
          refine k_iinc (pc := 77) h dX5_findMend_77 1 rfl ((congrArg (_ + ·) kc_iconst_1).trans ev16.symm) (nk hL (by decide)) (lv' := [(0, .ref 52), (1, .int v16)]) rfl ?_
          refine k_goto (pc := 80) (tgt := 33) h dX5_findMend_80 rfl ?_
          obtain rfl := so1 hf
          exact k_drop [0, 1] rfl kc33
        clear hf
        have hf := hj
        clear hj
        refine k_icmp_eq (pc := 56) (tgt := 67) h dX5_findMend_56 rfl (fun hc => ?_) (fun hc => ?_)
        · have hf := it_p hc hf
          refine k_aload_n (pc := 67) h dX5_findMend_67 rfl 0 rfl ?_
          refine k_iload_n (pc := 68) h dX5_findMend_68 rfl 1 rfl ?_
          obtain ⟨s12, es12, hf⟩ := lb_s hf
          refine k_put (pc := 69) h fl_RX5_18 fp_X5_5 rfl rfl rfl rfl dX5_findMend_69 ?_
          refine k_heap es12 ?_
          refine k_aload_n (pc := 72) h dX5_findMend_72 rfl 0 rfl ?_
          refine k_iload_n (pc := 73) h dX5_findMend_73 rfl 2 rfl ?_
          obtain ⟨s13, es13, hf⟩ := lb_s hf
          refine k_put (pc := 74) h fl_RX5_22 fp_X5_6 rfl rfl rfl rfl dX5_findMend_74 ?_
          refine k_heap es13 ?_
          obtain rfl := so1 hf
          exact k_drop [0, 1] rfl kj56
        · have hf := it_n hc hf
          refine k_iload_n (pc := 59) h dX5_findMend_59 rfl 2 rfl ?_
          refine k_aload_n (pc := 60) h dX5_findMend_60 rfl 0 rfl ?_
          refine k_getI (pc := 61) h fl_RX5_22 rfl rfl dX5_findMend_61 ?_
          refine k_icmp_ge (pc := 64) (tgt := 77) h dX5_findMend_64 rfl (fun hc => ?_) (fun hc => ?_)
          · have hf := it_p hc hf
            obtain rfl := so1 hf
            exact k_drop [0, 1] rfl kj56
          · have hf := it_n hc hf
            refine k_aload_n (pc := 67) h dX5_findMend_67 rfl 0 rfl ?_
            refine k_iload_n (pc := 68) h dX5_findMend_68 rfl 1 rfl ?_
            obtain ⟨s14, es14, hf⟩ := lb_s hf
            refine k_put (pc := 69) h fl_RX5_18 fp_X5_5 rfl rfl rfl rfl dX5_findMend_69 ?_
            refine k_heap es14 ?_
            refine k_aload_n (pc := 72) h dX5_findMend_72 rfl 0 rfl ?_
            refine k_iload_n (pc := 73) h dX5_findMend_73 rfl 2 rfl ?_
            obtain ⟨s15, es15, hf⟩ := lb_s hf
            refine k_put (pc := 74) h fl_RX5_22 fp_X5_6 rfl rfl rfl rfl dX5_findMend_74 ?_
            refine k_heap es15 ?_
            obtain rfl := so1 hf
            exact k_drop [0, 1] rfl kj56
    · obtain rfl := so1 hf
      exact hret 83 _ dX5_findMend_83 trivial
  · have hf := it_n hc hf
    obtain rfl := so1 hf
    exact hret 7 _ dX5_findMend_7 trivial
theorem dX5_findSoft_0 : decode cX5_findSoft 0 = .ok (.aload_n 0, 1) := by decide +kernel
theorem dX5_findSoft_1 : decode cX5_findSoft 1 = .ok (.getfield 15, 3) := by decide +kernel
theorem dX5_findSoft_4 : decode cX5_findSoft 4 = .ok (.ifCond .eq 4, 3) := by decide +kernel
theorem dX5_findSoft_7 : decode cX5_findSoft 7 = .ok (.return_, 1) := by decide +kernel
theorem dX5_findSoft_8 : decode cX5_findSoft 8 = .ok (.aload_n 0, 1) := by decide +kernel
theorem dX5_findSoft_9 : decode cX5_findSoft 9 = .ok (.getfield 32, 3) := by decide +kernel
theorem dX5_findSoft_12 : decode cX5_findSoft 12 = .ok (.invokevirtual 44, 3) := by decide +kernel
theorem dX5_findSoft_15 : decode cX5_findSoft 15 = .ok (.pop, 1) := by decide +kernel
theorem dX5_findSoft_16 : decode cX5_findSoft 16 = .ok (.aload_n 0, 1) := by decide +kernel
theorem dX5_findSoft_17 : decode cX5_findSoft 17 = .ok (.iconst 1, 1) := by decide +kernel
theorem dX5_findSoft_18 : decode cX5_findSoft 18 = .ok (.putfield 15, 3) := by decide +kernel
theorem dX5_findSoft_21 : decode cX5_findSoft 21 = .ok (.aload_n 0, 1) := by decide +kernel
theorem dX5_findSoft_22 : decode cX5_findSoft 22 = .ok (.iconst 0, 1) := by decide +kernel
theorem dX5_findSoft_23 : decode cX5_findSoft 23 = .ok (.putfield 25, 3) := by decide +kernel
theorem dX5_findSoft_26 : decode cX5_findSoft 26 = .ok (.iconst 0, 1) := by decide +kernel
theorem dX5_findSoft_27 : decode cX5_findSoft 27 = .ok (.istore_n 1, 1) := by decide +kernel
theorem dX5_findSoft_28 : decode cX5_findSoft 28 = .ok (.iload_n 1, 1) := by decide +kernel
theorem dX5_findSoft_29 : decode cX5_findSoft 29 = .ok (.aload_n 0, 1) := by decide +kernel
theorem dX5_findSoft_30 : decode cX5_findSoft 30 = .ok (.getfield 28, 3) := by decide +kernel
theorem dX5_findSoft_33 : decode cX5_findSoft 33 = .ok (.getfield 48, 3) := by decide +kernel
theorem dX5_findSoft_36 : decode cX5_findSoft 36 = .ok (.if_icmp .ge 60, 3) := by decide +kernel
theorem dX5_findSoft_39 : decode cX5_findSoft 39 = .ok (.aload_n 0, 1) := by decide +kernel
theorem dX5_findSoft_40 : decode cX5_findSoft 40 = .ok (.getfield 28, 3) := by decide +kernel
theorem dX5_findSoft_43 : decode cX5_findSoft 43 = .ok (.getfield 57, 3) := by decide +kernel
theorem dX5_findSoft_46 : decode cX5_findSoft 46 = .ok (.iload_n 1, 1) := by decide +kernel
theorem dX5_findSoft_47 : decode cX5_findSoft 47 = .ok (.iaload, 1) := by decide +kernel
theorem dX5_findSoft_48 : decode cX5_findSoft 48 = .ok (.istore_n 2, 1) := by decide +kernel
theorem dX5_findSoft_49 : decode cX5_findSoft 49 = .ok (.iload_n 2, 1) := by decide +kernel
theorem dX5_findSoft_50 : decode cX5_findSoft 50 = .ok (.iconst 4, 1) := by decide +kernel
theorem dX5_findSoft_51 : decode cX5_findSoft 51 = .ok (.if_icmp .eq 8, 3) := by decide +kernel
theorem dX5_findSoft_54 : decode cX5_findSoft 54 = .ok (.iload_n 2, 1) := by decide +kernel
theorem dX5_findSoft_55 : decode cX5_findSoft 55 = .ok (.iconst 5, 1) := by decide +kernel
theorem dX5_findSoft_56 : decode cX5_findSoft 56 = .ok (.if_icmp .ne 34, 3) := by decide +kernel
theorem dX5_findSoft_59 : decode cX5_findSoft 59 = .ok (.aload_n 0, 1) := by decide +kernel
theorem dX5_findSoft_60 : decode cX5_findSoft 60 = .ok (.iload_n 1, 1) := by decide +kernel
theorem dX5_findSoft_61 : decode cX5_findSoft 61 = .ok (.iconst 3, 1) := by decide +kernel
theorem dX5_findSoft_62 : decode cX5_findSoft 62 = .ok (.invokevirtual 53, 3) := by decide +kernel
theorem dX5_findSoft_65 : decode cX5_findSoft 65 = .ok (.aload_n 0, 1) := by decide +kernel
theorem dX5_findSoft_66 : decode cX5_findSoft 66 = .ok (.getfield 32, 3) := by decide +kernel
theorem dX5_findSoft_69 : decode cX5_findSoft 69 = .ok (.getfield 61, 3) := by decide +kernel
theorem dX5_findSoft_72 : decode cX5_findSoft 72 = .ok (.getfield 65, 3) := by decide +kernel
theorem dX5_findSoft_75 : decode cX5_findSoft 75 = .ok (.if_icmp .gt 15, 3) := by decide +kernel
theorem dX5_findSoft_78 : decode cX5_findSoft 78 = .ok (.aload_n 0, 1) := by decide +kernel
theorem dX5_findSoft_79 : decode cX5_findSoft 79 = .ok (.dup, 1) := by decide +kernel
theorem dX5_findSoft_80 : decode cX5_findSoft 80 = .ok (.getfield 25, 3) := by decide +kernel
theorem dX5_findSoft_83 : decode cX5_findSoft 83 = .ok (.iconst 1, 1) := by decide +kernel
theorem dX5_findSoft_84 : decode cX5_findSoft 84 = .ok (.iload_n 1, 1) := by decide +kernel
theorem dX5_findSoft_85 : decode cX5_findSoft 85 = .ok (.ishl, 1) := by decide +kernel
theorem dX5_findSoft_86 : decode cX5_findSoft 86 = .ok (.ior, 1) := by decide +kernel
theorem dX5_findSoft_87 : decode cX5_findSoft 87 = .ok (.putfield 25, 3) := by decide +kernel
theorem dX5_findSoft_90 : decode cX5_findSoft 90 = .ok (.iinc 1 1, 3) := by decide +kernel
theorem dX5_findSoft_93 : decode cX5_findSoft 93 = .ok (.goto (-65), 3) := by decide +kernel
theorem dX5_findSoft_96 : decode cX5_findSoft 96 = .ok (.return_, 1) := by decide +kernel
def f_X5_findSoft_L28 (v5 : Int32) (s6 : sh_S) : Option ((Int32 × sh_S) ⊕ (sh_S)) := (if (s6 0 9) ≤ v5 then some (.inr s6) else gu (inb v5 24) (lb ((s6 1 (ix v5))) (fun v9 => ob (if v9 = (4 : Int32) then ob2 (f_X5_errorsWith v5 (3 : Int32) s6) (fun v11 s12 => (if (s12 29 2) < v11 then some s12 else lb (ur s12 52 (upd (s12 52) 7 ((s12 52 7) ||| ((1 : Int32) <<< (v5 &&& 31))))) (fun s13 => some s13))) else (if v9 = (5 : Int32) then ob2 (f_X5_errorsWith v5 (3 : Int32) s6) (fun v14 s15 => (if (s15 29 2) < v14 then some s15 else lb (ur s15 52 (upd (s15 52) 7 ((s15 52 7) ||| ((1 : Int32) <<< (v5 &&& 31))))) (fun s16 => some s16))) else some s6)) (fun s10 => lb (v5 + (1 : Int32)) (fun v17 => some (.inl (v17, s10)))))))
def f_X5_findSoft  (s0 : sh_S) : Option (sh_S) := (if (s0 52 4) = 0 then ob (f_X0_examine  (rs em_CK s0)) (fun s1 => lb (mg em_CK 0 s0 s1) (fun s2 => lb (ur s2 52 (upd (s2 52) 4 (1 : Int32))) (fun s3 => lb (ur s3 52 (upd (s3 52) 7 (0 : Int32))) (fun s4 => ob (lp (fun q => f_X5_findSoft_L28 q.1 q.2) FU ((0 : Int32), s4)) (fun s7 => some s7))))) else some s0)
set_option maxRecDepth 100000 in
set_option maxHeartbeats 4000000 in
theorem c_X5_findSoft  (s0 : sh_S) (s9x : sh_S) (hf : f_X5_findSoft  s0 = some s9x) : Ctr yX5_findSoft cX5_findSoft 3 none ({ frames := 5, cells := 0, slots := 0, locals := 152 } : Room) shX [.ref 52] s0 none s9x := by
  refine Ctr.mk (ri := .return_) (by decide) (Nat.le_of_ble_eq_true rfl) (Rt_v) ?_
  intro G h hL hR hret
  refine k_drop (lv' := [(0, .ref 52)]) [0] rfl ?_
  unfold f_X5_findSoft at hf
  refine k_aload_n (pc := 0) h dX5_findSoft_0 rfl 0 rfl ?_
  refine k_getI (pc := 1) h fl_RX5_15 rfl rfl dX5_findSoft_1 ?_
  refine k_if_eq (pc := 4) (tgt := 8) h dX5_findSoft_4 rfl (fun hc => ?_) (fun hc => ?_)
  · have hf := it_p hc hf
    refine k_aload_n (pc := 8) h dX5_findSoft_8 rfl 0 rfl ?_
    refine k_getR (pc := 9) h fl_RX5_32 rfl rfl dX5_findSoft_9 ?_
    obtain ⟨s1, cs1, hf⟩ := ob_s hf
    obtain ⟨s2, es2, hf⟩ := lb_s hf
    refine k_callVe (pc := 12) (em := em_CK) h cv_RX5_44 (c_X0_examine  (rs em_CK s0) s1 cs1) emb_CK_X rfl rfl rfl (st1 := [.ref 10]) rfl ⟨rfl, rfl⟩ (rk hR (Nat.le_of_ble_eq_true rfl) (Nat.le_of_ble_eq_true rfl)) (Nat.le_of_ble_eq_true rfl) dX5_findSoft_12 es2 ?_
    refine k_pop (pc := 15) h dX5_findSoft_15 rfl ?_
    refine k_aload_n (pc := 16) h dX5_findSoft_16 rfl 0 rfl ?_
    refine k_iconst (pc := 17) h dX5_findSoft_17 kc_iconst_1 ?_
    obtain ⟨s3, es3, hf⟩ := lb_s hf
    refine k_put (pc := 18) h fl_RX5_15 fp_X5_4 rfl rfl rfl rfl dX5_findSoft_18 ?_
    refine k_heap es3 ?_
    refine k_aload_n (pc := 21) h dX5_findSoft_21 rfl 0 rfl ?_
    refine k_iconst (pc := 22) h dX5_findSoft_22 kc_iconst_0 ?_
    obtain ⟨s4, es4, hf⟩ := lb_s hf
    refine k_put (pc := 23) h fl_RX5_25 fp_X5_7 rfl rfl rfl rfl dX5_findSoft_23 ?_
    refine k_heap es4 ?_
    refine k_iconst (pc := 26) h dX5_findSoft_26 kc_iconst_0 ?_
    refine k_istore_n (pc := 27) h dX5_findSoft_27 rfl (nk hL (by decide)) (lv' := [(0, .ref 52), (1, .int (0 : Int32))]) rfl ?_
    obtain ⟨s7, hl, hf⟩ := ob_s hf
    refine k_drop (lv' := [(0, .ref 52), (1, .int (0 : Int32))]) [0, 1] rfl ?_
    refine lp_s (P := (fun q : Int32 × sh_S => sh_K G shX 28 [(0, .ref 52), (1, .int q.1)] [] q.2)) (Q := (fun q : sh_S => sh_K G shX 96 [] [] q)) (s := ((0 : Int32), s4)) ?_ hl ?_
    · clear hf hl
      intro q rr hf kc28
      obtain ⟨v5, s6⟩ := q
      have hf : f_X5_findSoft_L28 v5 s6 = some rr := hf
      unfold f_X5_findSoft_L28 at hf
      refine k_iload_n (pc := 28) h dX5_findSoft_28 rfl 1 rfl ?_
      refine k_aload_n (pc := 29) h dX5_findSoft_29 rfl 0 rfl ?_
      refine k_getR (pc := 30) h fl_RX5_28 rfl rfl dX5_findSoft_30 ?_
      refine k_getI (pc := 33) h fl_RX5_48 rfl rfl dX5_findSoft_33 ?_
      refine k_icmp_ge (pc := 36) (tgt := 96) h dX5_findSoft_36 rfl (fun hc => ?_) (fun hc => ?_)
      · have hf := it_p hc hf
        obtain rfl := so1 hf
        exact k_drop [] rfl kc28
      · have hf := it_n hc hf
        refine k_aload_n (pc := 39) h dX5_findSoft_39 rfl 0 rfl ?_
        refine k_getR (pc := 40) h fl_RX5_28 rfl rfl dX5_findSoft_40 ?_
        refine k_getR (pc := 43) h fl_RX5_57 rfl rfl dX5_findSoft_43 ?_
        refine k_iload_n (pc := 46) h dX5_findSoft_46 rfl 1 rfl ?_
        obtain ⟨g8, hf⟩ := gu_s hf
        refine k_iald (pc := 47) (n := 24) h rfl g8 dX5_findSoft_47 ?_
        obtain ⟨v9, ev9, hf⟩ := lb_s hf
        refine k_top ev9 ?_
        refine k_istore_n (pc := 48) h dX5_findSoft_48 rfl (nk hL (by decide)) (lv' := [(0, .ref 52), (1, .int v5), (2, .int v9)]) rfl ?_
        refine k_iload_n (pc := 49) h dX5_findSoft_49 rfl 2 rfl ?_
        refine k_iconst (pc := 50) h dX5_findSoft_50 kc_iconst_4 ?_
        obtain ⟨s10, hj, hf⟩ := ob_s hf
        have kj51 : sh_K G shX 90 [(0, .ref 52), (1, .int v5)] [] s10 := by
          obtain ⟨v17, ev17, hf⟩ := lb_s hf
          refine k_iinc (pc := 90) h dX5_findSoft_90 1 rfl ((congrArg (_ + ·) kc_iconst_1).trans ev17.symm) (nk hL (by decide)) (lv' := [(0, .ref 52), (1, .int v17)]) rfl ?_
          refine k_goto (pc := 93) (tgt := 28) h dX5_findSoft_93 rfl ?_
          obtain rfl := so1 hf
          exact k_drop [0, 1] rfl kc28
        clear hf
        have hf := hj
        clear hj
        refine k_icmp_eq (pc := 51) (tgt := 59) h dX5_findSoft_51 rfl (fun hc => ?_) (fun hc => ?_)
        · have hf := it_p hc hf
          refine k_aload_n (pc := 59) h dX5_findSoft_59 rfl 0 rfl ?_
          refine k_iload_n (pc := 60) h dX5_findSoft_60 rfl 1 rfl ?_
          refine k_iconst (pc := 61) h dX5_findSoft_61 kc_iconst_3 ?_
          obtain ⟨v11, s12, cv11, hf⟩ := ob2_s hf
          refine k_callV0 (pc := 62) h cv_RX5_53 (c_X5_errorsWith v5 (3 : Int32) s6 v11 s12 cv11) rfl rfl rfl (st1 := [.int v11]) rfl ⟨rfl, rfl⟩ (rk hR (Nat.le_of_ble_eq_true rfl) (Nat.le_of_ble_eq_true rfl)) (Nat.le_of_ble_eq_true rfl) dX5_findSoft_62 ?_
          refine k_aload_n (pc := 65) h dX5_findSoft_65 rfl 0 rfl ?_
          refine k_getR (pc := 66) h fl_RX5_32 rfl rfl dX5_findSoft_66 ?_
          refine k_getR (pc := 69) h fl_RX5_61 rfl rfl dX5_findSoft_69 ?_
          refine k_getI (pc := 72) h fl_RX5_65 rfl rfl dX5_findSoft_72 ?_
          refine k_icmp_gt (pc := 75) (tgt := 90) h dX5_findSoft_75 rfl (fun hc => ?_) (fun hc => ?_)
          · have hf := it_p hc hf
            obtain rfl := so1 hf
            exact k_drop [0, 1] rfl kj51
          · have hf := it_n hc hf
            refine k_aload_n (pc := 78) h dX5_findSoft_78 rfl 0 rfl ?_
            refine k_dup (pc := 79) h dX5_findSoft_79 rfl ?_
            refine k_getI (pc := 80) h fl_RX5_25 rfl rfl dX5_findSoft_80 ?_
            refine k_iconst (pc := 83) h dX5_findSoft_83 kc_iconst_1 ?_
            refine k_iload_n (pc := 84) h dX5_findSoft_84 rfl 1 rfl ?_
            refine k_ishl (pc := 85) h dX5_findSoft_85 ?_
            refine k_ior (pc := 86) h dX5_findSoft_86 ?_
            obtain ⟨s13, es13, hf⟩ := lb_s hf
            refine k_put (pc := 87) h fl_RX5_25 fp_X5_7 rfl rfl rfl rfl dX5_findSoft_87 ?_
            refine k_heap es13 ?_
            obtain rfl := so1 hf
            exact k_drop [0, 1] rfl kj51
        · have hf := it_n hc hf
          refine k_iload_n (pc := 54) h dX5_findSoft_54 rfl 2 rfl ?_
          refine k_iconst (pc := 55) h dX5_findSoft_55 kc_iconst_5 ?_
          refine k_icmp_ne (pc := 56) (tgt := 90) h dX5_findSoft_56 rfl (fun hc => ?_) (fun hc => ?_)
          · have hf := it_n hc hf
            obtain rfl := so1 hf
            exact k_drop [0, 1] rfl kj51
          · have hf := it_p hc hf
            refine k_aload_n (pc := 59) h dX5_findSoft_59 rfl 0 rfl ?_
            refine k_iload_n (pc := 60) h dX5_findSoft_60 rfl 1 rfl ?_
            refine k_iconst (pc := 61) h dX5_findSoft_61 kc_iconst_3 ?_
            obtain ⟨v14, s15, cv14, hf⟩ := ob2_s hf
            refine k_callV0 (pc := 62) h cv_RX5_53 (c_X5_errorsWith v5 (3 : Int32) s6 v14 s15 cv14) rfl rfl rfl (st1 := [.int v14]) rfl ⟨rfl, rfl⟩ (rk hR (Nat.le_of_ble_eq_true rfl) (Nat.le_of_ble_eq_true rfl)) (Nat.le_of_ble_eq_true rfl) dX5_findSoft_62 ?_
            refine k_aload_n (pc := 65) h dX5_findSoft_65 rfl 0 rfl ?_
            refine k_getR (pc := 66) h fl_RX5_32 rfl rfl dX5_findSoft_66 ?_
            refine k_getR (pc := 69) h fl_RX5_61 rfl rfl dX5_findSoft_69 ?_
            refine k_getI (pc := 72) h fl_RX5_65 rfl rfl dX5_findSoft_72 ?_
            refine k_icmp_gt (pc := 75) (tgt := 90) h dX5_findSoft_75 rfl (fun hc => ?_) (fun hc => ?_)
            · have hf := it_p hc hf
              obtain rfl := so1 hf
              exact k_drop [0, 1] rfl kj51
            · have hf := it_n hc hf
              refine k_aload_n (pc := 78) h dX5_findSoft_78 rfl 0 rfl ?_
              refine k_dup (pc := 79) h dX5_findSoft_79 rfl ?_
              refine k_getI (pc := 80) h fl_RX5_25 rfl rfl dX5_findSoft_80 ?_
              refine k_iconst (pc := 83) h dX5_findSoft_83 kc_iconst_1 ?_
              refine k_iload_n (pc := 84) h dX5_findSoft_84 rfl 1 rfl ?_
              refine k_ishl (pc := 85) h dX5_findSoft_85 ?_
              refine k_ior (pc := 86) h dX5_findSoft_86 ?_
              obtain ⟨s16, es16, hf⟩ := lb_s hf
              refine k_put (pc := 87) h fl_RX5_25 fp_X5_7 rfl rfl rfl rfl dX5_findSoft_87 ?_
              refine k_heap es16 ?_
              obtain rfl := so1 hf
              exact k_drop [0, 1] rfl kj51
    · obtain rfl := so1 hf
      exact hret 96 _ dX5_findSoft_96 trivial
  · have hf := it_n hc hf
    obtain rfl := so1 hf
    exact hret 7 _ dX5_findSoft_7 trivial
theorem dX7_forget_0 : decode cX7_forget 0 = .ok (.aload_n 0, 1) := by decide +kernel
theorem dX7_forget_1 : decode cX7_forget 1 = .ok (.iconst (-1), 1) := by decide +kernel
theorem dX7_forget_2 : decode cX7_forget 2 = .ok (.putfield 15, 3) := by decide +kernel
theorem dX7_forget_5 : decode cX7_forget 5 = .ok (.return_, 1) := by decide +kernel
def f_X7_forget  (s0 : sh_S) : Option (sh_S) := lb (ur s0 53 (upd (s0 53) 3 (-1 : Int32))) (fun s1 => some s1)
set_option maxRecDepth 100000 in
set_option maxHeartbeats 4000000 in
theorem c_X7_forget  (s0 : sh_S) (s9x : sh_S) (hf : f_X7_forget  s0 = some s9x) : Ctr yX7_forget cX7_forget 1 none ({ frames := 0, cells := 0, slots := 0, locals := 0 } : Room) shX [.ref 53] s0 none s9x := by
  refine Ctr.mk (ri := .return_) (by decide) (Nat.le_of_ble_eq_true rfl) (Rt_v) ?_
  intro G h hL hR hret
  refine k_drop (lv' := [(0, .ref 53)]) [0] rfl ?_
  unfold f_X7_forget at hf
  refine k_aload_n (pc := 0) h dX7_forget_0 rfl 0 rfl ?_
  refine k_iconst (pc := 1) h dX7_forget_1 kc_iconst_m1 ?_
  obtain ⟨s1, es1, hf⟩ := lb_s hf
  refine k_put (pc := 2) h fl_RX7_15 fp_X7_3 rfl rfl rfl rfl dX7_forget_2 ?_
  refine k_heap es1 ?_
  obtain rfl := so1 hf
  exact hret 5 _ dX7_forget_5 trivial
theorem dX7_lengthen_0 : decode cX7_lengthen 0 = .ok (.aload_n 0, 1) := by decide +kernel
theorem dX7_lengthen_1 : decode cX7_lengthen 1 = .ok (.getfield 22, 3) := by decide +kernel
theorem dX7_lengthen_4 : decode cX7_lengthen 4 = .ok (.bipush 60, 2) := by decide +kernel
theorem dX7_lengthen_6 : decode cX7_lengthen 6 = .ok (.if_icmp .ge 23, 3) := by decide +kernel
theorem dX7_lengthen_9 : decode cX7_lengthen 9 = .ok (.aload_n 0, 1) := by decide +kernel
theorem dX7_lengthen_10 : decode cX7_lengthen 10 = .ok (.getfield 19, 3) := by decide +kernel
theorem dX7_lengthen_13 : decode cX7_lengthen 13 = .ok (.aload_n 0, 1) := by decide +kernel
theorem dX7_lengthen_14 : decode cX7_lengthen 14 = .ok (.getfield 22, 3) := by decide +kernel
theorem dX7_lengthen_17 : decode cX7_lengthen 17 = .ok (.iload_n 1, 1) := by decide +kernel
theorem dX7_lengthen_18 : decode cX7_lengthen 18 = .ok (.iastore, 1) := by decide +kernel
theorem dX7_lengthen_19 : decode cX7_lengthen 19 = .ok (.aload_n 0, 1) := by decide +kernel
theorem dX7_lengthen_20 : decode cX7_lengthen 20 = .ok (.dup, 1) := by decide +kernel
theorem dX7_lengthen_21 : decode cX7_lengthen 21 = .ok (.getfield 22, 3) := by decide +kernel
theorem dX7_lengthen_24 : decode cX7_lengthen 24 = .ok (.iconst 1, 1) := by decide +kernel
theorem dX7_lengthen_25 : decode cX7_lengthen 25 = .ok (.iadd, 1) := by decide +kernel
theorem dX7_lengthen_26 : decode cX7_lengthen 26 = .ok (.putfield 22, 3) := by decide +kernel
theorem dX7_lengthen_29 : decode cX7_lengthen 29 = .ok (.return_, 1) := by decide +kernel
def f_X7_lengthen (p1 : Int32) (s0 : sh_S) : Option (sh_S) := ob (if (60 : Int32) ≤ (s0 53 5) then some s0 else gu (inb (s0 53 5) 60) (lb (ur s0 55 (upd (s0 55) (ix (s0 53 5)) p1)) (fun s3 => lb (ur s3 53 (upd (s3 53) 5 ((s3 53 5) + (1 : Int32)))) (fun s4 => some s4)))) (fun s1 => some s1)
set_option maxRecDepth 100000 in
set_option maxHeartbeats 4000000 in
theorem c_X7_lengthen (p1 : Int32) (s0 : sh_S) (s9x : sh_S) (hf : f_X7_lengthen p1 s0 = some s9x) : Ctr yX7_lengthen cX7_lengthen 2 none ({ frames := 0, cells := 0, slots := 0, locals := 0 } : Room) shX [.ref 53, .int p1] s0 none s9x := by
  refine Ctr.mk (ri := .return_) (by decide) (Nat.le_of_ble_eq_true rfl) (Rt_v) ?_
  intro G h hL hR hret
  refine k_drop (lv' := [(0, .ref 53), (1, .int p1)]) [0, 1] rfl ?_
  unfold f_X7_lengthen at hf
  refine k_aload_n (pc := 0) h dX7_lengthen_0 rfl 0 rfl ?_
  refine k_getI (pc := 1) h fl_RX7_22 rfl rfl dX7_lengthen_1 ?_
  refine k_bipush (pc := 4) h dX7_lengthen_4 kc_bipush_60 ?_
  obtain ⟨s1, hj, hf⟩ := ob_s hf
  have kj6 : sh_K G shX 29 [] [] s1 := by
    obtain rfl := so1 hf
    exact hret 29 _ dX7_lengthen_29 trivial
  clear hf
  have hf := hj
  clear hj
  refine k_icmp_ge (pc := 6) (tgt := 29) h dX7_lengthen_6 rfl (fun hc => ?_) (fun hc => ?_)
  · have hf := it_p hc hf
    obtain rfl := so1 hf
    exact k_drop [] rfl kj6
  · have hf := it_n hc hf
    refine k_aload_n (pc := 9) h dX7_lengthen_9 rfl 0 rfl ?_
    refine k_getR (pc := 10) h fl_RX7_19 rfl rfl dX7_lengthen_10 ?_
    refine k_aload_n (pc := 13) h dX7_lengthen_13 rfl 0 rfl ?_
    refine k_getI (pc := 14) h fl_RX7_22 rfl rfl dX7_lengthen_14 ?_
    refine k_iload_n (pc := 17) h dX7_lengthen_17 rfl 1 rfl ?_
    obtain ⟨g2, hf⟩ := gu_s hf
    obtain ⟨s3, es3, hf⟩ := lb_s hf
    refine k_iast (pc := 18) (n := 60) h rfl g2 dX7_lengthen_18 ?_
    refine k_heap es3 ?_
    refine k_aload_n (pc := 19) h dX7_lengthen_19 rfl 0 rfl ?_
    refine k_dup (pc := 20) h dX7_lengthen_20 rfl ?_
    refine k_getI (pc := 21) h fl_RX7_22 rfl rfl dX7_lengthen_21 ?_
    refine k_iconst (pc := 24) h dX7_lengthen_24 kc_iconst_1 ?_
    refine k_iadd (pc := 25) h dX7_lengthen_25 ?_
    obtain ⟨s4, es4, hf⟩ := lb_s hf
    refine k_put (pc := 26) h fl_RX7_22 fp_X7_5 rfl rfl rfl rfl dX7_lengthen_26 ?_
    refine k_heap es4 ?_
    obtain rfl := so1 hf
    exact k_drop [] rfl kj6
theorem dX7_nearestBehind_0 : decode cX7_nearestBehind 0 = .ok (.aload_n 0, 1) := by decide +kernel
theorem dX7_nearestBehind_1 : decode cX7_nearestBehind 1 = .ok (.getfield 29, 3) := by decide +kernel
theorem dX7_nearestBehind_4 : decode cX7_nearestBehind 4 = .ok (.getfield 59, 3) := by decide +kernel
theorem dX7_nearestBehind_7 : decode cX7_nearestBehind 7 = .ok (.getfield 102, 3) := by decide +kernel
theorem dX7_nearestBehind_10 : decode cX7_nearestBehind 10 = .ok (.iload_n 1, 1) := by decide +kernel
theorem dX7_nearestBehind_11 : decode cX7_nearestBehind 11 = .ok (.iaload, 1) := by decide +kernel
theorem dX7_nearestBehind_12 : decode cX7_nearestBehind 12 = .ok (.istore_n 2, 1) := by decide +kernel
theorem dX7_nearestBehind_13 : decode cX7_nearestBehind 13 = .ok (.aload_n 0, 1) := by decide +kernel
theorem dX7_nearestBehind_14 : decode cX7_nearestBehind 14 = .ok (.getfield 29, 3) := by decide +kernel
theorem dX7_nearestBehind_17 : decode cX7_nearestBehind 17 = .ok (.getfield 59, 3) := by decide +kernel
theorem dX7_nearestBehind_20 : decode cX7_nearestBehind 20 = .ok (.getfield 105, 3) := by decide +kernel
theorem dX7_nearestBehind_23 : decode cX7_nearestBehind 23 = .ok (.iload_n 1, 1) := by decide +kernel
theorem dX7_nearestBehind_24 : decode cX7_nearestBehind 24 = .ok (.iaload, 1) := by decide +kernel
theorem dX7_nearestBehind_25 : decode cX7_nearestBehind 25 = .ok (.istore_n 3, 1) := by decide +kernel
theorem dX7_nearestBehind_26 : decode cX7_nearestBehind 26 = .ok (.iload_n 2, 1) := by decide +kernel
theorem dX7_nearestBehind_27 : decode cX7_nearestBehind 27 = .ok (.iconst (-1), 1) := by decide +kernel
theorem dX7_nearestBehind_28 : decode cX7_nearestBehind 28 = .ok (.if_icmp .ne 9, 3) := by decide +kernel
theorem dX7_nearestBehind_31 : decode cX7_nearestBehind 31 = .ok (.sipush 1000, 3) := by decide +kernel
theorem dX7_nearestBehind_34 : decode cX7_nearestBehind 34 = .ok (.goto 9, 3) := by decide +kernel
theorem dX7_nearestBehind_37 : decode cX7_nearestBehind 37 = .ok (.aload_n 0, 1) := by decide +kernel
theorem dX7_nearestBehind_38 : decode cX7_nearestBehind 38 = .ok (.getfield 9, 3) := by decide +kernel
theorem dX7_nearestBehind_41 : decode cX7_nearestBehind 41 = .ok (.iload_n 2, 1) := by decide +kernel
theorem dX7_nearestBehind_42 : decode cX7_nearestBehind 42 = .ok (.iaload, 1) := by decide +kernel
theorem dX7_nearestBehind_43 : decode cX7_nearestBehind 43 = .ok (.istore 4, 2) := by decide +kernel
theorem dX7_nearestBehind_45 : decode cX7_nearestBehind 45 = .ok (.iload_n 3, 1) := by decide +kernel
theorem dX7_nearestBehind_46 : decode cX7_nearestBehind 46 = .ok (.iconst (-1), 1) := by decide +kernel
theorem dX7_nearestBehind_47 : decode cX7_nearestBehind 47 = .ok (.if_icmp .ne 9, 3) := by decide +kernel
theorem dX7_nearestBehind_50 : decode cX7_nearestBehind 50 = .ok (.sipush 1000, 3) := by decide +kernel
theorem dX7_nearestBehind_53 : decode cX7_nearestBehind 53 = .ok (.goto 9, 3) := by decide +kernel
theorem dX7_nearestBehind_56 : decode cX7_nearestBehind 56 = .ok (.aload_n 0, 1) := by decide +kernel
theorem dX7_nearestBehind_57 : decode cX7_nearestBehind 57 = .ok (.getfield 9, 3) := by decide +kernel
theorem dX7_nearestBehind_60 : decode cX7_nearestBehind 60 = .ok (.iload_n 3, 1) := by decide +kernel
theorem dX7_nearestBehind_61 : decode cX7_nearestBehind 61 = .ok (.iaload, 1) := by decide +kernel
theorem dX7_nearestBehind_62 : decode cX7_nearestBehind 62 = .ok (.istore 5, 2) := by decide +kernel
theorem dX7_nearestBehind_64 : decode cX7_nearestBehind 64 = .ok (.iload 4, 2) := by decide +kernel
theorem dX7_nearestBehind_66 : decode cX7_nearestBehind 66 = .ok (.sipush 1000, 3) := by decide +kernel
theorem dX7_nearestBehind_69 : decode cX7_nearestBehind 69 = .ok (.if_icmp .lt 13, 3) := by decide +kernel
theorem dX7_nearestBehind_72 : decode cX7_nearestBehind 72 = .ok (.iload 5, 2) := by decide +kernel
theorem dX7_nearestBehind_74 : decode cX7_nearestBehind 74 = .ok (.sipush 1000, 3) := by decide +kernel
theorem dX7_nearestBehind_77 : decode cX7_nearestBehind 77 = .ok (.if_icmp .lt 5, 3) := by decide +kernel
theorem dX7_nearestBehind_80 : decode cX7_nearestBehind 80 = .ok (.iconst (-1), 1) := by decide +kernel
theorem dX7_nearestBehind_81 : decode cX7_nearestBehind 81 = .ok (.ireturn, 1) := by decide +kernel
theorem dX7_nearestBehind_82 : decode cX7_nearestBehind 82 = .ok (.iload 4, 2) := by decide +kernel
theorem dX7_nearestBehind_84 : decode cX7_nearestBehind 84 = .ok (.iload 5, 2) := by decide +kernel
theorem dX7_nearestBehind_86 : decode cX7_nearestBehind 86 = .ok (.if_icmp .ne 9, 3) := by decide +kernel
theorem dX7_nearestBehind_89 : decode cX7_nearestBehind 89 = .ok (.iload_n 2, 1) := by decide +kernel
theorem dX7_nearestBehind_90 : decode cX7_nearestBehind 90 = .ok (.iload_n 3, 1) := by decide +kernel
theorem dX7_nearestBehind_91 : decode cX7_nearestBehind 91 = .ok (.invokestatic 108, 3) := by decide +kernel
theorem dX7_nearestBehind_94 : decode cX7_nearestBehind 94 = .ok (.ireturn, 1) := by decide +kernel
theorem dX7_nearestBehind_95 : decode cX7_nearestBehind 95 = .ok (.iload 4, 2) := by decide +kernel
theorem dX7_nearestBehind_97 : decode cX7_nearestBehind 97 = .ok (.iload 5, 2) := by decide +kernel
theorem dX7_nearestBehind_99 : decode cX7_nearestBehind 99 = .ok (.if_icmp .ge 7, 3) := by decide +kernel
theorem dX7_nearestBehind_102 : decode cX7_nearestBehind 102 = .ok (.iload_n 2, 1) := by decide +kernel
theorem dX7_nearestBehind_103 : decode cX7_nearestBehind 103 = .ok (.goto 4, 3) := by decide +kernel
theorem dX7_nearestBehind_106 : decode cX7_nearestBehind 106 = .ok (.iload_n 3, 1) := by decide +kernel
theorem dX7_nearestBehind_107 : decode cX7_nearestBehind 107 = .ok (.ireturn, 1) := by decide +kernel
def f_X7_nearestBehind_B82_1 (v2 : Int32) (v4 : Int32) (v5 : Int32) (v7 : Int32) : Option (Int32) := (if v5 = v7 then some (if v4 < v2 then v4 else v2) else ob (if v7 ≤ v5 then some v4 else some v2) (fun v9 => some v9))
def f_X7_nearestBehind (p1 : Int32) (s0 : sh_S) : Option (Int32) := gu (inb p1 24) (lb ((s0 12 (ix p1))) (fun v2 => gu (inb p1 24) (lb ((s0 13 (ix p1))) (fun v4 => ob (if v2 = (-1 : Int32) then some (1000 : Int32) else gu (inb v2 24) (some (s0 54 (ix v2)))) (fun v5 => ob (if v4 = (-1 : Int32) then some (1000 : Int32) else gu (inb v4 24) (some (s0 54 (ix v4)))) (fun v7 => (if v5 < (1000 : Int32) then f_X7_nearestBehind_B82_1 v2 v4 v5 v7 else (if v7 < (1000 : Int32) then f_X7_nearestBehind_B82_1 v2 v4 v5 v7 else some (-1 : Int32)))))))))
set_option maxRecDepth 100000 in
set_option maxHeartbeats 4000000 in
theorem c_X7_nearestBehind (p1 : Int32) (s0 : sh_S) (r : Int32) (hf : f_X7_nearestBehind p1 s0 = some r) : Ctr yX7_nearestBehind cX7_nearestBehind 6 (some .int) ({ frames := 1, cells := 0, slots := 0, locals := 30 } : Room) shX [.ref 53, .int p1] s0 (some (.int r)) s0 := by
  refine Ctr.mk (ri := .ireturn) (by decide) (Nat.le_of_ble_eq_true rfl) (Rt_i r) ?_
  intro G h hL hR hret
  refine k_drop (lv' := [(0, .ref 53), (1, .int p1)]) [0, 1] rfl ?_
  unfold f_X7_nearestBehind at hf
  refine k_aload_n (pc := 0) h dX7_nearestBehind_0 rfl 0 rfl ?_
  refine k_getR (pc := 1) h fl_RX7_29 rfl rfl dX7_nearestBehind_1 ?_
  refine k_getR (pc := 4) h fl_RX7_59 rfl rfl dX7_nearestBehind_4 ?_
  refine k_getR (pc := 7) h fl_RX7_102 rfl rfl dX7_nearestBehind_7 ?_
  refine k_iload_n (pc := 10) h dX7_nearestBehind_10 rfl 1 rfl ?_
  obtain ⟨g1, hf⟩ := gu_s hf
  refine k_iald (pc := 11) (n := 24) h rfl g1 dX7_nearestBehind_11 ?_
  obtain ⟨v2, ev2, hf⟩ := lb_s hf
  refine k_top ev2 ?_
  refine k_istore_n (pc := 12) h dX7_nearestBehind_12 rfl (nk hL (by decide)) (lv' := [(0, .ref 53), (1, .int p1), (2, .int v2)]) rfl ?_
  refine k_aload_n (pc := 13) h dX7_nearestBehind_13 rfl 0 rfl ?_
  refine k_getR (pc := 14) h fl_RX7_29 rfl rfl dX7_nearestBehind_14 ?_
  refine k_getR (pc := 17) h fl_RX7_59 rfl rfl dX7_nearestBehind_17 ?_
  refine k_getR (pc := 20) h fl_RX7_105 rfl rfl dX7_nearestBehind_20 ?_
  refine k_iload_n (pc := 23) h dX7_nearestBehind_23 rfl 1 rfl ?_
  obtain ⟨g3, hf⟩ := gu_s hf
  refine k_iald (pc := 24) (n := 24) h rfl g3 dX7_nearestBehind_24 ?_
  obtain ⟨v4, ev4, hf⟩ := lb_s hf
  refine k_top ev4 ?_
  refine k_istore_n (pc := 25) h dX7_nearestBehind_25 rfl (nk hL (by decide)) (lv' := [(0, .ref 53), (1, .int p1), (2, .int v2), (3, .int v4)]) rfl ?_
  refine k_iload_n (pc := 26) h dX7_nearestBehind_26 rfl 2 rfl ?_
  refine k_iconst (pc := 27) h dX7_nearestBehind_27 kc_iconst_m1 ?_
  obtain ⟨v5, hj, hf⟩ := ob_s hf
  have kj28 : sh_K G shX 43 [(0, .ref 53), (2, .int v2), (3, .int v4)] [.int v5] s0 := by
    refine k_istore (pc := 43) h dX7_nearestBehind_43 (nk hL (by decide)) (lv' := [(0, .ref 53), (2, .int v2), (3, .int v4), (4, .int v5)]) rfl ?_
    refine k_iload_n (pc := 45) h dX7_nearestBehind_45 rfl 2 rfl ?_
    refine k_iconst (pc := 46) h dX7_nearestBehind_46 kc_iconst_m1 ?_
    obtain ⟨v7, hj, hf⟩ := ob_s hf
    have kj47 : sh_K G shX 62 [(2, .int v2), (3, .int v4), (4, .int v5)] [.int v7] s0 := by
      refine k_istore (pc := 62) h dX7_nearestBehind_62 (nk hL (by decide)) (lv' := [(2, .int v2), (3, .int v4), (4, .int v5), (5, .int v7)]) rfl ?_
      refine k_iload (pc := 64) h dX7_nearestBehind_64 2 rfl ?_
      refine k_sipush (pc := 66) h dX7_nearestBehind_66 kc_sipush_1000 ?_
      have kb82_1 : f_X7_nearestBehind_B82_1 v2 v4 v5 v7 = some r → sh_K G shX 82 [(2, .int v2), (3, .int v4), (4, .int v5), (5, .int v7)] [] s0 := by
        clear hf
        intro  hf
        unfold f_X7_nearestBehind_B82_1 at hf
        refine k_iload (pc := 82) h dX7_nearestBehind_82 2 rfl ?_
        refine k_iload (pc := 84) h dX7_nearestBehind_84 3 rfl ?_
        refine k_icmp_ne (pc := 86) (tgt := 95) h dX7_nearestBehind_86 rfl (fun hc => ?_) (fun hc => ?_)
        · have hf := it_n hc hf
          refine k_iload (pc := 95) h dX7_nearestBehind_95 2 rfl ?_
          refine k_iload (pc := 97) h dX7_nearestBehind_97 3 rfl ?_
          obtain ⟨v9, hj, hf⟩ := ob_s hf
          have kj99 : sh_K G shX 107 [] [.int v9] s0 := by
            obtain rfl := so1 hf
            exact hret 107 _ dX7_nearestBehind_107 trivial
          clear hf
          have hf := hj
          clear hj
          refine k_icmp_ge (pc := 99) (tgt := 106) h dX7_nearestBehind_99 rfl (fun hc => ?_) (fun hc => ?_)
          · have hf := it_p hc hf
            refine k_iload_n (pc := 106) h dX7_nearestBehind_106 rfl 1 rfl ?_
            obtain rfl := so1 hf
            exact k_drop [] rfl kj99
          · have hf := it_n hc hf
            refine k_iload_n (pc := 102) h dX7_nearestBehind_102 rfl 0 rfl ?_
            refine k_goto (pc := 103) (tgt := 107) h dX7_nearestBehind_103 rfl ?_
            obtain rfl := so1 hf
            exact k_drop [] rfl kj99
        · have hf := it_p hc hf
          refine k_iload_n (pc := 89) h dX7_nearestBehind_89 rfl 0 rfl ?_
          refine k_iload_n (pc := 90) h dX7_nearestBehind_90 rfl 1 rfl ?_
          refine k_min (pc := 91) h ⟨wd_774_m, wd_775_m, wd_101_m, wd_776_m⟩ (rk hR (Nat.le_of_ble_eq_true rfl) (Nat.le_of_ble_eq_true rfl)) (Nat.le_of_ble_eq_true rfl) dX7_nearestBehind_91 ?_
          obtain rfl := so1 hf
          exact hret 94 _ dX7_nearestBehind_94 trivial
      refine k_icmp_lt (pc := 69) (tgt := 82) h dX7_nearestBehind_69 rfl (fun hc => ?_) (fun hc => ?_)
      · have hf := it_p hc hf
        exact k_drop [0, 1, 2, 3] rfl (kb82_1  hf)
      · have hf := it_n hc hf
        refine k_iload (pc := 72) h dX7_nearestBehind_72 3 rfl ?_
        refine k_sipush (pc := 74) h dX7_nearestBehind_74 kc_sipush_1000 ?_
        refine k_icmp_lt (pc := 77) (tgt := 82) h dX7_nearestBehind_77 rfl (fun hc => ?_) (fun hc => ?_)
        · have hf := it_p hc hf
          exact k_drop [0, 1, 2, 3] rfl (kb82_1  hf)
        · have hf := it_n hc hf
          refine k_iconst (pc := 80) h dX7_nearestBehind_80 kc_iconst_m1 ?_
          obtain rfl := so1 hf
          exact hret 81 _ dX7_nearestBehind_81 trivial
    clear hf
    have hf := hj
    clear hj
    refine k_icmp_ne (pc := 47) (tgt := 56) h dX7_nearestBehind_47 rfl (fun hc => ?_) (fun hc => ?_)
    · have hf := it_n hc hf
      refine k_aload_n (pc := 56) h dX7_nearestBehind_56 rfl 0 rfl ?_
      refine k_getR (pc := 57) h fl_RX7_9 rfl rfl dX7_nearestBehind_57 ?_
      refine k_iload_n (pc := 60) h dX7_nearestBehind_60 rfl 2 rfl ?_
      obtain ⟨g8, hf⟩ := gu_s hf
      refine k_iald (pc := 61) (n := 24) h rfl g8 dX7_nearestBehind_61 ?_
      obtain rfl := so1 hf
      exact k_drop [1, 2, 3] rfl kj47
    · have hf := it_p hc hf
      refine k_sipush (pc := 50) h dX7_nearestBehind_50 kc_sipush_1000 ?_
      refine k_goto (pc := 53) (tgt := 62) h dX7_nearestBehind_53 rfl ?_
      obtain rfl := so1 hf
      exact k_drop [1, 2, 3] rfl kj47
  clear hf
  have hf := hj
  clear hj
  refine k_icmp_ne (pc := 28) (tgt := 37) h dX7_nearestBehind_28 rfl (fun hc => ?_) (fun hc => ?_)
  · have hf := it_n hc hf
    refine k_aload_n (pc := 37) h dX7_nearestBehind_37 rfl 0 rfl ?_
    refine k_getR (pc := 38) h fl_RX7_9 rfl rfl dX7_nearestBehind_38 ?_
    refine k_iload_n (pc := 41) h dX7_nearestBehind_41 rfl 2 rfl ?_
    obtain ⟨g6, hf⟩ := gu_s hf
    refine k_iald (pc := 42) (n := 24) h rfl g6 dX7_nearestBehind_42 ?_
    obtain rfl := so1 hf
    exact k_drop [0, 2, 3] rfl kj28
  · have hf := it_p hc hf
    refine k_sipush (pc := 31) h dX7_nearestBehind_31 kc_sipush_1000 ?_
    refine k_goto (pc := 34) (tgt := 43) h dX7_nearestBehind_34 rfl ?_
    obtain rfl := so1 hf
    exact k_drop [0, 2, 3] rfl kj28
theorem dX7_measure_0 : decode cX7_measure 0 = .ok (.iconst 0, 1) := by decide +kernel
theorem dX7_measure_1 : decode cX7_measure 1 = .ok (.istore_n 3, 1) := by decide +kernel
theorem dX7_measure_2 : decode cX7_measure 2 = .ok (.iload_n 3, 1) := by decide +kernel
theorem dX7_measure_3 : decode cX7_measure 3 = .ok (.aload_n 0, 1) := by decide +kernel
theorem dX7_measure_4 : decode cX7_measure 4 = .ok (.getfield 25, 3) := by decide +kernel
theorem dX7_measure_7 : decode cX7_measure 7 = .ok (.getfield 89, 3) := by decide +kernel
theorem dX7_measure_10 : decode cX7_measure 10 = .ok (.if_icmp .ge 30, 3) := by decide +kernel
theorem dX7_measure_13 : decode cX7_measure 13 = .ok (.aload_n 0, 1) := by decide +kernel
theorem dX7_measure_14 : decode cX7_measure 14 = .ok (.getfield 9, 3) := by decide +kernel
theorem dX7_measure_17 : decode cX7_measure 17 = .ok (.iload_n 3, 1) := by decide +kernel
theorem dX7_measure_18 : decode cX7_measure 18 = .ok (.iload_n 1, 1) := by decide +kernel
theorem dX7_measure_19 : decode cX7_measure 19 = .ok (.iload_n 3, 1) := by decide +kernel
theorem dX7_measure_20 : decode cX7_measure 20 = .ok (.invokestatic 95, 3) := by decide +kernel
theorem dX7_measure_23 : decode cX7_measure 23 = .ok (.ifCond .eq 7, 3) := by decide +kernel
theorem dX7_measure_26 : decode cX7_measure 26 = .ok (.iconst 0, 1) := by decide +kernel
theorem dX7_measure_27 : decode cX7_measure 27 = .ok (.goto 6, 3) := by decide +kernel
theorem dX7_measure_30 : decode cX7_measure 30 = .ok (.sipush 1000, 3) := by decide +kernel
theorem dX7_measure_33 : decode cX7_measure 33 = .ok (.iastore, 1) := by decide +kernel
theorem dX7_measure_34 : decode cX7_measure 34 = .ok (.iinc 3 1, 3) := by decide +kernel
theorem dX7_measure_37 : decode cX7_measure 37 = .ok (.goto (-35), 3) := by decide +kernel
theorem dX7_measure_40 : decode cX7_measure 40 = .ok (.iconst 1, 1) := by decide +kernel
theorem dX7_measure_41 : decode cX7_measure 41 = .ok (.istore_n 3, 1) := by decide +kernel
theorem dX7_measure_42 : decode cX7_measure 42 = .ok (.iconst 0, 1) := by decide +kernel
theorem dX7_measure_43 : decode cX7_measure 43 = .ok (.istore 4, 2) := by decide +kernel
theorem dX7_measure_45 : decode cX7_measure 45 = .ok (.iload_n 3, 1) := by decide +kernel
theorem dX7_measure_46 : decode cX7_measure 46 = .ok (.ifCond .eq 101, 3) := by decide +kernel
theorem dX7_measure_49 : decode cX7_measure 49 = .ok (.iload 4, 2) := by decide +kernel
theorem dX7_measure_51 : decode cX7_measure 51 = .ok (.sipush 1000, 3) := by decide +kernel
theorem dX7_measure_54 : decode cX7_measure 54 = .ok (.if_icmp .ge 93, 3) := by decide +kernel
theorem dX7_measure_57 : decode cX7_measure 57 = .ok (.iconst 0, 1) := by decide +kernel
theorem dX7_measure_58 : decode cX7_measure 58 = .ok (.istore_n 3, 1) := by decide +kernel
theorem dX7_measure_59 : decode cX7_measure 59 = .ok (.aload_n 0, 1) := by decide +kernel
theorem dX7_measure_60 : decode cX7_measure 60 = .ok (.getfield 25, 3) := by decide +kernel
theorem dX7_measure_63 : decode cX7_measure 63 = .ok (.getfield 89, 3) := by decide +kernel
theorem dX7_measure_66 : decode cX7_measure 66 = .ok (.iconst 1, 1) := by decide +kernel
theorem dX7_measure_67 : decode cX7_measure 67 = .ok (.isub, 1) := by decide +kernel
theorem dX7_measure_68 : decode cX7_measure 68 = .ok (.istore 5, 2) := by decide +kernel
theorem dX7_measure_70 : decode cX7_measure 70 = .ok (.iload 5, 2) := by decide +kernel
theorem dX7_measure_72 : decode cX7_measure 72 = .ok (.ifCond .lt 69, 3) := by decide +kernel
theorem dX7_measure_75 : decode cX7_measure 75 = .ok (.aload_n 0, 1) := by decide +kernel
theorem dX7_measure_76 : decode cX7_measure 76 = .ok (.iload 5, 2) := by decide +kernel
theorem dX7_measure_78 : decode cX7_measure 78 = .ok (.invokevirtual 99, 3) := by decide +kernel
theorem dX7_measure_81 : decode cX7_measure 81 = .ok (.istore 6, 2) := by decide +kernel
theorem dX7_measure_83 : decode cX7_measure 83 = .ok (.iload_n 2, 1) := by decide +kernel
theorem dX7_measure_84 : decode cX7_measure 84 = .ok (.iload 5, 2) := by decide +kernel
theorem dX7_measure_86 : decode cX7_measure 86 = .ok (.invokestatic 95, 3) := by decide +kernel
theorem dX7_measure_89 : decode cX7_measure 89 = .ok (.ifCond .eq 46, 3) := by decide +kernel
theorem dX7_measure_92 : decode cX7_measure 92 = .ok (.iload 6, 2) := by decide +kernel
theorem dX7_measure_94 : decode cX7_measure 94 = .ok (.iconst (-1), 1) := by decide +kernel
theorem dX7_measure_95 : decode cX7_measure 95 = .ok (.if_icmp .eq 40, 3) := by decide +kernel
theorem dX7_measure_98 : decode cX7_measure 98 = .ok (.aload_n 0, 1) := by decide +kernel
theorem dX7_measure_99 : decode cX7_measure 99 = .ok (.getfield 9, 3) := by decide +kernel
theorem dX7_measure_102 : decode cX7_measure 102 = .ok (.iload 6, 2) := by decide +kernel
theorem dX7_measure_104 : decode cX7_measure 104 = .ok (.iaload, 1) := by decide +kernel
theorem dX7_measure_105 : decode cX7_measure 105 = .ok (.iconst 1, 1) := by decide +kernel
theorem dX7_measure_106 : decode cX7_measure 106 = .ok (.iadd, 1) := by decide +kernel
theorem dX7_measure_107 : decode cX7_measure 107 = .ok (.aload_n 0, 1) := by decide +kernel
theorem dX7_measure_108 : decode cX7_measure 108 = .ok (.getfield 9, 3) := by decide +kernel
theorem dX7_measure_111 : decode cX7_measure 111 = .ok (.iload 5, 2) := by decide +kernel
theorem dX7_measure_113 : decode cX7_measure 113 = .ok (.iaload, 1) := by decide +kernel
theorem dX7_measure_114 : decode cX7_measure 114 = .ok (.if_icmp .ge 21, 3) := by decide +kernel
theorem dX7_measure_117 : decode cX7_measure 117 = .ok (.aload_n 0, 1) := by decide +kernel
theorem dX7_measure_118 : decode cX7_measure 118 = .ok (.getfield 9, 3) := by decide +kernel
theorem dX7_measure_121 : decode cX7_measure 121 = .ok (.iload 5, 2) := by decide +kernel
theorem dX7_measure_123 : decode cX7_measure 123 = .ok (.aload_n 0, 1) := by decide +kernel
theorem dX7_measure_124 : decode cX7_measure 124 = .ok (.getfield 9, 3) := by decide +kernel
theorem dX7_measure_127 : decode cX7_measure 127 = .ok (.iload 6, 2) := by decide +kernel
theorem dX7_measure_129 : decode cX7_measure 129 = .ok (.iaload, 1) := by decide +kernel
theorem dX7_measure_130 : decode cX7_measure 130 = .ok (.iconst 1, 1) := by decide +kernel
theorem dX7_measure_131 : decode cX7_measure 131 = .ok (.iadd, 1) := by decide +kernel
theorem dX7_measure_132 : decode cX7_measure 132 = .ok (.iastore, 1) := by decide +kernel
theorem dX7_measure_133 : decode cX7_measure 133 = .ok (.iconst 1, 1) := by decide +kernel
theorem dX7_measure_134 : decode cX7_measure 134 = .ok (.istore_n 3, 1) := by decide +kernel
theorem dX7_measure_135 : decode cX7_measure 135 = .ok (.iinc 5 (-1), 3) := by decide +kernel
theorem dX7_measure_138 : decode cX7_measure 138 = .ok (.goto (-68), 3) := by decide +kernel
theorem dX7_measure_141 : decode cX7_measure 141 = .ok (.iinc 4 1, 3) := by decide +kernel
theorem dX7_measure_144 : decode cX7_measure 144 = .ok (.goto (-99), 3) := by decide +kernel
theorem dX7_measure_147 : decode cX7_measure 147 = .ok (.return_, 1) := by decide +kernel
def f_X7_measure_L2 (p1 : Int32) (v1 : Int32) (s2 : sh_S) : Option ((Int32 × sh_S) ⊕ (sh_S)) := (if (s2 0 9) ≤ v1 then some (.inr s2) else ob (f_X9_hasBit p1 v1) (fun v4 => ob (if v4 = 0 then some (1000 : Int32) else some (0 : Int32)) (fun v5 => gu (inb v1 24) (lb (ur s2 54 (upd (s2 54) (ix v1) v5)) (fun s7 => lb (v1 + (1 : Int32)) (fun v8 => some (.inl (v8, s7))))))))
def f_X7_measure_L70 (p2 : Int32) (v14 : Int32) (v15 : Int32) (s16 : sh_S) : Option ((Int32 × Int32 × sh_S) ⊕ (Int32 × sh_S)) := (if v15 < 0 then some (.inr (v14, s16)) else ob (f_X7_nearestBehind v15 s16) (fun v19 => ob (f_X9_hasBit p2 v15) (fun v20 => ob2 (if v20 = 0 then some (v14, s16) else (if v19 = (-1 : Int32) then some (v14, s16) else gu (inb v19 24) (gu (inb v15 24) ((if (s16 54 (ix v15)) ≤ ((s16 54 (ix v19)) + (1 : Int32)) then some (v14, s16) else gu (inb v19 24) (gu (inb v15 24) (lb (ur s16 54 (upd (s16 54) (ix v15) ((s16 54 (ix v19)) + (1 : Int32)))) (fun s27 => some ((1 : Int32), s27))))))))) (fun v21 s22 => lb (v15 + (-1 : Int32)) (fun v28 => some (.inl (v21, v28, s22)))))))
def f_X7_measure_L45 (p2 : Int32) (v9 : Int32) (v10 : Int32) (s11 : sh_S) : Option ((Int32 × Int32 × sh_S) ⊕ (sh_S)) := (if v9 = 0 then some (.inr s11) else (if (1000 : Int32) ≤ v10 then some (.inr s11) else lb (((s11 0 9) - (1 : Int32))) (fun v13 => ob2 (lp (fun q => f_X7_measure_L70 p2 q.1 q.2.1 q.2.2) FU ((0 : Int32), v13, s11)) (fun v17 s18 => lb (v10 + (1 : Int32)) (fun v29 => some (.inl (v17, v29, s18)))))))
def f_X7_measure (p1 : Int32) (p2 : Int32) (s0 : sh_S) : Option (sh_S) := ob (lp (fun q => f_X7_measure_L2 p1 q.1 q.2) FU ((0 : Int32), s0)) (fun s3 => ob (lp (fun q => f_X7_measure_L45 p2 q.1 q.2.1 q.2.2) FU ((1 : Int32), (0 : Int32), s3)) (fun s12 => some s12))
set_option maxRecDepth 100000 in
set_option maxHeartbeats 4000000 in
theorem c_X7_measure (p1 : Int32) (p2 : Int32) (s0 : sh_S) (s9x : sh_S) (hf : f_X7_measure p1 p2 s0 = some s9x) : Ctr yX7_measure cX7_measure 7 none ({ frames := 2, cells := 0, slots := 0, locals := 55 } : Room) shX [.ref 53, .int p1, .int p2] s0 none s9x := by
  refine Ctr.mk (ri := .return_) (by decide) (Nat.le_of_ble_eq_true rfl) (Rt_v) ?_
  intro G h hL hR hret
  refine k_drop (lv' := [(0, .ref 53), (1, .int p1), (2, .int p2)]) [0, 1, 2] rfl ?_
  unfold f_X7_measure at hf
  refine k_iconst (pc := 0) h dX7_measure_0 kc_iconst_0 ?_
  refine k_istore_n (pc := 1) h dX7_measure_1 rfl (nk hL (by decide)) (lv' := [(0, .ref 53), (1, .int p1), (2, .int p2), (3, .int (0 : Int32))]) rfl ?_
  obtain ⟨s3, hl, hf⟩ := ob_s hf
  refine k_drop (lv' := [(0, .ref 53), (1, .int p1), (2, .int p2), (3, .int (0 : Int32))]) [0, 1, 2, 3] rfl ?_
  refine lp_s (P := (fun q : Int32 × sh_S => sh_K G shX 2 [(0, .ref 53), (1, .int p1), (2, .int p2), (3, .int q.1)] [] q.2)) (Q := (fun q : sh_S => sh_K G shX 40 [(0, .ref 53), (2, .int p2)] [] q)) (s := ((0 : Int32), s0)) ?_ hl ?_
  · clear hf hl
    intro q rr hf kc2
    obtain ⟨v1, s2⟩ := q
    have hf : f_X7_measure_L2 p1 v1 s2 = some rr := hf
    unfold f_X7_measure_L2 at hf
    refine k_iload_n (pc := 2) h dX7_measure_2 rfl 3 rfl ?_
    refine k_aload_n (pc := 3) h dX7_measure_3 rfl 0 rfl ?_
    refine k_getR (pc := 4) h fl_RX7_25 rfl rfl dX7_measure_4 ?_
    refine k_getI (pc := 7) h fl_RX7_89 rfl rfl dX7_measure_7 ?_
    refine k_icmp_ge (pc := 10) (tgt := 40) h dX7_measure_10 rfl (fun hc => ?_) (fun hc => ?_)
    · have hf := it_p hc hf
      obtain rfl := so1 hf
      exact k_drop [0, 2] rfl kc2
    · have hf := it_n hc hf
      refine k_aload_n (pc := 13) h dX7_measure_13 rfl 0 rfl ?_
      refine k_getR (pc := 14) h fl_RX7_9 rfl rfl dX7_measure_14 ?_
      refine k_iload_n (pc := 17) h dX7_measure_17 rfl 3 rfl ?_
      refine k_iload_n (pc := 18) h dX7_measure_18 rfl 1 rfl ?_
      refine k_iload_n (pc := 19) h dX7_measure_19 rfl 3 rfl ?_
      obtain ⟨v4, cv4, hf⟩ := ob_s hf
      refine k_callNp (pc := 20) h cn_RX7_95 (c_X9_hasBit p1 v1 _ v4 cv4) rfl rfl (st1 := [.int v4, .int v1, .ref 54]) rfl ⟨rfl, rfl⟩ (rk hR (Nat.le_of_ble_eq_true rfl) (Nat.le_of_ble_eq_true rfl)) (Nat.le_of_ble_eq_true rfl) dX7_measure_20 ?_
      obtain ⟨v5, hj, hf⟩ := ob_s hf
      have kj23 : sh_K G shX 33 [(0, .ref 53), (1, .int p1), (2, .int p2), (3, .int v1)] [.int v5, .int v1, .ref 54] s2 := by
        obtain ⟨g6, hf⟩ := gu_s hf
        obtain ⟨s7, es7, hf⟩ := lb_s hf
        refine k_iast (pc := 33) (n := 24) h rfl g6 dX7_measure_33 ?_
        refine k_heap es7 ?_
        obtain ⟨v8, ev8, hf⟩ := lb_s hf
        refine k_iinc (pc := 34) h dX7_measure_34 3 rfl ((congrArg (_ + ·) kc_iconst_1).trans ev8.symm) (nk hL (by decide)) (lv' := [(0, .ref 53), (1, .int p1), (2, .int p2), (3, .int v8)]) rfl ?_
        refine k_goto (pc := 37) (tgt := 2) h dX7_measure_37 rfl ?_
        obtain rfl := so1 hf
        exact k_drop [0, 1, 2, 3] rfl kc2
      clear hf
      have hf := hj
      clear hj
      refine k_if_eq (pc := 23) (tgt := 30) h dX7_measure_23 rfl (fun hc => ?_) (fun hc => ?_)
      · have hf := it_p hc hf
        refine k_sipush (pc := 30) h dX7_measure_30 kc_sipush_1000 ?_
        obtain rfl := so1 hf
        exact k_drop [0, 1, 2, 3] rfl kj23
      · have hf := it_n hc hf
        refine k_iconst (pc := 26) h dX7_measure_26 kc_iconst_0 ?_
        refine k_goto (pc := 27) (tgt := 33) h dX7_measure_27 rfl ?_
        obtain rfl := so1 hf
        exact k_drop [0, 1, 2, 3] rfl kj23
  · refine k_iconst (pc := 40) h dX7_measure_40 kc_iconst_1 ?_
    refine k_istore_n (pc := 41) h dX7_measure_41 rfl (nk hL (by decide)) (lv' := [(0, .ref 53), (2, .int p2), (3, .int (1 : Int32))]) rfl ?_
    refine k_iconst (pc := 42) h dX7_measure_42 kc_iconst_0 ?_
    refine k_istore (pc := 43) h dX7_measure_43 (nk hL (by decide)) (lv' := [(0, .ref 53), (2, .int p2), (3, .int (1 : Int32)), (4, .int (0 : Int32))]) rfl ?_
    obtain ⟨s12, hl, hf⟩ := ob_s hf
    refine k_drop (lv' := [(0, .ref 53), (2, .int p2), (3, .int (1 : Int32)), (4, .int (0 : Int32))]) [0, 1, 2, 3] rfl ?_
    refine lp_s (P := (fun q : Int32 × Int32 × sh_S => sh_K G shX 45 [(0, .ref 53), (2, .int p2), (3, .int q.1), (4, .int q.2.1)] [] q.2.2)) (Q := (fun q : sh_S => sh_K G shX 147 [] [] q)) (s := ((1 : Int32), (0 : Int32), s3)) ?_ hl ?_
    · clear hf hl
      intro q rr hf kc45
      obtain ⟨v9, v10, s11⟩ := q
      have hf : f_X7_measure_L45 p2 v9 v10 s11 = some rr := hf
      unfold f_X7_measure_L45 at hf
      refine k_iload_n (pc := 45) h dX7_measure_45 rfl 2 rfl ?_
      refine k_if_eq (pc := 46) (tgt := 147) h dX7_measure_46 rfl (fun hc => ?_) (fun hc => ?_)
      · have hf := it_p hc hf
        obtain rfl := so1 hf
        exact k_drop [] rfl kc45
      · have hf := it_n hc hf
        refine k_iload (pc := 49) h dX7_measure_49 3 rfl ?_
        refine k_sipush (pc := 51) h dX7_measure_51 kc_sipush_1000 ?_
        refine k_icmp_ge (pc := 54) (tgt := 147) h dX7_measure_54 rfl (fun hc => ?_) (fun hc => ?_)
        · have hf := it_p hc hf
          obtain rfl := so1 hf
          exact k_drop [] rfl kc45
        · have hf := it_n hc hf
          refine k_iconst (pc := 57) h dX7_measure_57 kc_iconst_0 ?_
          refine k_istore_n (pc := 58) h dX7_measure_58 rfl (nk hL (by decide)) (lv' := [(0, .ref 53), (2, .int p2), (3, .int (0 : Int32)), (4, .int v10)]) rfl ?_
          refine k_aload_n (pc := 59) h dX7_measure_59 rfl 0 rfl ?_
          refine k_getR (pc := 60) h fl_RX7_25 rfl rfl dX7_measure_60 ?_
          refine k_getI (pc := 63) h fl_RX7_89 rfl rfl dX7_measure_63 ?_
          refine k_iconst (pc := 66) h dX7_measure_66 kc_iconst_1 ?_
          refine k_isub (pc := 67) h dX7_measure_67 ?_
          obtain ⟨v13, ev13, hf⟩ := lb_s hf
          refine k_top ev13 ?_
          refine k_istore (pc := 68) h dX7_measure_68 (nk hL (by decide)) (lv' := [(0, .ref 53), (2, .int p2), (3, .int (0 : Int32)), (4, .int v10), (5, .int v13)]) rfl ?_
          obtain ⟨v17, s18, hl, hf⟩ := ob2_s hf
          refine k_drop (lv' := [(0, .ref 53), (2, .int p2), (3, .int (0 : Int32)), (4, .int v10), (5, .int v13)]) [0, 1, 2, 3, 4] rfl ?_
          refine lp_s (P := (fun q : Int32 × Int32 × sh_S => sh_K G shX 70 [(0, .ref 53), (2, .int p2), (3, .int q.1), (4, .int v10), (5, .int q.2.1)] [] q.2.2)) (Q := (fun q : Int32 × sh_S => sh_K G shX 141 [(0, .ref 53), (2, .int p2), (3, .int q.1), (4, .int v10)] [] q.2)) (s := ((0 : Int32), v13, s11)) ?_ hl ?_
          · clear hf hl
            intro q rr hf kc70
            obtain ⟨v14, v15, s16⟩ := q
            have hf : f_X7_measure_L70 p2 v14 v15 s16 = some rr := hf
            unfold f_X7_measure_L70 at hf
            refine k_iload (pc := 70) h dX7_measure_70 4 rfl ?_
            refine k_if_lt (pc := 72) (tgt := 141) h dX7_measure_72 rfl (fun hc => ?_) (fun hc => ?_)
            · have hf := it_p hc hf
              obtain rfl := so1 hf
              exact k_drop [0, 1, 2, 3] rfl kc70
            · have hf := it_n hc hf
              refine k_aload_n (pc := 75) h dX7_measure_75 rfl 0 rfl ?_
              refine k_iload (pc := 76) h dX7_measure_76 4 rfl ?_
              obtain ⟨v19, cv19, hf⟩ := ob_s hf
              refine k_callV0 (pc := 78) h cv_RX7_99 (c_X7_nearestBehind v15 s16 v19 cv19) rfl rfl rfl (st1 := [.int v19]) rfl ⟨rfl, rfl⟩ (rk hR (Nat.le_of_ble_eq_true rfl) (Nat.le_of_ble_eq_true rfl)) (Nat.le_of_ble_eq_true rfl) dX7_measure_78 ?_
              refine k_istore (pc := 81) h dX7_measure_81 (nk hL (by decide)) (lv' := [(0, .ref 53), (2, .int p2), (3, .int v14), (4, .int v10), (5, .int v15), (6, .int v19)]) rfl ?_
              refine k_iload_n (pc := 83) h dX7_measure_83 rfl 1 rfl ?_
              refine k_iload (pc := 84) h dX7_measure_84 4 rfl ?_
              obtain ⟨v20, cv20, hf⟩ := ob_s hf
              refine k_callNp (pc := 86) h cn_RX7_95 (c_X9_hasBit p2 v15 _ v20 cv20) rfl rfl (st1 := [.int v20]) rfl ⟨rfl, rfl⟩ (rk hR (Nat.le_of_ble_eq_true rfl) (Nat.le_of_ble_eq_true rfl)) (Nat.le_of_ble_eq_true rfl) dX7_measure_86 ?_
              obtain ⟨v21, s22, hj, hf⟩ := ob2_s hf
              have kj89 : sh_K G shX 135 [(0, .ref 53), (2, .int p2), (3, .int v21), (4, .int v10), (5, .int v15)] [] s22 := by
                obtain ⟨v28, ev28, hf⟩ := lb_s hf
                refine k_iinc (pc := 135) h dX7_measure_135 4 rfl ((congrArg (_ + ·) kc_iconst_m1).trans ev28.symm) (nk hL (by decide)) (lv' := [(0, .ref 53), (2, .int p2), (3, .int v21), (4, .int v10), (5, .int v28)]) rfl ?_
                refine k_goto (pc := 138) (tgt := 70) h dX7_measure_138 rfl ?_
                obtain rfl := so1 hf
                exact k_drop [0, 1, 2, 3, 4] rfl kc70
              clear hf
              have hf := hj
              clear hj
              refine k_if_eq (pc := 89) (tgt := 135) h dX7_measure_89 rfl (fun hc => ?_) (fun hc => ?_)
              · have hf := it_p hc hf
                obtain ⟨rfl, rfl⟩ := so2 hf
                exact k_drop [0, 1, 2, 3, 4] rfl kj89
              · have hf := it_n hc hf
                refine k_iload (pc := 92) h dX7_measure_92 5 rfl ?_
                refine k_iconst (pc := 94) h dX7_measure_94 kc_iconst_m1 ?_
                refine k_icmp_eq (pc := 95) (tgt := 135) h dX7_measure_95 rfl (fun hc => ?_) (fun hc => ?_)
                · have hf := it_p hc hf
                  obtain ⟨rfl, rfl⟩ := so2 hf
                  exact k_drop [0, 1, 2, 3, 4] rfl kj89
                · have hf := it_n hc hf
                  refine k_aload_n (pc := 98) h dX7_measure_98 rfl 0 rfl ?_
                  refine k_getR (pc := 99) h fl_RX7_9 rfl rfl dX7_measure_99 ?_
                  refine k_iload (pc := 102) h dX7_measure_102 5 rfl ?_
                  obtain ⟨g23, hf⟩ := gu_s hf
                  refine k_iald (pc := 104) (n := 24) h rfl g23 dX7_measure_104 ?_
                  refine k_iconst (pc := 105) h dX7_measure_105 kc_iconst_1 ?_
                  refine k_iadd (pc := 106) h dX7_measure_106 ?_
                  refine k_aload_n (pc := 107) h dX7_measure_107 rfl 0 rfl ?_
                  refine k_getR (pc := 108) h fl_RX7_9 rfl rfl dX7_measure_108 ?_
                  refine k_iload (pc := 111) h dX7_measure_111 4 rfl ?_
                  obtain ⟨g24, hf⟩ := gu_s hf
                  refine k_iald (pc := 113) (n := 24) h rfl g24 dX7_measure_113 ?_
                  refine k_icmp_ge (pc := 114) (tgt := 135) h dX7_measure_114 rfl (fun hc => ?_) (fun hc => ?_)
                  · have hf := it_p hc hf
                    obtain ⟨rfl, rfl⟩ := so2 hf
                    exact k_drop [0, 1, 2, 3, 4] rfl kj89
                  · have hf := it_n hc hf
                    refine k_aload_n (pc := 117) h dX7_measure_117 rfl 0 rfl ?_
                    refine k_getR (pc := 118) h fl_RX7_9 rfl rfl dX7_measure_118 ?_
                    refine k_iload (pc := 121) h dX7_measure_121 4 rfl ?_
                    refine k_aload_n (pc := 123) h dX7_measure_123 rfl 0 rfl ?_
                    refine k_getR (pc := 124) h fl_RX7_9 rfl rfl dX7_measure_124 ?_
                    refine k_iload (pc := 127) h dX7_measure_127 5 rfl ?_
                    obtain ⟨g25, hf⟩ := gu_s hf
                    refine k_iald (pc := 129) (n := 24) h rfl g25 dX7_measure_129 ?_
                    refine k_iconst (pc := 130) h dX7_measure_130 kc_iconst_1 ?_
                    refine k_iadd (pc := 131) h dX7_measure_131 ?_
                    obtain ⟨g26, hf⟩ := gu_s hf
                    obtain ⟨s27, es27, hf⟩ := lb_s hf
                    refine k_iast (pc := 132) (n := 24) h rfl g26 dX7_measure_132 ?_
                    refine k_heap es27 ?_
                    refine k_iconst (pc := 133) h dX7_measure_133 kc_iconst_1 ?_
                    refine k_istore_n (pc := 134) h dX7_measure_134 rfl (nk hL (by decide)) (lv' := [(0, .ref 53), (2, .int p2), (3, .int (1 : Int32)), (4, .int v10), (5, .int v15), (6, .int v19)]) rfl ?_
                    obtain ⟨rfl, rfl⟩ := so2 hf
                    exact k_drop [0, 1, 2, 3, 4] rfl kj89
          · obtain ⟨v29, ev29, hf⟩ := lb_s hf
            refine k_iinc (pc := 141) h dX7_measure_141 3 rfl ((congrArg (_ + ·) kc_iconst_1).trans ev29.symm) (nk hL (by decide)) (lv' := [(0, .ref 53), (2, .int p2), (3, .int v17), (4, .int v29)]) rfl ?_
            refine k_goto (pc := 144) (tgt := 45) h dX7_measure_144 rfl ?_
            obtain rfl := so1 hf
            exact k_drop [0, 1, 2, 3] rfl kc45
    · obtain rfl := so1 hf
      exact hret 147 _ dX7_measure_147 trivial
theorem dX7_follow_0 : decode cX7_follow 0 = .ok (.aload_n 0, 1) := by decide +kernel
theorem dX7_follow_1 : decode cX7_follow 1 = .ok (.iload_n 1, 1) := by decide +kernel
theorem dX7_follow_2 : decode cX7_follow 2 = .ok (.invokevirtual 99, 3) := by decide +kernel
theorem dX7_follow_5 : decode cX7_follow 5 = .ok (.istore_n 2, 1) := by decide +kernel
theorem dX7_follow_6 : decode cX7_follow 6 = .ok (.iconst 0, 1) := by decide +kernel
theorem dX7_follow_7 : decode cX7_follow 7 = .ok (.istore_n 3, 1) := by decide +kernel
theorem dX7_follow_8 : decode cX7_follow 8 = .ok (.iload_n 2, 1) := by decide +kernel
theorem dX7_follow_9 : decode cX7_follow 9 = .ok (.iconst (-1), 1) := by decide +kernel
theorem dX7_follow_10 : decode cX7_follow 10 = .ok (.if_icmp .eq 39, 3) := by decide +kernel
theorem dX7_follow_13 : decode cX7_follow 13 = .ok (.iload_n 3, 1) := by decide +kernel
theorem dX7_follow_14 : decode cX7_follow 14 = .ok (.bipush 24, 2) := by decide +kernel
theorem dX7_follow_16 : decode cX7_follow 16 = .ok (.if_icmp .ge 33, 3) := by decide +kernel
theorem dX7_follow_19 : decode cX7_follow 19 = .ok (.aload_n 0, 1) := by decide +kernel
theorem dX7_follow_20 : decode cX7_follow 20 = .ok (.iload_n 2, 1) := by decide +kernel
theorem dX7_follow_21 : decode cX7_follow 21 = .ok (.invokevirtual 51, 3) := by decide +kernel
theorem dX7_follow_24 : decode cX7_follow 24 = .ok (.aload_n 0, 1) := by decide +kernel
theorem dX7_follow_25 : decode cX7_follow 25 = .ok (.getfield 9, 3) := by decide +kernel
theorem dX7_follow_28 : decode cX7_follow 28 = .ok (.iload_n 2, 1) := by decide +kernel
theorem dX7_follow_29 : decode cX7_follow 29 = .ok (.iaload, 1) := by decide +kernel
theorem dX7_follow_30 : decode cX7_follow 30 = .ok (.ifCond .ne 7, 3) := by decide +kernel
theorem dX7_follow_33 : decode cX7_follow 33 = .ok (.iconst (-1), 1) := by decide +kernel
theorem dX7_follow_34 : decode cX7_follow 34 = .ok (.goto 8, 3) := by decide +kernel
theorem dX7_follow_37 : decode cX7_follow 37 = .ok (.aload_n 0, 1) := by decide +kernel
theorem dX7_follow_38 : decode cX7_follow 38 = .ok (.iload_n 2, 1) := by decide +kernel
theorem dX7_follow_39 : decode cX7_follow 39 = .ok (.invokevirtual 99, 3) := by decide +kernel
theorem dX7_follow_42 : decode cX7_follow 42 = .ok (.istore_n 2, 1) := by decide +kernel
theorem dX7_follow_43 : decode cX7_follow 43 = .ok (.iinc 3 1, 3) := by decide +kernel
theorem dX7_follow_46 : decode cX7_follow 46 = .ok (.goto (-38), 3) := by decide +kernel
theorem dX7_follow_49 : decode cX7_follow 49 = .ok (.return_, 1) := by decide +kernel
def f_X7_follow_L8 (v2 : Int32) (v3 : Int32) (s4 : sh_S) : Option ((Int32 × Int32 × sh_S) ⊕ (sh_S)) := (if v2 = (-1 : Int32) then some (.inr s4) else (if (24 : Int32) ≤ v3 then some (.inr s4) else ob (f_X7_lengthen v2 s4) (fun s6 => gu (inb v2 24) (ob (if (s6 54 (ix v2)) = 0 then some (-1 : Int32) else ob (f_X7_nearestBehind v2 s6) (fun v9 => some v9)) (fun v8 => lb (v3 + (1 : Int32)) (fun v10 => some (.inl (v8, v10, s6))))))))
def f_X7_follow (p1 : Int32) (s0 : sh_S) : Option (sh_S) := ob (f_X7_nearestBehind p1 s0) (fun v1 => ob (lp (fun q => f_X7_follow_L8 q.1 q.2.1 q.2.2) FU (v1, (0 : Int32), s0)) (fun s5 => some s5))
set_option maxRecDepth 100000 in
set_option maxHeartbeats 4000000 in
theorem c_X7_follow (p1 : Int32) (s0 : sh_S) (s9x : sh_S) (hf : f_X7_follow p1 s0 = some s9x) : Ctr yX7_follow cX7_follow 4 none ({ frames := 2, cells := 0, slots := 0, locals := 55 } : Room) shX [.ref 53, .int p1] s0 none s9x := by
  refine Ctr.mk (ri := .return_) (by decide) (Nat.le_of_ble_eq_true rfl) (Rt_v) ?_
  intro G h hL hR hret
  refine k_drop (lv' := [(0, .ref 53), (1, .int p1)]) [0, 1] rfl ?_
  unfold f_X7_follow at hf
  refine k_aload_n (pc := 0) h dX7_follow_0 rfl 0 rfl ?_
  refine k_iload_n (pc := 1) h dX7_follow_1 rfl 1 rfl ?_
  obtain ⟨v1, cv1, hf⟩ := ob_s hf
  refine k_callV0 (pc := 2) h cv_RX7_99 (c_X7_nearestBehind p1 s0 v1 cv1) rfl rfl rfl (st1 := [.int v1]) rfl ⟨rfl, rfl⟩ (rk hR (Nat.le_of_ble_eq_true rfl) (Nat.le_of_ble_eq_true rfl)) (Nat.le_of_ble_eq_true rfl) dX7_follow_2 ?_
  refine k_istore_n (pc := 5) h dX7_follow_5 rfl (nk hL (by decide)) (lv' := [(0, .ref 53), (1, .int p1), (2, .int v1)]) rfl ?_
  refine k_iconst (pc := 6) h dX7_follow_6 kc_iconst_0 ?_
  refine k_istore_n (pc := 7) h dX7_follow_7 rfl (nk hL (by decide)) (lv' := [(0, .ref 53), (1, .int p1), (2, .int v1), (3, .int (0 : Int32))]) rfl ?_
  obtain ⟨s5, hl, hf⟩ := ob_s hf
  refine k_drop (lv' := [(0, .ref 53), (2, .int v1), (3, .int (0 : Int32))]) [0, 2, 3] rfl ?_
  refine lp_s (P := (fun q : Int32 × Int32 × sh_S => sh_K G shX 8 [(0, .ref 53), (2, .int q.1), (3, .int q.2.1)] [] q.2.2)) (Q := (fun q : sh_S => sh_K G shX 49 [] [] q)) (s := (v1, (0 : Int32), s0)) ?_ hl ?_
  · clear hf hl
    intro q rr hf kc8
    obtain ⟨v2, v3, s4⟩ := q
    have hf : f_X7_follow_L8 v2 v3 s4 = some rr := hf
    unfold f_X7_follow_L8 at hf
    refine k_iload_n (pc := 8) h dX7_follow_8 rfl 1 rfl ?_
    refine k_iconst (pc := 9) h dX7_follow_9 kc_iconst_m1 ?_
    refine k_icmp_eq (pc := 10) (tgt := 49) h dX7_follow_10 rfl (fun hc => ?_) (fun hc => ?_)
    · have hf := it_p hc hf
      obtain rfl := so1 hf
      exact k_drop [] rfl kc8
    · have hf := it_n hc hf
      refine k_iload_n (pc := 13) h dX7_follow_13 rfl 2 rfl ?_
      refine k_bipush (pc := 14) h dX7_follow_14 kc_bipush_24 ?_
      refine k_icmp_ge (pc := 16) (tgt := 49) h dX7_follow_16 rfl (fun hc => ?_) (fun hc => ?_)
      · have hf := it_p hc hf
        obtain rfl := so1 hf
        exact k_drop [] rfl kc8
      · have hf := it_n hc hf
        refine k_aload_n (pc := 19) h dX7_follow_19 rfl 0 rfl ?_
        refine k_iload_n (pc := 20) h dX7_follow_20 rfl 1 rfl ?_
        obtain ⟨s6, cs6, hf⟩ := ob_s hf
        refine k_callV0 (pc := 21) h cv_RX7_51 (c_X7_lengthen v2 s4 s6 cs6) rfl rfl rfl (st1 := []) rfl ⟨rfl, rfl⟩ (rk hR (Nat.le_of_ble_eq_true rfl) (Nat.le_of_ble_eq_true rfl)) (Nat.le_of_ble_eq_true rfl) dX7_follow_21 ?_
        refine k_aload_n (pc := 24) h dX7_follow_24 rfl 0 rfl ?_
        refine k_getR (pc := 25) h fl_RX7_9 rfl rfl dX7_follow_25 ?_
        refine k_iload_n (pc := 28) h dX7_follow_28 rfl 1 rfl ?_
        obtain ⟨g7, hf⟩ := gu_s hf
        refine k_iald (pc := 29) (n := 24) h rfl g7 dX7_follow_29 ?_
        obtain ⟨v8, hj, hf⟩ := ob_s hf
        have kj30 : sh_K G shX 42 [(0, .ref 53), (3, .int v3)] [.int v8] s6 := by
          refine k_istore_n (pc := 42) h dX7_follow_42 rfl (nk hL (by decide)) (lv' := [(0, .ref 53), (2, .int v8), (3, .int v3)]) rfl ?_
          obtain ⟨v10, ev10, hf⟩ := lb_s hf
          refine k_iinc (pc := 43) h dX7_follow_43 2 rfl ((congrArg (_ + ·) kc_iconst_1).trans ev10.symm) (nk hL (by decide)) (lv' := [(0, .ref 53), (2, .int v8), (3, .int v10)]) rfl ?_
          refine k_goto (pc := 46) (tgt := 8) h dX7_follow_46 rfl ?_
          obtain rfl := so1 hf
          exact k_drop [0, 1, 2] rfl kc8
        clear hf
        have hf := hj
        clear hj
        refine k_if_ne (pc := 30) (tgt := 37) h dX7_follow_30 rfl (fun hc => ?_) (fun hc => ?_)
        · have hf := it_n hc hf
          refine k_aload_n (pc := 37) h dX7_follow_37 rfl 0 rfl ?_
          refine k_iload_n (pc := 38) h dX7_follow_38 rfl 1 rfl ?_
          obtain ⟨v9, cv9, hf⟩ := ob_s hf
          refine k_callV0 (pc := 39) h cv_RX7_99 (c_X7_nearestBehind v2 s6 v9 cv9) rfl rfl rfl (st1 := [.int v9]) rfl ⟨rfl, rfl⟩ (rk hR (Nat.le_of_ble_eq_true rfl) (Nat.le_of_ble_eq_true rfl)) (Nat.le_of_ble_eq_true rfl) dX7_follow_39 ?_
          obtain rfl := so1 hf
          exact k_drop [0, 2] rfl kj30
        · have hf := it_p hc hf
          refine k_iconst (pc := 33) h dX7_follow_33 kc_iconst_m1 ?_
          refine k_goto (pc := 34) (tgt := 42) h dX7_follow_34 rfl ?_
          obtain rfl := so1 hf
          exact k_drop [0, 2] rfl kj30
  · obtain rfl := so1 hf
    exact hret 49 _ dX7_follow_49 trivial
theorem dX7_usesOf_0 : decode cX7_usesOf 0 = .ok (.aload_n 0, 1) := by decide +kernel
theorem dX7_usesOf_1 : decode cX7_usesOf 1 = .ok (.getfield 29, 3) := by decide +kernel
theorem dX7_usesOf_4 : decode cX7_usesOf 4 = .ok (.getfield 59, 3) := by decide +kernel
theorem dX7_usesOf_7 : decode cX7_usesOf 7 = .ok (.aload_n 0, 1) := by decide +kernel
theorem dX7_usesOf_8 : decode cX7_usesOf 8 = .ok (.getfield 25, 3) := by decide +kernel
theorem dX7_usesOf_11 : decode cX7_usesOf 11 = .ok (.iload_n 1, 1) := by decide +kernel
theorem dX7_usesOf_12 : decode cX7_usesOf 12 = .ok (.invokevirtual 85, 3) := by decide +kernel
theorem dX7_usesOf_15 : decode cX7_usesOf 15 = .ok (.istore_n 2, 1) := by decide +kernel
theorem dX7_usesOf_16 : decode cX7_usesOf 16 = .ok (.iconst 0, 1) := by decide +kernel
theorem dX7_usesOf_17 : decode cX7_usesOf 17 = .ok (.istore_n 3, 1) := by decide +kernel
theorem dX7_usesOf_18 : decode cX7_usesOf 18 = .ok (.iconst 0, 1) := by decide +kernel
theorem dX7_usesOf_19 : decode cX7_usesOf 19 = .ok (.istore 4, 2) := by decide +kernel
theorem dX7_usesOf_21 : decode cX7_usesOf 21 = .ok (.iload 4, 2) := by decide +kernel
theorem dX7_usesOf_23 : decode cX7_usesOf 23 = .ok (.aload_n 0, 1) := by decide +kernel
theorem dX7_usesOf_24 : decode cX7_usesOf 24 = .ok (.getfield 25, 3) := by decide +kernel
theorem dX7_usesOf_27 : decode cX7_usesOf 27 = .ok (.getfield 89, 3) := by decide +kernel
theorem dX7_usesOf_30 : decode cX7_usesOf 30 = .ok (.if_icmp .ge 34, 3) := by decide +kernel
theorem dX7_usesOf_33 : decode cX7_usesOf 33 = .ok (.aload_n 0, 1) := by decide +kernel
theorem dX7_usesOf_34 : decode cX7_usesOf 34 = .ok (.getfield 29, 3) := by decide +kernel
theorem dX7_usesOf_37 : decode cX7_usesOf 37 = .ok (.getfield 59, 3) := by decide +kernel
theorem dX7_usesOf_40 : decode cX7_usesOf 40 = .ok (.getfield 92, 3) := by decide +kernel
theorem dX7_usesOf_43 : decode cX7_usesOf 43 = .ok (.iload 4, 2) := by decide +kernel
theorem dX7_usesOf_45 : decode cX7_usesOf 45 = .ok (.iaload, 1) := by decide +kernel
theorem dX7_usesOf_46 : decode cX7_usesOf 46 = .ok (.iload_n 2, 1) := by decide +kernel
theorem dX7_usesOf_47 : decode cX7_usesOf 47 = .ok (.iand, 1) := by decide +kernel
theorem dX7_usesOf_48 : decode cX7_usesOf 48 = .ok (.ifCond .eq 10, 3) := by decide +kernel
theorem dX7_usesOf_51 : decode cX7_usesOf 51 = .ok (.iload_n 3, 1) := by decide +kernel
theorem dX7_usesOf_52 : decode cX7_usesOf 52 = .ok (.iconst 1, 1) := by decide +kernel
theorem dX7_usesOf_53 : decode cX7_usesOf 53 = .ok (.iload 4, 2) := by decide +kernel
theorem dX7_usesOf_55 : decode cX7_usesOf 55 = .ok (.ishl, 1) := by decide +kernel
theorem dX7_usesOf_56 : decode cX7_usesOf 56 = .ok (.ior, 1) := by decide +kernel
theorem dX7_usesOf_57 : decode cX7_usesOf 57 = .ok (.istore_n 3, 1) := by decide +kernel
theorem dX7_usesOf_58 : decode cX7_usesOf 58 = .ok (.iinc 4 1, 3) := by decide +kernel
theorem dX7_usesOf_61 : decode cX7_usesOf 61 = .ok (.goto (-40), 3) := by decide +kernel
theorem dX7_usesOf_64 : decode cX7_usesOf 64 = .ok (.iload_n 3, 1) := by decide +kernel
theorem dX7_usesOf_65 : decode cX7_usesOf 65 = .ok (.ireturn, 1) := by decide +kernel
def f_X7_usesOf_L21 (s0 : sh_S) (v1 : Int32) (v2 : Int32) (v3 : Int32) : Option ((Int32 × Int32) ⊕ (Int32)) := (if (s0 0 9) ≤ v3 then some (.inr v2) else gu (inb v3 24) (ob (if ((s0 14 (ix v3)) &&& v1) = 0 then some v2 else lb ((v2 ||| ((1 : Int32) <<< (v3 &&& 31)))) (fun v7 => some v7)) (fun v6 => lb (v3 + (1 : Int32)) (fun v8 => some (.inl (v6, v8))))))
def f_X7_usesOf (p1 : Int32) (s0 : sh_S) : Option (Int32) := ob (f_X2_bearers p1 (rs em_CK s0)) (fun v1 => ob (lp (fun q => f_X7_usesOf_L21 s0 v1 q.1 q.2) FU ((0 : Int32), (0 : Int32))) (fun v4 => some v4))
set_option maxRecDepth 100000 in
set_option maxHeartbeats 4000000 in
theorem c_X7_usesOf (p1 : Int32) (s0 : sh_S) (r : Int32) (hf : f_X7_usesOf p1 s0 = some r) : Ctr yX7_usesOf cX7_usesOf 5 (some .int) ({ frames := 2, cells := 0, slots := 0, locals := 49 } : Room) shX [.ref 53, .int p1] s0 (some (.int r)) s0 := by
  refine Ctr.mk (ri := .ireturn) (by decide) (Nat.le_of_ble_eq_true rfl) (Rt_i r) ?_
  intro G h hL hR hret
  refine k_drop (lv' := [(0, .ref 53), (1, .int p1)]) [0, 1] rfl ?_
  unfold f_X7_usesOf at hf
  refine k_aload_n (pc := 0) h dX7_usesOf_0 rfl 0 rfl ?_
  refine k_getR (pc := 1) h fl_RX7_29 rfl rfl dX7_usesOf_1 ?_
  refine k_getR (pc := 4) h fl_RX7_59 rfl rfl dX7_usesOf_4 ?_
  refine k_aload_n (pc := 7) h dX7_usesOf_7 rfl 0 rfl ?_
  refine k_getR (pc := 8) h fl_RX7_25 rfl rfl dX7_usesOf_8 ?_
  refine k_iload_n (pc := 11) h dX7_usesOf_11 rfl 1 rfl ?_
  obtain ⟨v1, cv1, hf⟩ := ob_s hf
  refine k_callVe (pc := 12) (em := em_CK) h cv_RX7_85 (c_X2_bearers p1 (rs em_CK s0) v1 cv1) emb_CK_X rfl rfl rfl (st1 := [.int v1]) rfl ⟨rfl, rfl⟩ (rk hR (Nat.le_of_ble_eq_true rfl) (Nat.le_of_ble_eq_true rfl)) (Nat.le_of_ble_eq_true rfl) dX7_usesOf_12 (mg_rs em_CK s0) ?_
  refine k_istore_n (pc := 15) h dX7_usesOf_15 rfl (nk hL (by decide)) (lv' := [(0, .ref 53), (1, .int p1), (2, .int v1)]) rfl ?_
  refine k_iconst (pc := 16) h dX7_usesOf_16 kc_iconst_0 ?_
  refine k_istore_n (pc := 17) h dX7_usesOf_17 rfl (nk hL (by decide)) (lv' := [(0, .ref 53), (1, .int p1), (2, .int v1), (3, .int (0 : Int32))]) rfl ?_
  refine k_iconst (pc := 18) h dX7_usesOf_18 kc_iconst_0 ?_
  refine k_istore (pc := 19) h dX7_usesOf_19 (nk hL (by decide)) (lv' := [(0, .ref 53), (1, .int p1), (2, .int v1), (3, .int (0 : Int32)), (4, .int (0 : Int32))]) rfl ?_
  obtain ⟨v4, hl, hf⟩ := ob_s hf
  refine k_drop (lv' := [(0, .ref 53), (2, .int v1), (3, .int (0 : Int32)), (4, .int (0 : Int32))]) [0, 2, 3, 4] rfl ?_
  refine lp_s (P := (fun q : Int32 × Int32 => sh_K G shX 21 [(0, .ref 53), (2, .int v1), (3, .int q.1), (4, .int q.2)] [] s0)) (Q := (fun q : Int32 => sh_K G shX 64 [(3, .int q)] [] s0)) (s := ((0 : Int32), (0 : Int32))) ?_ hl ?_
  · clear hf hl
    intro q rr hf kc21
    obtain ⟨v2, v3⟩ := q
    have hf : f_X7_usesOf_L21 s0 v1 v2 v3 = some rr := hf
    unfold f_X7_usesOf_L21 at hf
    refine k_iload (pc := 21) h dX7_usesOf_21 3 rfl ?_
    refine k_aload_n (pc := 23) h dX7_usesOf_23 rfl 0 rfl ?_
    refine k_getR (pc := 24) h fl_RX7_25 rfl rfl dX7_usesOf_24 ?_
    refine k_getI (pc := 27) h fl_RX7_89 rfl rfl dX7_usesOf_27 ?_
    refine k_icmp_ge (pc := 30) (tgt := 64) h dX7_usesOf_30 rfl (fun hc => ?_) (fun hc => ?_)
    · have hf := it_p hc hf
      obtain rfl := so1 hf
      exact k_drop [2] rfl kc21
    · have hf := it_n hc hf
      refine k_aload_n (pc := 33) h dX7_usesOf_33 rfl 0 rfl ?_
      refine k_getR (pc := 34) h fl_RX7_29 rfl rfl dX7_usesOf_34 ?_
      refine k_getR (pc := 37) h fl_RX7_59 rfl rfl dX7_usesOf_37 ?_
      refine k_getR (pc := 40) h fl_RX7_92 rfl rfl dX7_usesOf_40 ?_
      refine k_iload (pc := 43) h dX7_usesOf_43 3 rfl ?_
      obtain ⟨g5, hf⟩ := gu_s hf
      refine k_iald (pc := 45) (n := 24) h rfl g5 dX7_usesOf_45 ?_
      refine k_iload_n (pc := 46) h dX7_usesOf_46 rfl 1 rfl ?_
      refine k_iand (pc := 47) h dX7_usesOf_47 ?_
      obtain ⟨v6, hj, hf⟩ := ob_s hf
      have kj48 : sh_K G shX 58 [(0, .ref 53), (2, .int v1), (3, .int v6), (4, .int v3)] [] s0 := by
        obtain ⟨v8, ev8, hf⟩ := lb_s hf
        refine k_iinc (pc := 58) h dX7_usesOf_58 3 rfl ((congrArg (_ + ·) kc_iconst_1).trans ev8.symm) (nk hL (by decide)) (lv' := [(0, .ref 53), (2, .int v1), (3, .int v6), (4, .int v8)]) rfl ?_
        refine k_goto (pc := 61) (tgt := 21) h dX7_usesOf_61 rfl ?_
        obtain rfl := so1 hf
        exact k_drop [0, 1, 2, 3] rfl kc21
      clear hf
      have hf := hj
      clear hj
      refine k_if_eq (pc := 48) (tgt := 58) h dX7_usesOf_48 rfl (fun hc => ?_) (fun hc => ?_)
      · have hf := it_p hc hf
        obtain rfl := so1 hf
        exact k_drop [0, 1, 2, 3] rfl kj48
      · have hf := it_n hc hf
        refine k_iload_n (pc := 51) h dX7_usesOf_51 rfl 2 rfl ?_
        refine k_iconst (pc := 52) h dX7_usesOf_52 kc_iconst_1 ?_
        refine k_iload (pc := 53) h dX7_usesOf_53 3 rfl ?_
        refine k_ishl (pc := 55) h dX7_usesOf_55 ?_
        refine k_ior (pc := 56) h dX7_usesOf_56 ?_
        obtain ⟨v7, ev7, hf⟩ := lb_s hf
        refine k_top ev7 ?_
        refine k_istore_n (pc := 57) h dX7_usesOf_57 rfl (nk hL (by decide)) (lv' := [(0, .ref 53), (2, .int v1), (3, .int v7), (4, .int v3)]) rfl ?_
        obtain rfl := so1 hf
        exact k_drop [0, 1, 2, 3] rfl kj48
  · refine k_iload_n (pc := 64) h dX7_usesOf_64 rfl 0 rfl ?_
    obtain rfl := so1 hf
    exact hret 65 _ dX7_usesOf_65 trivial
theorem dX7_show_0 : decode cX7_show 0 = .ok (.aload_n 0, 1) := by decide +kernel
theorem dX7_show_1 : decode cX7_show 1 = .ok (.getfield 15, 3) := by decide +kernel
theorem dX7_show_4 : decode cX7_show 4 = .ok (.iload_n 1, 1) := by decide +kernel
theorem dX7_show_5 : decode cX7_show 5 = .ok (.if_icmp .ne 4, 3) := by decide +kernel
theorem dX7_show_8 : decode cX7_show 8 = .ok (.return_, 1) := by decide +kernel
theorem dX7_show_9 : decode cX7_show 9 = .ok (.aload_n 0, 1) := by decide +kernel
theorem dX7_show_10 : decode cX7_show 10 = .ok (.iload_n 1, 1) := by decide +kernel
theorem dX7_show_11 : decode cX7_show 11 = .ok (.putfield 15, 3) := by decide +kernel
theorem dX7_show_14 : decode cX7_show 14 = .ok (.aload_n 0, 1) := by decide +kernel
theorem dX7_show_15 : decode cX7_show 15 = .ok (.iconst 0, 1) := by decide +kernel
theorem dX7_show_16 : decode cX7_show 16 = .ok (.putfield 22, 3) := by decide +kernel
theorem dX7_show_19 : decode cX7_show 19 = .ok (.aload_n 0, 1) := by decide +kernel
theorem dX7_show_20 : decode cX7_show 20 = .ok (.getfield 29, 3) := by decide +kernel
theorem dX7_show_23 : decode cX7_show 23 = .ok (.getfield 33, 3) := by decide +kernel
theorem dX7_show_26 : decode cX7_show 26 = .ok (.iload_n 1, 1) := by decide +kernel
theorem dX7_show_27 : decode cX7_show 27 = .ok (.iconst 0, 1) := by decide +kernel
theorem dX7_show_28 : decode cX7_show 28 = .ok (.invokevirtual 39, 3) := by decide +kernel
theorem dX7_show_31 : decode cX7_show 31 = .ok (.istore_n 2, 1) := by decide +kernel
theorem dX7_show_32 : decode cX7_show 32 = .ok (.aload_n 0, 1) := by decide +kernel
theorem dX7_show_33 : decode cX7_show 33 = .ok (.getfield 29, 3) := by decide +kernel
theorem dX7_show_36 : decode cX7_show 36 = .ok (.getfield 33, 3) := by decide +kernel
theorem dX7_show_39 : decode cX7_show 39 = .ok (.iload_n 1, 1) := by decide +kernel
theorem dX7_show_40 : decode cX7_show 40 = .ok (.iconst 2, 1) := by decide +kernel
theorem dX7_show_41 : decode cX7_show 41 = .ok (.invokevirtual 39, 3) := by decide +kernel
theorem dX7_show_44 : decode cX7_show 44 = .ok (.istore_n 3, 1) := by decide +kernel
theorem dX7_show_45 : decode cX7_show 45 = .ok (.aload_n 0, 1) := by decide +kernel
theorem dX7_show_46 : decode cX7_show 46 = .ok (.getfield 25, 3) := by decide +kernel
theorem dX7_show_49 : decode cX7_show 49 = .ok (.iload_n 2, 1) := by decide +kernel
theorem dX7_show_50 : decode cX7_show 50 = .ok (.invokevirtual 45, 3) := by decide +kernel
theorem dX7_show_53 : decode cX7_show 53 = .ok (.ifCond .eq 14, 3) := by decide +kernel
theorem dX7_show_56 : decode cX7_show 56 = .ok (.aload_n 0, 1) := by decide +kernel
theorem dX7_show_57 : decode cX7_show 57 = .ok (.getfield 25, 3) := by decide +kernel
theorem dX7_show_60 : decode cX7_show 60 = .ok (.iload_n 3, 1) := by decide +kernel
theorem dX7_show_61 : decode cX7_show 61 = .ok (.invokevirtual 45, 3) := by decide +kernel
theorem dX7_show_64 : decode cX7_show 64 = .ok (.ifCond .ne 4, 3) := by decide +kernel
theorem dX7_show_67 : decode cX7_show 67 = .ok (.return_, 1) := by decide +kernel
theorem dX7_show_68 : decode cX7_show 68 = .ok (.aload_n 0, 1) := by decide +kernel
theorem dX7_show_69 : decode cX7_show 69 = .ok (.iload_n 3, 1) := by decide +kernel
theorem dX7_show_70 : decode cX7_show 70 = .ok (.invokevirtual 51, 3) := by decide +kernel
theorem dX7_show_73 : decode cX7_show 73 = .ok (.aload_n 0, 1) := by decide +kernel
theorem dX7_show_74 : decode cX7_show 74 = .ok (.iconst 1, 1) := by decide +kernel
theorem dX7_show_75 : decode cX7_show 75 = .ok (.iload_n 2, 1) := by decide +kernel
theorem dX7_show_76 : decode cX7_show 76 = .ok (.ishl, 1) := by decide +kernel
theorem dX7_show_77 : decode cX7_show 77 = .ok (.aload_n 0, 1) := by decide +kernel
theorem dX7_show_78 : decode cX7_show 78 = .ok (.getfield 29, 3) := by decide +kernel
theorem dX7_show_81 : decode cX7_show 81 = .ok (.getfield 55, 3) := by decide +kernel
theorem dX7_show_84 : decode cX7_show 84 = .ok (.aload_n 0, 1) := by decide +kernel
theorem dX7_show_85 : decode cX7_show 85 = .ok (.getfield 25, 3) := by decide +kernel
theorem dX7_show_88 : decode cX7_show 88 = .ok (.aload_n 0, 1) := by decide +kernel
theorem dX7_show_89 : decode cX7_show 89 = .ok (.getfield 29, 3) := by decide +kernel
theorem dX7_show_92 : decode cX7_show 92 = .ok (.getfield 59, 3) := by decide +kernel
theorem dX7_show_95 : decode cX7_show 95 = .ok (.iload_n 3, 1) := by decide +kernel
theorem dX7_show_96 : decode cX7_show 96 = .ok (.invokevirtual 63, 3) := by decide +kernel
theorem dX7_show_99 : decode cX7_show 99 = .ok (.invokevirtual 69, 3) := by decide +kernel
theorem dX7_show_102 : decode cX7_show 102 = .ok (.aload_n 0, 1) := by decide +kernel
theorem dX7_show_103 : decode cX7_show 103 = .ok (.iload_n 3, 1) := by decide +kernel
theorem dX7_show_104 : decode cX7_show 104 = .ok (.invokevirtual 73, 3) := by decide +kernel
theorem dX7_show_107 : decode cX7_show 107 = .ok (.aload_n 0, 1) := by decide +kernel
theorem dX7_show_108 : decode cX7_show 108 = .ok (.aload_n 0, 1) := by decide +kernel
theorem dX7_show_109 : decode cX7_show 109 = .ok (.iload_n 3, 1) := by decide +kernel
theorem dX7_show_110 : decode cX7_show 110 = .ok (.invokevirtual 76, 3) := by decide +kernel
theorem dX7_show_113 : decode cX7_show 113 = .ok (.aload_n 0, 1) := by decide +kernel
theorem dX7_show_114 : decode cX7_show 114 = .ok (.getfield 29, 3) := by decide +kernel
theorem dX7_show_117 : decode cX7_show 117 = .ok (.getfield 59, 3) := by decide +kernel
theorem dX7_show_120 : decode cX7_show 120 = .ok (.getfield 80, 3) := by decide +kernel
theorem dX7_show_123 : decode cX7_show 123 = .ok (.invokevirtual 69, 3) := by decide +kernel
theorem dX7_show_126 : decode cX7_show 126 = .ok (.aload_n 0, 1) := by decide +kernel
theorem dX7_show_127 : decode cX7_show 127 = .ok (.iload_n 2, 1) := by decide +kernel
theorem dX7_show_128 : decode cX7_show 128 = .ok (.invokevirtual 73, 3) := by decide +kernel
theorem dX7_show_131 : decode cX7_show 131 = .ok (.return_, 1) := by decide +kernel
def f_X7_show (p1 : Int32) (s0 : sh_S) : Option (sh_S) := (if (s0 53 3) = p1 then some s0 else lb (ur s0 53 (upd (s0 53) 3 p1)) (fun s1 => lb (ur s1 53 (upd (s1 53) 5 (0 : Int32))) (fun s2 => ob (f_X1_tell p1 (0 : Int32) (rs em_CK s2)) (fun v3 => ob (f_X1_tell p1 (2 : Int32) (rs em_CK s2)) (fun v4 => ob (f_X4_has v3 (rs em_LI s2)) (fun v5 => (if v5 = 0 then some s2 else ob (f_X4_has v4 (rs em_LI s2)) (fun v6 => (if v6 = 0 then some s2 else ob (f_X7_lengthen v4 s2) (fun s7 => ob (f_X3_passable v4 (rs em_CK s7)) (fun v8 => ob (f_X7_measure ((1 : Int32) <<< (v3 &&& 31)) v8 s7) (fun s9 => ob (f_X7_follow v4 s9) (fun s10 => ob (f_X7_usesOf v4 s10) (fun v11 => ob (f_X7_measure v11 (s10 11 8) s10) (fun s12 => ob (f_X7_follow v3 s12) (fun s13 => some s13))))))))))))))))
set_option maxRecDepth 100000 in
set_option maxHeartbeats 4000000 in
theorem c_X7_show (p1 : Int32) (s0 : sh_S) (s9x : sh_S) (hf : f_X7_show p1 s0 = some s9x) : Ctr yX7_show cX7_show 4 none ({ frames := 3, cells := 0, slots := 0, locals := 81 } : Room) shX [.ref 53, .int p1] s0 none s9x := by
  refine Ctr.mk (ri := .return_) (by decide) (Nat.le_of_ble_eq_true rfl) (Rt_v) ?_
  intro G h hL hR hret
  refine k_drop (lv' := [(0, .ref 53), (1, .int p1)]) [0, 1] rfl ?_
  unfold f_X7_show at hf
  refine k_aload_n (pc := 0) h dX7_show_0 rfl 0 rfl ?_
  refine k_getI (pc := 1) h fl_RX7_15 rfl rfl dX7_show_1 ?_
  refine k_iload_n (pc := 4) h dX7_show_4 rfl 1 rfl ?_
  refine k_icmp_ne (pc := 5) (tgt := 9) h dX7_show_5 rfl (fun hc => ?_) (fun hc => ?_)
  · have hf := it_n hc hf
    refine k_aload_n (pc := 9) h dX7_show_9 rfl 0 rfl ?_
    refine k_iload_n (pc := 10) h dX7_show_10 rfl 1 rfl ?_
    obtain ⟨s1, es1, hf⟩ := lb_s hf
    refine k_put (pc := 11) h fl_RX7_15 fp_X7_3 rfl rfl rfl rfl dX7_show_11 ?_
    refine k_heap es1 ?_
    refine k_aload_n (pc := 14) h dX7_show_14 rfl 0 rfl ?_
    refine k_iconst (pc := 15) h dX7_show_15 kc_iconst_0 ?_
    obtain ⟨s2, es2, hf⟩ := lb_s hf
    refine k_put (pc := 16) h fl_RX7_22 fp_X7_5 rfl rfl rfl rfl dX7_show_16 ?_
    refine k_heap es2 ?_
    refine k_aload_n (pc := 19) h dX7_show_19 rfl 0 rfl ?_
    refine k_getR (pc := 20) h fl_RX7_29 rfl rfl dX7_show_20 ?_
    refine k_getR (pc := 23) h fl_RX7_33 rfl rfl dX7_show_23 ?_
    refine k_iload_n (pc := 26) h dX7_show_26 rfl 1 rfl ?_
    refine k_iconst (pc := 27) h dX7_show_27 kc_iconst_0 ?_
    obtain ⟨v3, cv3, hf⟩ := ob_s hf
    refine k_callVe (pc := 28) (em := em_CK) h cv_RX7_39 (c_X1_tell p1 (0 : Int32) (rs em_CK s2) v3 cv3) emb_CK_X rfl rfl rfl (st1 := [.int v3]) rfl ⟨rfl, rfl⟩ (rk hR (Nat.le_of_ble_eq_true rfl) (Nat.le_of_ble_eq_true rfl)) (Nat.le_of_ble_eq_true rfl) dX7_show_28 (mg_rs em_CK s2) ?_
    refine k_istore_n (pc := 31) h dX7_show_31 rfl (nk hL (by decide)) (lv' := [(0, .ref 53), (1, .int p1), (2, .int v3)]) rfl ?_
    refine k_aload_n (pc := 32) h dX7_show_32 rfl 0 rfl ?_
    refine k_getR (pc := 33) h fl_RX7_29 rfl rfl dX7_show_33 ?_
    refine k_getR (pc := 36) h fl_RX7_33 rfl rfl dX7_show_36 ?_
    refine k_iload_n (pc := 39) h dX7_show_39 rfl 1 rfl ?_
    refine k_iconst (pc := 40) h dX7_show_40 kc_iconst_2 ?_
    obtain ⟨v4, cv4, hf⟩ := ob_s hf
    refine k_callVe (pc := 41) (em := em_CK) h cv_RX7_39 (c_X1_tell p1 (2 : Int32) (rs em_CK s2) v4 cv4) emb_CK_X rfl rfl rfl (st1 := [.int v4]) rfl ⟨rfl, rfl⟩ (rk hR (Nat.le_of_ble_eq_true rfl) (Nat.le_of_ble_eq_true rfl)) (Nat.le_of_ble_eq_true rfl) dX7_show_41 (mg_rs em_CK s2) ?_
    refine k_istore_n (pc := 44) h dX7_show_44 rfl (nk hL (by decide)) (lv' := [(0, .ref 53), (1, .int p1), (2, .int v3), (3, .int v4)]) rfl ?_
    refine k_aload_n (pc := 45) h dX7_show_45 rfl 0 rfl ?_
    refine k_getR (pc := 46) h fl_RX7_25 rfl rfl dX7_show_46 ?_
    refine k_iload_n (pc := 49) h dX7_show_49 rfl 2 rfl ?_
    obtain ⟨v5, cv5, hf⟩ := ob_s hf
    refine k_callVe (pc := 50) (em := em_LI) h cv_RX7_45 (c_X4_has v3 (rs em_LI s2) v5 cv5) emb_LI_X rfl rfl rfl (st1 := [.int v5]) rfl ⟨rfl, rfl⟩ (rk hR (Nat.le_of_ble_eq_true rfl) (Nat.le_of_ble_eq_true rfl)) (Nat.le_of_ble_eq_true rfl) dX7_show_50 (mg_rs em_LI s2) ?_
    refine k_if_eq (pc := 53) (tgt := 67) h dX7_show_53 rfl (fun hc => ?_) (fun hc => ?_)
    · have hf := it_p hc hf
      obtain rfl := so1 hf
      exact hret 67 _ dX7_show_67 trivial
    · have hf := it_n hc hf
      refine k_aload_n (pc := 56) h dX7_show_56 rfl 0 rfl ?_
      refine k_getR (pc := 57) h fl_RX7_25 rfl rfl dX7_show_57 ?_
      refine k_iload_n (pc := 60) h dX7_show_60 rfl 3 rfl ?_
      obtain ⟨v6, cv6, hf⟩ := ob_s hf
      refine k_callVe (pc := 61) (em := em_LI) h cv_RX7_45 (c_X4_has v4 (rs em_LI s2) v6 cv6) emb_LI_X rfl rfl rfl (st1 := [.int v6]) rfl ⟨rfl, rfl⟩ (rk hR (Nat.le_of_ble_eq_true rfl) (Nat.le_of_ble_eq_true rfl)) (Nat.le_of_ble_eq_true rfl) dX7_show_61 (mg_rs em_LI s2) ?_
      refine k_if_ne (pc := 64) (tgt := 68) h dX7_show_64 rfl (fun hc => ?_) (fun hc => ?_)
      · have hf := it_n hc hf
        refine k_aload_n (pc := 68) h dX7_show_68 rfl 0 rfl ?_
        refine k_iload_n (pc := 69) h dX7_show_69 rfl 3 rfl ?_
        obtain ⟨s7, cs7, hf⟩ := ob_s hf
        refine k_callV0 (pc := 70) h cv_RX7_51 (c_X7_lengthen v4 s2 s7 cs7) rfl rfl rfl (st1 := []) rfl ⟨rfl, rfl⟩ (rk hR (Nat.le_of_ble_eq_true rfl) (Nat.le_of_ble_eq_true rfl)) (Nat.le_of_ble_eq_true rfl) dX7_show_70 ?_
        refine k_aload_n (pc := 73) h dX7_show_73 rfl 0 rfl ?_
        refine k_iconst (pc := 74) h dX7_show_74 kc_iconst_1 ?_
        refine k_iload_n (pc := 75) h dX7_show_75 rfl 2 rfl ?_
        refine k_ishl (pc := 76) h dX7_show_76 ?_
        refine k_aload_n (pc := 77) h dX7_show_77 rfl 0 rfl ?_
        refine k_getR (pc := 78) h fl_RX7_29 rfl rfl dX7_show_78 ?_
        refine k_getR (pc := 81) h fl_RX7_55 rfl rfl dX7_show_81 ?_
        refine k_aload_n (pc := 84) h dX7_show_84 rfl 0 rfl ?_
        refine k_getR (pc := 85) h fl_RX7_25 rfl rfl dX7_show_85 ?_
        refine k_aload_n (pc := 88) h dX7_show_88 rfl 0 rfl ?_
        refine k_getR (pc := 89) h fl_RX7_29 rfl rfl dX7_show_89 ?_
        refine k_getR (pc := 92) h fl_RX7_59 rfl rfl dX7_show_92 ?_
        refine k_iload_n (pc := 95) h dX7_show_95 rfl 3 rfl ?_
        obtain ⟨v8, cv8, hf⟩ := ob_s hf
        refine k_callVe (pc := 96) (em := em_CK) h cv_RX7_63 (c_X3_passable v4 (rs em_CK s7) v8 cv8) emb_CK_X rfl rfl rfl (st1 := [.int v8, .int ((1 : Int32) <<< (v3 &&& 31)), .ref 53]) rfl ⟨rfl, rfl⟩ (rk hR (Nat.le_of_ble_eq_true rfl) (Nat.le_of_ble_eq_true rfl)) (Nat.le_of_ble_eq_true rfl) dX7_show_96 (mg_rs em_CK s7) ?_
        obtain ⟨s9, cs9, hf⟩ := ob_s hf
        refine k_callV0 (pc := 99) h cv_RX7_69 (c_X7_measure ((1 : Int32) <<< (v3 &&& 31)) v8 s7 s9 cs9) rfl rfl rfl (st1 := []) rfl ⟨rfl, rfl⟩ (rk hR (Nat.le_of_ble_eq_true rfl) (Nat.le_of_ble_eq_true rfl)) (Nat.le_of_ble_eq_true rfl) dX7_show_99 ?_
        refine k_aload_n (pc := 102) h dX7_show_102 rfl 0 rfl ?_
        refine k_iload_n (pc := 103) h dX7_show_103 rfl 3 rfl ?_
        obtain ⟨s10, cs10, hf⟩ := ob_s hf
        refine k_callV0 (pc := 104) h cv_RX7_73 (c_X7_follow v4 s9 s10 cs10) rfl rfl rfl (st1 := []) rfl ⟨rfl, rfl⟩ (rk hR (Nat.le_of_ble_eq_true rfl) (Nat.le_of_ble_eq_true rfl)) (Nat.le_of_ble_eq_true rfl) dX7_show_104 ?_
        refine k_aload_n (pc := 107) h dX7_show_107 rfl 0 rfl ?_
        refine k_aload_n (pc := 108) h dX7_show_108 rfl 0 rfl ?_
        refine k_iload_n (pc := 109) h dX7_show_109 rfl 3 rfl ?_
        obtain ⟨v11, cv11, hf⟩ := ob_s hf
        refine k_callV0 (pc := 110) h cv_RX7_76 (c_X7_usesOf v4 s10 v11 cv11) rfl rfl rfl (st1 := [.int v11, .ref 53]) rfl ⟨rfl, rfl⟩ (rk hR (Nat.le_of_ble_eq_true rfl) (Nat.le_of_ble_eq_true rfl)) (Nat.le_of_ble_eq_true rfl) dX7_show_110 ?_
        refine k_aload_n (pc := 113) h dX7_show_113 rfl 0 rfl ?_
        refine k_getR (pc := 114) h fl_RX7_29 rfl rfl dX7_show_114 ?_
        refine k_getR (pc := 117) h fl_RX7_59 rfl rfl dX7_show_117 ?_
        refine k_getI (pc := 120) h fl_RX7_80 rfl rfl dX7_show_120 ?_
        obtain ⟨s12, cs12, hf⟩ := ob_s hf
        refine k_callV0 (pc := 123) h cv_RX7_69 (c_X7_measure v11 (s10 11 8) s10 s12 cs12) rfl rfl rfl (st1 := []) rfl ⟨rfl, rfl⟩ (rk hR (Nat.le_of_ble_eq_true rfl) (Nat.le_of_ble_eq_true rfl)) (Nat.le_of_ble_eq_true rfl) dX7_show_123 ?_
        refine k_aload_n (pc := 126) h dX7_show_126 rfl 0 rfl ?_
        refine k_iload_n (pc := 127) h dX7_show_127 rfl 2 rfl ?_
        obtain ⟨s13, cs13, hf⟩ := ob_s hf
        refine k_callV0 (pc := 128) h cv_RX7_73 (c_X7_follow v3 s12 s13 cs13) rfl rfl rfl (st1 := []) rfl ⟨rfl, rfl⟩ (rk hR (Nat.le_of_ble_eq_true rfl) (Nat.le_of_ble_eq_true rfl)) (Nat.le_of_ble_eq_true rfl) dX7_show_128 ?_
        obtain rfl := so1 hf
        exact hret 131 _ dX7_show_131 trivial
      · have hf := it_p hc hf
        obtain rfl := so1 hf
        exact hret 67 _ dX7_show_67 trivial
  · have hf := it_p hc hf
    obtain rfl := so1 hf
    exact hret 8 _ dX7_show_8 trivial
theorem dX8_forget_0 : decode cX8_forget 0 = .ok (.aload_n 0, 1) := by decide +kernel
theorem dX8_forget_1 : decode cX8_forget 1 = .ok (.iconst 0, 1) := by decide +kernel
theorem dX8_forget_2 : decode cX8_forget 2 = .ok (.putfield 41, 3) := by decide +kernel
theorem dX8_forget_5 : decode cX8_forget 5 = .ok (.return_, 1) := by decide +kernel
def f_X8_forget  (s0 : sh_S) : Option (sh_S) := lb (ur s0 56 (upd (s0 56) 10 (0 : Int32))) (fun s1 => some s1)
set_option maxRecDepth 100000 in
set_option maxHeartbeats 4000000 in
theorem c_X8_forget  (s0 : sh_S) (s9x : sh_S) (hf : f_X8_forget  s0 = some s9x) : Ctr yX8_forget cX8_forget 1 none ({ frames := 0, cells := 0, slots := 0, locals := 0 } : Room) shX [.ref 56] s0 none s9x := by
  refine Ctr.mk (ri := .return_) (by decide) (Nat.le_of_ble_eq_true rfl) (Rt_v) ?_
  intro G h hL hR hret
  refine k_drop (lv' := [(0, .ref 56)]) [0] rfl ?_
  unfold f_X8_forget at hf
  refine k_aload_n (pc := 0) h dX8_forget_0 rfl 0 rfl ?_
  refine k_iconst (pc := 1) h dX8_forget_1 kc_iconst_0 ?_
  obtain ⟨s1, es1, hf⟩ := lb_s hf
  refine k_put (pc := 2) h fl_RX8_41 fp_X8_10 rfl rfl rfl rfl dX8_forget_2 ?_
  refine k_heap es1 ?_
  obtain rfl := so1 hf
  exact hret 5 _ dX8_forget_5 trivial
theorem dX8_begin_0 : decode cX8_begin 0 = .ok (.aload_n 0, 1) := by decide +kernel
theorem dX8_begin_1 : decode cX8_begin 1 = .ok (.iconst 0, 1) := by decide +kernel
theorem dX8_begin_2 : decode cX8_begin 2 = .ok (.putfield 31, 3) := by decide +kernel
theorem dX8_begin_5 : decode cX8_begin 5 = .ok (.aload_n 0, 1) := by decide +kernel
theorem dX8_begin_6 : decode cX8_begin 6 = .ok (.iconst 0, 1) := by decide +kernel
theorem dX8_begin_7 : decode cX8_begin 7 = .ok (.putfield 35, 3) := by decide +kernel
theorem dX8_begin_10 : decode cX8_begin 10 = .ok (.aload_n 0, 1) := by decide +kernel
theorem dX8_begin_11 : decode cX8_begin 11 = .ok (.iconst (-1), 1) := by decide +kernel
theorem dX8_begin_12 : decode cX8_begin 12 = .ok (.putfield 51, 3) := by decide +kernel
theorem dX8_begin_15 : decode cX8_begin 15 = .ok (.aload_n 0, 1) := by decide +kernel
theorem dX8_begin_16 : decode cX8_begin 16 = .ok (.iconst (-1), 1) := by decide +kernel
theorem dX8_begin_17 : decode cX8_begin 17 = .ok (.putfield 54, 3) := by decide +kernel
theorem dX8_begin_20 : decode cX8_begin 20 = .ok (.aload_n 0, 1) := by decide +kernel
theorem dX8_begin_21 : decode cX8_begin 21 = .ok (.iconst 0, 1) := by decide +kernel
theorem dX8_begin_22 : decode cX8_begin 22 = .ok (.putfield 57, 3) := by decide +kernel
theorem dX8_begin_25 : decode cX8_begin 25 = .ok (.iconst 0, 1) := by decide +kernel
theorem dX8_begin_26 : decode cX8_begin 26 = .ok (.istore_n 1, 1) := by decide +kernel
theorem dX8_begin_27 : decode cX8_begin 27 = .ok (.iload_n 1, 1) := by decide +kernel
theorem dX8_begin_28 : decode cX8_begin 28 = .ok (.bipush 8, 2) := by decide +kernel
theorem dX8_begin_30 : decode cX8_begin 30 = .ok (.if_icmp .ge 16, 3) := by decide +kernel
theorem dX8_begin_33 : decode cX8_begin 33 = .ok (.aload_n 0, 1) := by decide +kernel
theorem dX8_begin_34 : decode cX8_begin 34 = .ok (.getfield 38, 3) := by decide +kernel
theorem dX8_begin_37 : decode cX8_begin 37 = .ok (.iload_n 1, 1) := by decide +kernel
theorem dX8_begin_38 : decode cX8_begin 38 = .ok (.iconst (-1), 1) := by decide +kernel
theorem dX8_begin_39 : decode cX8_begin 39 = .ok (.iastore, 1) := by decide +kernel
theorem dX8_begin_40 : decode cX8_begin 40 = .ok (.iinc 1 1, 3) := by decide +kernel
theorem dX8_begin_43 : decode cX8_begin 43 = .ok (.goto (-16), 3) := by decide +kernel
theorem dX8_begin_46 : decode cX8_begin 46 = .ok (.return_, 1) := by decide +kernel
def f_X8_begin_L27 (v6 : Int32) (s7 : sh_S) : Option ((Int32 × sh_S) ⊕ (sh_S)) := (if (8 : Int32) ≤ v6 then some (.inr s7) else gu (inb v6 8) (lb (ur s7 63 (upd (s7 63) (ix v6) (-1 : Int32))) (fun s10 => lb (v6 + (1 : Int32)) (fun v11 => some (.inl (v11, s10))))))
def f_X8_begin  (s0 : sh_S) : Option (sh_S) := lb (ur s0 56 (upd (s0 56) 7 (0 : Int32))) (fun s1 => lb (ur s1 56 (upd (s1 56) 8 (0 : Int32))) (fun s2 => lb (ur s2 56 (upd (s2 56) 13 (-1 : Int32))) (fun s3 => lb (ur s3 56 (upd (s3 56) 14 (-1 : Int32))) (fun s4 => lb (ur s4 56 (upd (s4 56) 15 (0 : Int32))) (fun s5 => ob (lp (fun q => f_X8_begin_L27 q.1 q.2) FU ((0 : Int32), s5)) (fun s8 => some s8))))))
set_option maxRecDepth 100000 in
set_option maxHeartbeats 4000000 in
theorem c_X8_begin  (s0 : sh_S) (s9x : sh_S) (hf : f_X8_begin  s0 = some s9x) : Ctr yX8_begin cX8_begin 2 none ({ frames := 0, cells := 0, slots := 0, locals := 0 } : Room) shX [.ref 56] s0 none s9x := by
  refine Ctr.mk (ri := .return_) (by decide) (Nat.le_of_ble_eq_true rfl) (Rt_v) ?_
  intro G h hL hR hret
  refine k_drop (lv' := [(0, .ref 56)]) [0] rfl ?_
  unfold f_X8_begin at hf
  refine k_aload_n (pc := 0) h dX8_begin_0 rfl 0 rfl ?_
  refine k_iconst (pc := 1) h dX8_begin_1 kc_iconst_0 ?_
  obtain ⟨s1, es1, hf⟩ := lb_s hf
  refine k_put (pc := 2) h fl_RX8_31 fp_X8_7 rfl rfl rfl rfl dX8_begin_2 ?_
  refine k_heap es1 ?_
  refine k_aload_n (pc := 5) h dX8_begin_5 rfl 0 rfl ?_
  refine k_iconst (pc := 6) h dX8_begin_6 kc_iconst_0 ?_
  obtain ⟨s2, es2, hf⟩ := lb_s hf
  refine k_put (pc := 7) h fl_RX8_35 fp_X8_8 rfl rfl rfl rfl dX8_begin_7 ?_
  refine k_heap es2 ?_
  refine k_aload_n (pc := 10) h dX8_begin_10 rfl 0 rfl ?_
  refine k_iconst (pc := 11) h dX8_begin_11 kc_iconst_m1 ?_
  obtain ⟨s3, es3, hf⟩ := lb_s hf
  refine k_put (pc := 12) h fl_RX8_51 fp_X8_13 rfl rfl rfl rfl dX8_begin_12 ?_
  refine k_heap es3 ?_
  refine k_aload_n (pc := 15) h dX8_begin_15 rfl 0 rfl ?_
  refine k_iconst (pc := 16) h dX8_begin_16 kc_iconst_m1 ?_
  obtain ⟨s4, es4, hf⟩ := lb_s hf
  refine k_put (pc := 17) h fl_RX8_54 fp_X8_14 rfl rfl rfl rfl dX8_begin_17 ?_
  refine k_heap es4 ?_
  refine k_aload_n (pc := 20) h dX8_begin_20 rfl 0 rfl ?_
  refine k_iconst (pc := 21) h dX8_begin_21 kc_iconst_0 ?_
  obtain ⟨s5, es5, hf⟩ := lb_s hf
  refine k_put (pc := 22) h fl_RX8_57 fp_X8_15 rfl rfl rfl rfl dX8_begin_22 ?_
  refine k_heap es5 ?_
  refine k_iconst (pc := 25) h dX8_begin_25 kc_iconst_0 ?_
  refine k_istore_n (pc := 26) h dX8_begin_26 rfl (nk hL (by decide)) (lv' := [(0, .ref 56), (1, .int (0 : Int32))]) rfl ?_
  obtain ⟨s8, hl, hf⟩ := ob_s hf
  refine k_drop (lv' := [(0, .ref 56), (1, .int (0 : Int32))]) [0, 1] rfl ?_
  refine lp_s (P := (fun q : Int32 × sh_S => sh_K G shX 27 [(0, .ref 56), (1, .int q.1)] [] q.2)) (Q := (fun q : sh_S => sh_K G shX 46 [] [] q)) (s := ((0 : Int32), s5)) ?_ hl ?_
  · clear hf hl
    intro q rr hf kc27
    obtain ⟨v6, s7⟩ := q
    have hf : f_X8_begin_L27 v6 s7 = some rr := hf
    unfold f_X8_begin_L27 at hf
    refine k_iload_n (pc := 27) h dX8_begin_27 rfl 1 rfl ?_
    refine k_bipush (pc := 28) h dX8_begin_28 kc_bipush_8 ?_
    refine k_icmp_ge (pc := 30) (tgt := 46) h dX8_begin_30 rfl (fun hc => ?_) (fun hc => ?_)
    · have hf := it_p hc hf
      obtain rfl := so1 hf
      exact k_drop [] rfl kc27
    · have hf := it_n hc hf
      refine k_aload_n (pc := 33) h dX8_begin_33 rfl 0 rfl ?_
      refine k_getR (pc := 34) h fl_RX8_38 rfl rfl dX8_begin_34 ?_
      refine k_iload_n (pc := 37) h dX8_begin_37 rfl 1 rfl ?_
      refine k_iconst (pc := 38) h dX8_begin_38 kc_iconst_m1 ?_
      obtain ⟨g9, hf⟩ := gu_s hf
      obtain ⟨s10, es10, hf⟩ := lb_s hf
      refine k_iast (pc := 39) (n := 8) h rfl g9 dX8_begin_39 ?_
      refine k_heap es10 ?_
      obtain ⟨v11, ev11, hf⟩ := lb_s hf
      refine k_iinc (pc := 40) h dX8_begin_40 1 rfl ((congrArg (_ + ·) kc_iconst_1).trans ev11.symm) (nk hL (by decide)) (lv' := [(0, .ref 56), (1, .int v11)]) rfl ?_
      refine k_goto (pc := 43) (tgt := 27) h dX8_begin_43 rfl ?_
      obtain rfl := so1 hf
      exact k_drop [0, 1] rfl kc27
  · obtain rfl := so1 hf
    exact hret 46 _ dX8_begin_46 trivial
theorem dX8_hasStale_0 : decode cX8_hasStale 0 = .ok (.iload_n 1, 1) := by decide +kernel
theorem dX8_hasStale_1 : decode cX8_hasStale 1 = .ok (.istore_n 2, 1) := by decide +kernel
theorem dX8_hasStale_2 : decode cX8_hasStale 2 = .ok (.iconst 0, 1) := by decide +kernel
theorem dX8_hasStale_3 : decode cX8_hasStale 3 = .ok (.istore_n 3, 1) := by decide +kernel
theorem dX8_hasStale_4 : decode cX8_hasStale 4 = .ok (.iload_n 2, 1) := by decide +kernel
theorem dX8_hasStale_5 : decode cX8_hasStale 5 = .ok (.iconst (-1), 1) := by decide +kernel
theorem dX8_hasStale_6 : decode cX8_hasStale 6 = .ok (.if_icmp .eq 34, 3) := by decide +kernel
theorem dX8_hasStale_9 : decode cX8_hasStale 9 = .ok (.iload_n 3, 1) := by decide +kernel
theorem dX8_hasStale_10 : decode cX8_hasStale 10 = .ok (.sipush 300, 3) := by decide +kernel
theorem dX8_hasStale_13 : decode cX8_hasStale 13 = .ok (.if_icmp .ge 27, 3) := by decide +kernel
theorem dX8_hasStale_16 : decode cX8_hasStale 16 = .ok (.aload_n 0, 1) := by decide +kernel
theorem dX8_hasStale_17 : decode cX8_hasStale 17 = .ok (.getfield 21, 3) := by decide +kernel
theorem dX8_hasStale_20 : decode cX8_hasStale 20 = .ok (.iload_n 2, 1) := by decide +kernel
theorem dX8_hasStale_21 : decode cX8_hasStale 21 = .ok (.baload, 1) := by decide +kernel
theorem dX8_hasStale_22 : decode cX8_hasStale 22 = .ok (.ifCond .eq 5, 3) := by decide +kernel
theorem dX8_hasStale_25 : decode cX8_hasStale 25 = .ok (.iconst 1, 1) := by decide +kernel
theorem dX8_hasStale_26 : decode cX8_hasStale 26 = .ok (.ireturn, 1) := by decide +kernel
theorem dX8_hasStale_27 : decode cX8_hasStale 27 = .ok (.aload_n 0, 1) := by decide +kernel
theorem dX8_hasStale_28 : decode cX8_hasStale 28 = .ok (.getfield 18, 3) := by decide +kernel
theorem dX8_hasStale_31 : decode cX8_hasStale 31 = .ok (.iload_n 2, 1) := by decide +kernel
theorem dX8_hasStale_32 : decode cX8_hasStale 32 = .ok (.iaload, 1) := by decide +kernel
theorem dX8_hasStale_33 : decode cX8_hasStale 33 = .ok (.istore_n 2, 1) := by decide +kernel
theorem dX8_hasStale_34 : decode cX8_hasStale 34 = .ok (.iinc 3 1, 3) := by decide +kernel
theorem dX8_hasStale_37 : decode cX8_hasStale 37 = .ok (.goto (-33), 3) := by decide +kernel
theorem dX8_hasStale_40 : decode cX8_hasStale 40 = .ok (.iconst 0, 1) := by decide +kernel
theorem dX8_hasStale_41 : decode cX8_hasStale 41 = .ok (.ireturn, 1) := by decide +kernel
def f_X8_hasStale_L4 (s0 : sh_S) (v1 : Int32) (v2 : Int32) : Option ((Int32 × Int32) ⊕ ((Unit) ⊕ (Int32))) := (if v1 = (-1 : Int32) then some (.inr (.inl ())) else (if (300 : Int32) ≤ v2 then some (.inr (.inl ())) else gu (inb v1 300) ((if (s0 60 (ix v1)) = 0 then gu (inb v1 300) (lb ((s0 59 (ix v1))) (fun v5 => lb (v2 + (1 : Int32)) (fun v6 => some (.inl (v5, v6))))) else some (.inr (.inr (1 : Int32)))))))
def f_X8_hasStale (p1 : Int32) (s0 : sh_S) : Option (Int32) := ob (lp (fun q => f_X8_hasStale_L4 s0 q.1 q.2) FU (p1, (0 : Int32))) (fun ee => sm ee (fun _ => some (0 : Int32)) (fun q => some q))
set_option maxRecDepth 100000 in
set_option maxHeartbeats 4000000 in
theorem c_X8_hasStale (p1 : Int32) (s0 : sh_S) (r : Int32) (hf : f_X8_hasStale p1 s0 = some r) : Ctr yX8_hasStale cX8_hasStale 4 (some .boolean) ({ frames := 0, cells := 0, slots := 0, locals := 0 } : Room) shX [.ref 56, .int p1] s0 (some (.int r)) s0 := by
  refine Ctr.mk (ri := .ireturn) (by decide) (Nat.le_of_ble_eq_true rfl) (Rt_z r) ?_
  intro G h hL hR hret
  refine k_drop (lv' := [(0, .ref 56), (1, .int p1)]) [0, 1] rfl ?_
  unfold f_X8_hasStale at hf
  refine k_iload_n (pc := 0) h dX8_hasStale_0 rfl 1 rfl ?_
  refine k_istore_n (pc := 1) h dX8_hasStale_1 rfl (nk hL (by decide)) (lv' := [(0, .ref 56), (1, .int p1), (2, .int p1)]) rfl ?_
  refine k_iconst (pc := 2) h dX8_hasStale_2 kc_iconst_0 ?_
  refine k_istore_n (pc := 3) h dX8_hasStale_3 rfl (nk hL (by decide)) (lv' := [(0, .ref 56), (1, .int p1), (2, .int p1), (3, .int (0 : Int32))]) rfl ?_
  obtain ⟨ee, hl, hf⟩ := ob_s hf
  refine k_drop (lv' := [(0, .ref 56), (2, .int p1), (3, .int (0 : Int32))]) [0, 2, 3] rfl ?_
  refine lp_s (P := (fun q : Int32 × Int32 => sh_K G shX 4 [(0, .ref 56), (2, .int q.1), (3, .int q.2)] [] s0)) (Q := (Sum.elim (fun q : Unit => sh_K G shX 40 [] [] s0) (fun q : Int32 => q = r))) (s := (p1, (0 : Int32))) ?_ hl ?_
  · clear hf hl
    intro q rr hf kc4
    obtain ⟨v1, v2⟩ := q
    have hf : f_X8_hasStale_L4 s0 v1 v2 = some rr := hf
    unfold f_X8_hasStale_L4 at hf
    refine k_iload_n (pc := 4) h dX8_hasStale_4 rfl 1 rfl ?_
    refine k_iconst (pc := 5) h dX8_hasStale_5 kc_iconst_m1 ?_
    refine k_icmp_eq (pc := 6) (tgt := 40) h dX8_hasStale_6 rfl (fun hc => ?_) (fun hc => ?_)
    · have hf := it_p hc hf
      obtain rfl := so1 hf
      exact k_drop [] rfl kc4
    · have hf := it_n hc hf
      refine k_iload_n (pc := 9) h dX8_hasStale_9 rfl 2 rfl ?_
      refine k_sipush (pc := 10) h dX8_hasStale_10 kc_sipush_300 ?_
      refine k_icmp_ge (pc := 13) (tgt := 40) h dX8_hasStale_13 rfl (fun hc => ?_) (fun hc => ?_)
      · have hf := it_p hc hf
        obtain rfl := so1 hf
        exact k_drop [] rfl kc4
      · have hf := it_n hc hf
        refine k_aload_n (pc := 16) h dX8_hasStale_16 rfl 0 rfl ?_
        refine k_getR (pc := 17) h fl_RX8_21 rfl rfl dX8_hasStale_17 ?_
        refine k_iload_n (pc := 20) h dX8_hasStale_20 rfl 1 rfl ?_
        obtain ⟨g3, hf⟩ := gu_s hf
        refine k_zald (pc := 21) (n := 300) h rfl g3 dX8_hasStale_21 ?_
        refine k_if_eq (pc := 22) (tgt := 27) h dX8_hasStale_22 rfl (fun hc => ?_) (fun hc => ?_)
        · have hf := it_p hc hf
          refine k_aload_n (pc := 27) h dX8_hasStale_27 rfl 0 rfl ?_
          refine k_getR (pc := 28) h fl_RX8_18 rfl rfl dX8_hasStale_28 ?_
          refine k_iload_n (pc := 31) h dX8_hasStale_31 rfl 1 rfl ?_
          obtain ⟨g4, hf⟩ := gu_s hf
          refine k_iald (pc := 32) (n := 300) h rfl g4 dX8_hasStale_32 ?_
          obtain ⟨v5, ev5, hf⟩ := lb_s hf
          refine k_top ev5 ?_
          refine k_istore_n (pc := 33) h dX8_hasStale_33 rfl (nk hL (by decide)) (lv' := [(0, .ref 56), (2, .int v5), (3, .int v2)]) rfl ?_
          obtain ⟨v6, ev6, hf⟩ := lb_s hf
          refine k_iinc (pc := 34) h dX8_hasStale_34 2 rfl ((congrArg (_ + ·) kc_iconst_1).trans ev6.symm) (nk hL (by decide)) (lv' := [(0, .ref 56), (2, .int v5), (3, .int v6)]) rfl ?_
          refine k_goto (pc := 37) (tgt := 4) h dX8_hasStale_37 rfl ?_
          obtain rfl := so1 hf
          exact k_drop [0, 1, 2] rfl kc4
        · have hf := it_n hc hf
          refine k_iconst (pc := 25) h dX8_hasStale_25 kc_iconst_1 ?_
          obtain rfl := so1 hf
          obtain rfl := sp1 kc4
          exact hret 26 _ dX8_hasStale_26 (Or.inr rfl)
  · cases ee with
    | inl qq =>
      refine k_iconst (pc := 40) h dX8_hasStale_40 kc_iconst_0 ?_
      obtain rfl := so1 hf
      exact hret 41 _ dX8_hasStale_41 (Or.inl rfl)
    | inr qq =>
      exact (Option.some.inj hf)
theorem dX8_hasShared_0 : decode cX8_hasShared 0 = .ok (.iload_n 1, 1) := by decide +kernel
theorem dX8_hasShared_1 : decode cX8_hasShared 1 = .ok (.istore_n 2, 1) := by decide +kernel
theorem dX8_hasShared_2 : decode cX8_hasShared 2 = .ok (.iconst 0, 1) := by decide +kernel
theorem dX8_hasShared_3 : decode cX8_hasShared 3 = .ok (.istore_n 3, 1) := by decide +kernel
theorem dX8_hasShared_4 : decode cX8_hasShared 4 = .ok (.iload_n 2, 1) := by decide +kernel
theorem dX8_hasShared_5 : decode cX8_hasShared 5 = .ok (.iconst (-1), 1) := by decide +kernel
theorem dX8_hasShared_6 : decode cX8_hasShared 6 = .ok (.if_icmp .eq 35, 3) := by decide +kernel
theorem dX8_hasShared_9 : decode cX8_hasShared 9 = .ok (.iload_n 3, 1) := by decide +kernel
theorem dX8_hasShared_10 : decode cX8_hasShared 10 = .ok (.sipush 300, 3) := by decide +kernel
theorem dX8_hasShared_13 : decode cX8_hasShared 13 = .ok (.if_icmp .ge 28, 3) := by decide +kernel
theorem dX8_hasShared_16 : decode cX8_hasShared 16 = .ok (.aload_n 0, 1) := by decide +kernel
theorem dX8_hasShared_17 : decode cX8_hasShared 17 = .ok (.getfield 9, 3) := by decide +kernel
theorem dX8_hasShared_20 : decode cX8_hasShared 20 = .ok (.iload_n 2, 1) := by decide +kernel
theorem dX8_hasShared_21 : decode cX8_hasShared 21 = .ok (.iaload, 1) := by decide +kernel
theorem dX8_hasShared_22 : decode cX8_hasShared 22 = .ok (.iconst 3, 1) := by decide +kernel
theorem dX8_hasShared_23 : decode cX8_hasShared 23 = .ok (.if_icmp .ne 5, 3) := by decide +kernel
theorem dX8_hasShared_26 : decode cX8_hasShared 26 = .ok (.iconst 1, 1) := by decide +kernel
theorem dX8_hasShared_27 : decode cX8_hasShared 27 = .ok (.ireturn, 1) := by decide +kernel
theorem dX8_hasShared_28 : decode cX8_hasShared 28 = .ok (.aload_n 0, 1) := by decide +kernel
theorem dX8_hasShared_29 : decode cX8_hasShared 29 = .ok (.getfield 18, 3) := by decide +kernel
theorem dX8_hasShared_32 : decode cX8_hasShared 32 = .ok (.iload_n 2, 1) := by decide +kernel
theorem dX8_hasShared_33 : decode cX8_hasShared 33 = .ok (.iaload, 1) := by decide +kernel
theorem dX8_hasShared_34 : decode cX8_hasShared 34 = .ok (.istore_n 2, 1) := by decide +kernel
theorem dX8_hasShared_35 : decode cX8_hasShared 35 = .ok (.iinc 3 1, 3) := by decide +kernel
theorem dX8_hasShared_38 : decode cX8_hasShared 38 = .ok (.goto (-34), 3) := by decide +kernel
theorem dX8_hasShared_41 : decode cX8_hasShared 41 = .ok (.iconst 0, 1) := by decide +kernel
theorem dX8_hasShared_42 : decode cX8_hasShared 42 = .ok (.ireturn, 1) := by decide +kernel
def f_X8_hasShared_L4 (s0 : sh_S) (v1 : Int32) (v2 : Int32) : Option ((Int32 × Int32) ⊕ ((Unit) ⊕ (Int32))) := (if v1 = (-1 : Int32) then some (.inr (.inl ())) else (if (300 : Int32) ≤ v2 then some (.inr (.inl ())) else gu (inb v1 300) ((if (s0 57 (ix v1)) = (3 : Int32) then some (.inr (.inr (1 : Int32))) else gu (inb v1 300) (lb ((s0 59 (ix v1))) (fun v5 => lb (v2 + (1 : Int32)) (fun v6 => some (.inl (v5, v6)))))))))
def f_X8_hasShared (p1 : Int32) (s0 : sh_S) : Option (Int32) := ob (lp (fun q => f_X8_hasShared_L4 s0 q.1 q.2) FU (p1, (0 : Int32))) (fun ee => sm ee (fun _ => some (0 : Int32)) (fun q => some q))
set_option maxRecDepth 100000 in
set_option maxHeartbeats 4000000 in
theorem c_X8_hasShared (p1 : Int32) (s0 : sh_S) (r : Int32) (hf : f_X8_hasShared p1 s0 = some r) : Ctr yX8_hasShared cX8_hasShared 4 (some .boolean) ({ frames := 0, cells := 0, slots := 0, locals := 0 } : Room) shX [.ref 56, .int p1] s0 (some (.int r)) s0 := by
  refine Ctr.mk (ri := .ireturn) (by decide) (Nat.le_of_ble_eq_true rfl) (Rt_z r) ?_
  intro G h hL hR hret
  refine k_drop (lv' := [(0, .ref 56), (1, .int p1)]) [0, 1] rfl ?_
  unfold f_X8_hasShared at hf
  refine k_iload_n (pc := 0) h dX8_hasShared_0 rfl 1 rfl ?_
  refine k_istore_n (pc := 1) h dX8_hasShared_1 rfl (nk hL (by decide)) (lv' := [(0, .ref 56), (1, .int p1), (2, .int p1)]) rfl ?_
  refine k_iconst (pc := 2) h dX8_hasShared_2 kc_iconst_0 ?_
  refine k_istore_n (pc := 3) h dX8_hasShared_3 rfl (nk hL (by decide)) (lv' := [(0, .ref 56), (1, .int p1), (2, .int p1), (3, .int (0 : Int32))]) rfl ?_
  obtain ⟨ee, hl, hf⟩ := ob_s hf
  refine k_drop (lv' := [(0, .ref 56), (2, .int p1), (3, .int (0 : Int32))]) [0, 2, 3] rfl ?_
  refine lp_s (P := (fun q : Int32 × Int32 => sh_K G shX 4 [(0, .ref 56), (2, .int q.1), (3, .int q.2)] [] s0)) (Q := (Sum.elim (fun q : Unit => sh_K G shX 41 [] [] s0) (fun q : Int32 => q = r))) (s := (p1, (0 : Int32))) ?_ hl ?_
  · clear hf hl
    intro q rr hf kc4
    obtain ⟨v1, v2⟩ := q
    have hf : f_X8_hasShared_L4 s0 v1 v2 = some rr := hf
    unfold f_X8_hasShared_L4 at hf
    refine k_iload_n (pc := 4) h dX8_hasShared_4 rfl 1 rfl ?_
    refine k_iconst (pc := 5) h dX8_hasShared_5 kc_iconst_m1 ?_
    refine k_icmp_eq (pc := 6) (tgt := 41) h dX8_hasShared_6 rfl (fun hc => ?_) (fun hc => ?_)
    · have hf := it_p hc hf
      obtain rfl := so1 hf
      exact k_drop [] rfl kc4
    · have hf := it_n hc hf
      refine k_iload_n (pc := 9) h dX8_hasShared_9 rfl 2 rfl ?_
      refine k_sipush (pc := 10) h dX8_hasShared_10 kc_sipush_300 ?_
      refine k_icmp_ge (pc := 13) (tgt := 41) h dX8_hasShared_13 rfl (fun hc => ?_) (fun hc => ?_)
      · have hf := it_p hc hf
        obtain rfl := so1 hf
        exact k_drop [] rfl kc4
      · have hf := it_n hc hf
        refine k_aload_n (pc := 16) h dX8_hasShared_16 rfl 0 rfl ?_
        refine k_getR (pc := 17) h fl_RX8_9 rfl rfl dX8_hasShared_17 ?_
        refine k_iload_n (pc := 20) h dX8_hasShared_20 rfl 1 rfl ?_
        obtain ⟨g3, hf⟩ := gu_s hf
        refine k_iald (pc := 21) (n := 300) h rfl g3 dX8_hasShared_21 ?_
        refine k_iconst (pc := 22) h dX8_hasShared_22 kc_iconst_3 ?_
        refine k_icmp_ne (pc := 23) (tgt := 28) h dX8_hasShared_23 rfl (fun hc => ?_) (fun hc => ?_)
        · have hf := it_n hc hf
          refine k_aload_n (pc := 28) h dX8_hasShared_28 rfl 0 rfl ?_
          refine k_getR (pc := 29) h fl_RX8_18 rfl rfl dX8_hasShared_29 ?_
          refine k_iload_n (pc := 32) h dX8_hasShared_32 rfl 1 rfl ?_
          obtain ⟨g4, hf⟩ := gu_s hf
          refine k_iald (pc := 33) (n := 300) h rfl g4 dX8_hasShared_33 ?_
          obtain ⟨v5, ev5, hf⟩ := lb_s hf
          refine k_top ev5 ?_
          refine k_istore_n (pc := 34) h dX8_hasShared_34 rfl (nk hL (by decide)) (lv' := [(0, .ref 56), (2, .int v5), (3, .int v2)]) rfl ?_
          obtain ⟨v6, ev6, hf⟩ := lb_s hf
          refine k_iinc (pc := 35) h dX8_hasShared_35 2 rfl ((congrArg (_ + ·) kc_iconst_1).trans ev6.symm) (nk hL (by decide)) (lv' := [(0, .ref 56), (2, .int v5), (3, .int v6)]) rfl ?_
          refine k_goto (pc := 38) (tgt := 4) h dX8_hasShared_38 rfl ?_
          obtain rfl := so1 hf
          exact k_drop [0, 1, 2] rfl kc4
        · have hf := it_p hc hf
          refine k_iconst (pc := 26) h dX8_hasShared_26 kc_iconst_1 ?_
          obtain rfl := so1 hf
          obtain rfl := sp1 kc4
          exact hret 27 _ dX8_hasShared_27 (Or.inr rfl)
  · cases ee with
    | inl qq =>
      refine k_iconst (pc := 41) h dX8_hasShared_41 kc_iconst_0 ?_
      obtain rfl := so1 hf
      exact hret 42 _ dX8_hasShared_42 (Or.inl rfl)
    | inr qq =>
      exact (Option.some.inj hf)
theorem dX8_fault_0 : decode cX8_fault 0 = .ok (.aload_n 0, 1) := by decide +kernel
theorem dX8_fault_1 : decode cX8_fault 1 = .ok (.getfield 38, 3) := by decide +kernel
theorem dX8_fault_4 : decode cX8_fault 4 = .ok (.aload_n 0, 1) := by decide +kernel
theorem dX8_fault_5 : decode cX8_fault 5 = .ok (.getfield 60, 3) := by decide +kernel
theorem dX8_fault_8 : decode cX8_fault 8 = .ok (.getfield 89, 3) := by decide +kernel
theorem dX8_fault_11 : decode cX8_fault 11 = .ok (.iload_n 1, 1) := by decide +kernel
theorem dX8_fault_12 : decode cX8_fault 12 = .ok (.iaload, 1) := by decide +kernel
theorem dX8_fault_13 : decode cX8_fault 13 = .ok (.iaload, 1) := by decide +kernel
theorem dX8_fault_14 : decode cX8_fault 14 = .ok (.istore_n 2, 1) := by decide +kernel
theorem dX8_fault_15 : decode cX8_fault 15 = .ok (.aload_n 0, 1) := by decide +kernel
theorem dX8_fault_16 : decode cX8_fault 16 = .ok (.getfield 60, 3) := by decide +kernel
theorem dX8_fault_19 : decode cX8_fault 19 = .ok (.getfield 92, 3) := by decide +kernel
theorem dX8_fault_22 : decode cX8_fault 22 = .ok (.iload_n 1, 1) := by decide +kernel
theorem dX8_fault_23 : decode cX8_fault 23 = .ok (.baload, 1) := by decide +kernel
theorem dX8_fault_24 : decode cX8_fault 24 = .ok (.ifCond .ne 26, 3) := by decide +kernel
theorem dX8_fault_27 : decode cX8_fault 27 = .ok (.aload_n 0, 1) := by decide +kernel
theorem dX8_fault_28 : decode cX8_fault 28 = .ok (.getfield 60, 3) := by decide +kernel
theorem dX8_fault_31 : decode cX8_fault 31 = .ok (.getfield 95, 3) := by decide +kernel
theorem dX8_fault_34 : decode cX8_fault 34 = .ok (.iload_n 1, 1) := by decide +kernel
theorem dX8_fault_35 : decode cX8_fault 35 = .ok (.baload, 1) := by decide +kernel
theorem dX8_fault_36 : decode cX8_fault 36 = .ok (.ifCond .eq 12, 3) := by decide +kernel
theorem dX8_fault_39 : decode cX8_fault 39 = .ok (.iload_n 2, 1) := by decide +kernel
theorem dX8_fault_40 : decode cX8_fault 40 = .ok (.iconst (-1), 1) := by decide +kernel
theorem dX8_fault_41 : decode cX8_fault 41 = .ok (.if_icmp .eq 7, 3) := by decide +kernel
theorem dX8_fault_44 : decode cX8_fault 44 = .ok (.iconst 4, 1) := by decide +kernel
theorem dX8_fault_45 : decode cX8_fault 45 = .ok (.goto 4, 3) := by decide +kernel
theorem dX8_fault_48 : decode cX8_fault 48 = .ok (.iconst (-1), 1) := by decide +kernel
theorem dX8_fault_49 : decode cX8_fault 49 = .ok (.ireturn, 1) := by decide +kernel
theorem dX8_fault_50 : decode cX8_fault 50 = .ok (.iload_n 2, 1) := by decide +kernel
theorem dX8_fault_51 : decode cX8_fault 51 = .ok (.iconst (-1), 1) := by decide +kernel
theorem dX8_fault_52 : decode cX8_fault 52 = .ok (.if_icmp .ne 5, 3) := by decide +kernel
theorem dX8_fault_55 : decode cX8_fault 55 = .ok (.iconst 1, 1) := by decide +kernel
theorem dX8_fault_56 : decode cX8_fault 56 = .ok (.ireturn, 1) := by decide +kernel
theorem dX8_fault_57 : decode cX8_fault 57 = .ok (.aload_n 0, 1) := by decide +kernel
theorem dX8_fault_58 : decode cX8_fault 58 = .ok (.iload_n 2, 1) := by decide +kernel
theorem dX8_fault_59 : decode cX8_fault 59 = .ok (.invokevirtual 98, 3) := by decide +kernel
theorem dX8_fault_62 : decode cX8_fault 62 = .ok (.ifCond .eq 5, 3) := by decide +kernel
theorem dX8_fault_65 : decode cX8_fault 65 = .ok (.iconst 2, 1) := by decide +kernel
theorem dX8_fault_66 : decode cX8_fault 66 = .ok (.ireturn, 1) := by decide +kernel
theorem dX8_fault_67 : decode cX8_fault 67 = .ok (.aload_n 0, 1) := by decide +kernel
theorem dX8_fault_68 : decode cX8_fault 68 = .ok (.getfield 60, 3) := by decide +kernel
theorem dX8_fault_71 : decode cX8_fault 71 = .ok (.getfield 101, 3) := by decide +kernel
theorem dX8_fault_74 : decode cX8_fault 74 = .ok (.iload_n 1, 1) := by decide +kernel
theorem dX8_fault_75 : decode cX8_fault 75 = .ok (.iaload, 1) := by decide +kernel
theorem dX8_fault_76 : decode cX8_fault 76 = .ok (.istore_n 3, 1) := by decide +kernel
theorem dX8_fault_77 : decode cX8_fault 77 = .ok (.iload_n 3, 1) := by decide +kernel
theorem dX8_fault_78 : decode cX8_fault 78 = .ok (.iconst 2, 1) := by decide +kernel
theorem dX8_fault_79 : decode cX8_fault 79 = .ok (.if_icmp .eq 13, 3) := by decide +kernel
theorem dX8_fault_82 : decode cX8_fault 82 = .ok (.iload_n 3, 1) := by decide +kernel
theorem dX8_fault_83 : decode cX8_fault 83 = .ok (.iconst 4, 1) := by decide +kernel
theorem dX8_fault_84 : decode cX8_fault 84 = .ok (.if_icmp .eq 8, 3) := by decide +kernel
theorem dX8_fault_87 : decode cX8_fault 87 = .ok (.iload_n 3, 1) := by decide +kernel
theorem dX8_fault_88 : decode cX8_fault 88 = .ok (.iconst 5, 1) := by decide +kernel
theorem dX8_fault_89 : decode cX8_fault 89 = .ok (.if_icmp .ne 7, 3) := by decide +kernel
theorem dX8_fault_92 : decode cX8_fault 92 = .ok (.iconst 1, 1) := by decide +kernel
theorem dX8_fault_93 : decode cX8_fault 93 = .ok (.goto 4, 3) := by decide +kernel
theorem dX8_fault_96 : decode cX8_fault 96 = .ok (.iconst 0, 1) := by decide +kernel
theorem dX8_fault_97 : decode cX8_fault 97 = .ok (.istore 4, 2) := by decide +kernel
theorem dX8_fault_99 : decode cX8_fault 99 = .ok (.iload 4, 2) := by decide +kernel
theorem dX8_fault_101 : decode cX8_fault 101 = .ok (.ifCond .eq 15, 3) := by decide +kernel
theorem dX8_fault_104 : decode cX8_fault 104 = .ok (.aload_n 0, 1) := by decide +kernel
theorem dX8_fault_105 : decode cX8_fault 105 = .ok (.iload_n 2, 1) := by decide +kernel
theorem dX8_fault_106 : decode cX8_fault 106 = .ok (.invokevirtual 104, 3) := by decide +kernel
theorem dX8_fault_109 : decode cX8_fault 109 = .ok (.ifCond .eq 7, 3) := by decide +kernel
theorem dX8_fault_112 : decode cX8_fault 112 = .ok (.iconst 3, 1) := by decide +kernel
theorem dX8_fault_113 : decode cX8_fault 113 = .ok (.goto 4, 3) := by decide +kernel
theorem dX8_fault_116 : decode cX8_fault 116 = .ok (.iconst (-1), 1) := by decide +kernel
theorem dX8_fault_117 : decode cX8_fault 117 = .ok (.ireturn, 1) := by decide +kernel
def f_X8_fault (p1 : Int32) (s0 : sh_S) : Option (Int32) := gu (inb p1 24) (gu (inb (s0 6 (ix p1)) 8) (lb ((s0 63 (ix (s0 6 (ix p1))))) (fun v3 => gu (inb p1 24) ((if (s0 9 (ix p1)) = 0 then gu (inb p1 24) (ob (if (s0 8 (ix p1)) = 0 then some (-1 : Int32) else (if v3 = (-1 : Int32) then some (-1 : Int32) else some (4 : Int32))) (fun v12 => some v12)) else (if v3 = (-1 : Int32) then some (1 : Int32) else ob (f_X8_hasStale v3 s0) (fun v5 => (if v5 = 0 then gu (inb p1 24) (lb ((s0 5 (ix p1))) (fun v7 => ob (if v7 = (2 : Int32) then some (1 : Int32) else (if v7 = (4 : Int32) then some (1 : Int32) else (if v7 = (5 : Int32) then some (1 : Int32) else some (0 : Int32)))) (fun v8 => ob (if v8 = 0 then some (-1 : Int32) else ob (f_X8_hasShared v3 s0) (fun v10 => (if v10 = 0 then some (-1 : Int32) else some (3 : Int32)))) (fun v9 => some v9)))) else some (2 : Int32)))))))))
set_option maxRecDepth 100000 in
set_option maxHeartbeats 4000000 in
theorem c_X8_fault (p1 : Int32) (s0 : sh_S) (r : Int32) (hf : f_X8_fault p1 s0 = some r) : Ctr yX8_fault cX8_fault 5 (some .int) ({ frames := 1, cells := 0, slots := 0, locals := 23 } : Room) shX [.ref 56, .int p1] s0 (some (.int r)) s0 := by
  refine Ctr.mk (ri := .ireturn) (by decide) (Nat.le_of_ble_eq_true rfl) (Rt_i r) ?_
  intro G h hL hR hret
  refine k_drop (lv' := [(0, .ref 56), (1, .int p1)]) [0, 1] rfl ?_
  unfold f_X8_fault at hf
  refine k_aload_n (pc := 0) h dX8_fault_0 rfl 0 rfl ?_
  refine k_getR (pc := 1) h fl_RX8_38 rfl rfl dX8_fault_1 ?_
  refine k_aload_n (pc := 4) h dX8_fault_4 rfl 0 rfl ?_
  refine k_getR (pc := 5) h fl_RX8_60 rfl rfl dX8_fault_5 ?_
  refine k_getR (pc := 8) h fl_RX8_89 rfl rfl dX8_fault_8 ?_
  refine k_iload_n (pc := 11) h dX8_fault_11 rfl 1 rfl ?_
  obtain ⟨g1, hf⟩ := gu_s hf
  refine k_iald (pc := 12) (n := 24) h rfl g1 dX8_fault_12 ?_
  obtain ⟨g2, hf⟩ := gu_s hf
  refine k_iald (pc := 13) (n := 8) h rfl g2 dX8_fault_13 ?_
  obtain ⟨v3, ev3, hf⟩ := lb_s hf
  refine k_top ev3 ?_
  refine k_istore_n (pc := 14) h dX8_fault_14 rfl (nk hL (by decide)) (lv' := [(0, .ref 56), (1, .int p1), (2, .int v3)]) rfl ?_
  refine k_aload_n (pc := 15) h dX8_fault_15 rfl 0 rfl ?_
  refine k_getR (pc := 16) h fl_RX8_60 rfl rfl dX8_fault_16 ?_
  refine k_getR (pc := 19) h fl_RX8_92 rfl rfl dX8_fault_19 ?_
  refine k_iload_n (pc := 22) h dX8_fault_22 rfl 1 rfl ?_
  obtain ⟨g4, hf⟩ := gu_s hf
  refine k_zald (pc := 23) (n := 24) h rfl g4 dX8_fault_23 ?_
  refine k_if_ne (pc := 24) (tgt := 50) h dX8_fault_24 rfl (fun hc => ?_) (fun hc => ?_)
  · have hf := it_n hc hf
    refine k_iload_n (pc := 50) h dX8_fault_50 rfl 2 rfl ?_
    refine k_iconst (pc := 51) h dX8_fault_51 kc_iconst_m1 ?_
    refine k_icmp_ne (pc := 52) (tgt := 57) h dX8_fault_52 rfl (fun hc => ?_) (fun hc => ?_)
    · have hf := it_n hc hf
      refine k_aload_n (pc := 57) h dX8_fault_57 rfl 0 rfl ?_
      refine k_iload_n (pc := 58) h dX8_fault_58 rfl 2 rfl ?_
      obtain ⟨v5, cv5, hf⟩ := ob_s hf
      refine k_callV0 (pc := 59) h cv_RX8_98 (c_X8_hasStale v3 s0 v5 cv5) rfl rfl rfl (st1 := [.int v5]) rfl ⟨rfl, rfl⟩ (rk hR (Nat.le_of_ble_eq_true rfl) (Nat.le_of_ble_eq_true rfl)) (Nat.le_of_ble_eq_true rfl) dX8_fault_59 ?_
      refine k_if_eq (pc := 62) (tgt := 67) h dX8_fault_62 rfl (fun hc => ?_) (fun hc => ?_)
      · have hf := it_p hc hf
        refine k_aload_n (pc := 67) h dX8_fault_67 rfl 0 rfl ?_
        refine k_getR (pc := 68) h fl_RX8_60 rfl rfl dX8_fault_68 ?_
        refine k_getR (pc := 71) h fl_RX8_101 rfl rfl dX8_fault_71 ?_
        refine k_iload_n (pc := 74) h dX8_fault_74 rfl 1 rfl ?_
        obtain ⟨g6, hf⟩ := gu_s hf
        refine k_iald (pc := 75) (n := 24) h rfl g6 dX8_fault_75 ?_
        obtain ⟨v7, ev7, hf⟩ := lb_s hf
        refine k_top ev7 ?_
        refine k_istore_n (pc := 76) h dX8_fault_76 rfl (nk hL (by decide)) (lv' := [(0, .ref 56), (1, .int p1), (2, .int v3), (3, .int v7)]) rfl ?_
        refine k_iload_n (pc := 77) h dX8_fault_77 rfl 3 rfl ?_
        refine k_iconst (pc := 78) h dX8_fault_78 kc_iconst_2 ?_
        obtain ⟨v8, hj, hf⟩ := ob_s hf
        have kj79 : sh_K G shX 97 [(0, .ref 56), (2, .int v3)] [.int v8] s0 := by
          refine k_istore (pc := 97) h dX8_fault_97 (nk hL (by decide)) (lv' := [(0, .ref 56), (2, .int v3), (4, .int v8)]) rfl ?_
          refine k_iload (pc := 99) h dX8_fault_99 2 rfl ?_
          obtain ⟨v9, hj, hf⟩ := ob_s hf
          have kj101 : sh_K G shX 117 [] [.int v9] s0 := by
            obtain rfl := so1 hf
            exact hret 117 _ dX8_fault_117 trivial
          clear hf
          have hf := hj
          clear hj
          refine k_if_eq (pc := 101) (tgt := 116) h dX8_fault_101 rfl (fun hc => ?_) (fun hc => ?_)
          · have hf := it_p hc hf
            refine k_iconst (pc := 116) h dX8_fault_116 kc_iconst_m1 ?_
            obtain rfl := so1 hf
            exact k_drop [] rfl kj101
          · have hf := it_n hc hf
            refine k_aload_n (pc := 104) h dX8_fault_104 rfl 0 rfl ?_
            refine k_iload_n (pc := 105) h dX8_fault_105 rfl 1 rfl ?_
            obtain ⟨v10, cv10, hf⟩ := ob_s hf
            refine k_callV0 (pc := 106) h cv_RX8_104 (c_X8_hasShared v3 s0 v10 cv10) rfl rfl rfl (st1 := [.int v10]) rfl ⟨rfl, rfl⟩ (rk hR (Nat.le_of_ble_eq_true rfl) (Nat.le_of_ble_eq_true rfl)) (Nat.le_of_ble_eq_true rfl) dX8_fault_106 ?_
            refine k_if_eq (pc := 109) (tgt := 116) h dX8_fault_109 rfl (fun hc => ?_) (fun hc => ?_)
            · have hf := it_p hc hf
              refine k_iconst (pc := 116) h dX8_fault_116 kc_iconst_m1 ?_
              obtain rfl := so1 hf
              exact k_drop [] rfl kj101
            · have hf := it_n hc hf
              refine k_iconst (pc := 112) h dX8_fault_112 kc_iconst_3 ?_
              refine k_goto (pc := 113) (tgt := 117) h dX8_fault_113 rfl ?_
              obtain rfl := so1 hf
              exact k_drop [] rfl kj101
        clear hf
        have hf := hj
        clear hj
        refine k_icmp_eq (pc := 79) (tgt := 92) h dX8_fault_79 rfl (fun hc => ?_) (fun hc => ?_)
        · have hf := it_p hc hf
          refine k_iconst (pc := 92) h dX8_fault_92 kc_iconst_1 ?_
          refine k_goto (pc := 93) (tgt := 97) h dX8_fault_93 rfl ?_
          obtain rfl := so1 hf
          exact k_drop [0, 2] rfl kj79
        · have hf := it_n hc hf
          refine k_iload_n (pc := 82) h dX8_fault_82 rfl 3 rfl ?_
          refine k_iconst (pc := 83) h dX8_fault_83 kc_iconst_4 ?_
          refine k_icmp_eq (pc := 84) (tgt := 92) h dX8_fault_84 rfl (fun hc => ?_) (fun hc => ?_)
          · have hf := it_p hc hf
            refine k_iconst (pc := 92) h dX8_fault_92 kc_iconst_1 ?_
            refine k_goto (pc := 93) (tgt := 97) h dX8_fault_93 rfl ?_
            obtain rfl := so1 hf
            exact k_drop [0, 2] rfl kj79
          · have hf := it_n hc hf
            refine k_iload_n (pc := 87) h dX8_fault_87 rfl 3 rfl ?_
            refine k_iconst (pc := 88) h dX8_fault_88 kc_iconst_5 ?_
            refine k_icmp_ne (pc := 89) (tgt := 96) h dX8_fault_89 rfl (fun hc => ?_) (fun hc => ?_)
            · have hf := it_n hc hf
              refine k_iconst (pc := 96) h dX8_fault_96 kc_iconst_0 ?_
              obtain rfl := so1 hf
              exact k_drop [0, 2] rfl kj79
            · have hf := it_p hc hf
              refine k_iconst (pc := 92) h dX8_fault_92 kc_iconst_1 ?_
              refine k_goto (pc := 93) (tgt := 97) h dX8_fault_93 rfl ?_
              obtain rfl := so1 hf
              exact k_drop [0, 2] rfl kj79
      · have hf := it_n hc hf
        refine k_iconst (pc := 65) h dX8_fault_65 kc_iconst_2 ?_
        obtain rfl := so1 hf
        exact hret 66 _ dX8_fault_66 trivial
    · have hf := it_p hc hf
      refine k_iconst (pc := 55) h dX8_fault_55 kc_iconst_1 ?_
      obtain rfl := so1 hf
      exact hret 56 _ dX8_fault_56 trivial
  · have hf := it_p hc hf
    refine k_aload_n (pc := 27) h dX8_fault_27 rfl 0 rfl ?_
    refine k_getR (pc := 28) h fl_RX8_60 rfl rfl dX8_fault_28 ?_
    refine k_getR (pc := 31) h fl_RX8_95 rfl rfl dX8_fault_31 ?_
    refine k_iload_n (pc := 34) h dX8_fault_34 rfl 1 rfl ?_
    obtain ⟨g11, hf⟩ := gu_s hf
    refine k_zald (pc := 35) (n := 24) h rfl g11 dX8_fault_35 ?_
    obtain ⟨v12, hj, hf⟩ := ob_s hf
    have kj36 : sh_K G shX 49 [] [.int v12] s0 := by
      obtain rfl := so1 hf
      exact hret 49 _ dX8_fault_49 trivial
    clear hf
    have hf := hj
    clear hj
    refine k_if_eq (pc := 36) (tgt := 48) h dX8_fault_36 rfl (fun hc => ?_) (fun hc => ?_)
    · have hf := it_p hc hf
      refine k_iconst (pc := 48) h dX8_fault_48 kc_iconst_m1 ?_
      obtain rfl := so1 hf
      exact k_drop [] rfl kj36
    · have hf := it_n hc hf
      refine k_iload_n (pc := 39) h dX8_fault_39 rfl 2 rfl ?_
      refine k_iconst (pc := 40) h dX8_fault_40 kc_iconst_m1 ?_
      refine k_icmp_eq (pc := 41) (tgt := 48) h dX8_fault_41 rfl (fun hc => ?_) (fun hc => ?_)
      · have hf := it_p hc hf
        refine k_iconst (pc := 48) h dX8_fault_48 kc_iconst_m1 ?_
        obtain rfl := so1 hf
        exact k_drop [] rfl kj36
      · have hf := it_n hc hf
        refine k_iconst (pc := 44) h dX8_fault_44 kc_iconst_4 ?_
        refine k_goto (pc := 45) (tgt := 49) h dX8_fault_45 rfl ?_
        obtain rfl := so1 hf
        exact k_drop [] rfl kj36
theorem dX8_touch_0 : decode cX8_touch 0 = .ok (.aload_n 0, 1) := by decide +kernel
theorem dX8_touch_1 : decode cX8_touch 1 = .ok (.dup, 1) := by decide +kernel
theorem dX8_touch_2 : decode cX8_touch 2 = .ok (.getfield 35, 3) := by decide +kernel
theorem dX8_touch_5 : decode cX8_touch 5 = .ok (.iconst 1, 1) := by decide +kernel
theorem dX8_touch_6 : decode cX8_touch 6 = .ok (.iadd, 1) := by decide +kernel
theorem dX8_touch_7 : decode cX8_touch 7 = .ok (.putfield 35, 3) := by decide +kernel
theorem dX8_touch_10 : decode cX8_touch 10 = .ok (.iload_n 3, 1) := by decide +kernel
theorem dX8_touch_11 : decode cX8_touch 11 = .ok (.istore 4, 2) := by decide +kernel
theorem dX8_touch_13 : decode cX8_touch 13 = .ok (.iconst 0, 1) := by decide +kernel
theorem dX8_touch_14 : decode cX8_touch 14 = .ok (.istore 5, 2) := by decide +kernel
theorem dX8_touch_16 : decode cX8_touch 16 = .ok (.iload 4, 2) := by decide +kernel
theorem dX8_touch_18 : decode cX8_touch 18 = .ok (.iconst (-1), 1) := by decide +kernel
theorem dX8_touch_19 : decode cX8_touch 19 = .ok (.if_icmp .eq 37, 3) := by decide +kernel
theorem dX8_touch_22 : decode cX8_touch 22 = .ok (.iload 5, 2) := by decide +kernel
theorem dX8_touch_24 : decode cX8_touch 24 = .ok (.sipush 300, 3) := by decide +kernel
theorem dX8_touch_27 : decode cX8_touch 27 = .ok (.if_icmp .ge 29, 3) := by decide +kernel
theorem dX8_touch_30 : decode cX8_touch 30 = .ok (.aload_n 0, 1) := by decide +kernel
theorem dX8_touch_31 : decode cX8_touch 31 = .ok (.getfield 28, 3) := by decide +kernel
theorem dX8_touch_34 : decode cX8_touch 34 = .ok (.iload 4, 2) := by decide +kernel
theorem dX8_touch_36 : decode cX8_touch 36 = .ok (.aload_n 0, 1) := by decide +kernel
theorem dX8_touch_37 : decode cX8_touch 37 = .ok (.getfield 35, 3) := by decide +kernel
theorem dX8_touch_40 : decode cX8_touch 40 = .ok (.iastore, 1) := by decide +kernel
theorem dX8_touch_41 : decode cX8_touch 41 = .ok (.aload_n 0, 1) := by decide +kernel
theorem dX8_touch_42 : decode cX8_touch 42 = .ok (.getfield 18, 3) := by decide +kernel
theorem dX8_touch_45 : decode cX8_touch 45 = .ok (.iload 4, 2) := by decide +kernel
theorem dX8_touch_47 : decode cX8_touch 47 = .ok (.iaload, 1) := by decide +kernel
theorem dX8_touch_48 : decode cX8_touch 48 = .ok (.istore 4, 2) := by decide +kernel
theorem dX8_touch_50 : decode cX8_touch 50 = .ok (.iinc 5 1, 3) := by decide +kernel
theorem dX8_touch_53 : decode cX8_touch 53 = .ok (.goto (-37), 3) := by decide +kernel
theorem dX8_touch_56 : decode cX8_touch 56 = .ok (.iconst 0, 1) := by decide +kernel
theorem dX8_touch_57 : decode cX8_touch 57 = .ok (.istore 5, 2) := by decide +kernel
theorem dX8_touch_59 : decode cX8_touch 59 = .ok (.iload 5, 2) := by decide +kernel
theorem dX8_touch_61 : decode cX8_touch 61 = .ok (.aload_n 0, 1) := by decide +kernel
theorem dX8_touch_62 : decode cX8_touch 62 = .ok (.getfield 31, 3) := by decide +kernel
theorem dX8_touch_65 : decode cX8_touch 65 = .ok (.if_icmp .ge 107, 3) := by decide +kernel
theorem dX8_touch_68 : decode cX8_touch 68 = .ok (.aload_n 0, 1) := by decide +kernel
theorem dX8_touch_69 : decode cX8_touch 69 = .ok (.getfield 21, 3) := by decide +kernel
theorem dX8_touch_72 : decode cX8_touch 72 = .ok (.iload 5, 2) := by decide +kernel
theorem dX8_touch_74 : decode cX8_touch 74 = .ok (.baload, 1) := by decide +kernel
theorem dX8_touch_75 : decode cX8_touch 75 = .ok (.ifCond .ne 91, 3) := by decide +kernel
theorem dX8_touch_78 : decode cX8_touch 78 = .ok (.aload_n 0, 1) := by decide +kernel
theorem dX8_touch_79 : decode cX8_touch 79 = .ok (.getfield 28, 3) := by decide +kernel
theorem dX8_touch_82 : decode cX8_touch 82 = .ok (.iload 5, 2) := by decide +kernel
theorem dX8_touch_84 : decode cX8_touch 84 = .ok (.iaload, 1) := by decide +kernel
theorem dX8_touch_85 : decode cX8_touch 85 = .ok (.aload_n 0, 1) := by decide +kernel
theorem dX8_touch_86 : decode cX8_touch 86 = .ok (.getfield 35, 3) := by decide +kernel
theorem dX8_touch_89 : decode cX8_touch 89 = .ok (.if_icmp .eq 77, 3) := by decide +kernel
theorem dX8_touch_92 : decode cX8_touch 92 = .ok (.aload_n 0, 1) := by decide +kernel
theorem dX8_touch_93 : decode cX8_touch 93 = .ok (.getfield 15, 3) := by decide +kernel
theorem dX8_touch_96 : decode cX8_touch 96 = .ok (.iload 5, 2) := by decide +kernel
theorem dX8_touch_98 : decode cX8_touch 98 = .ok (.iaload, 1) := by decide +kernel
theorem dX8_touch_99 : decode cX8_touch 99 = .ok (.iload_n 1, 1) := by decide +kernel
theorem dX8_touch_100 : decode cX8_touch 100 = .ok (.invokestatic 125, 3) := by decide +kernel
theorem dX8_touch_103 : decode cX8_touch 103 = .ok (.ifCond .eq 63, 3) := by decide +kernel
theorem dX8_touch_106 : decode cX8_touch 106 = .ok (.aload_n 0, 1) := by decide +kernel
theorem dX8_touch_107 : decode cX8_touch 107 = .ok (.getfield 9, 3) := by decide +kernel
theorem dX8_touch_110 : decode cX8_touch 110 = .ok (.iload 5, 2) := by decide +kernel
theorem dX8_touch_112 : decode cX8_touch 112 = .ok (.iaload, 1) := by decide +kernel
theorem dX8_touch_113 : decode cX8_touch 113 = .ok (.iconst 4, 1) := by decide +kernel
theorem dX8_touch_114 : decode cX8_touch 114 = .ok (.if_icmp .eq 24, 3) := by decide +kernel
theorem dX8_touch_117 : decode cX8_touch 117 = .ok (.aload_n 0, 1) := by decide +kernel
theorem dX8_touch_118 : decode cX8_touch 118 = .ok (.getfield 9, 3) := by decide +kernel
theorem dX8_touch_121 : decode cX8_touch 121 = .ok (.iload 5, 2) := by decide +kernel
theorem dX8_touch_123 : decode cX8_touch 123 = .ok (.iaload, 1) := by decide +kernel
theorem dX8_touch_124 : decode cX8_touch 124 = .ok (.iconst 5, 1) := by decide +kernel
theorem dX8_touch_125 : decode cX8_touch 125 = .ok (.if_icmp .ne 17, 3) := by decide +kernel
theorem dX8_touch_128 : decode cX8_touch 128 = .ok (.aload_n 0, 1) := by decide +kernel
theorem dX8_touch_129 : decode cX8_touch 129 = .ok (.getfield 25, 3) := by decide +kernel
theorem dX8_touch_132 : decode cX8_touch 132 = .ok (.iload 5, 2) := by decide +kernel
theorem dX8_touch_134 : decode cX8_touch 134 = .ok (.baload, 1) := by decide +kernel
theorem dX8_touch_135 : decode cX8_touch 135 = .ok (.ifCond .eq 7, 3) := by decide +kernel
theorem dX8_touch_138 : decode cX8_touch 138 = .ok (.iconst 1, 1) := by decide +kernel
theorem dX8_touch_139 : decode cX8_touch 139 = .ok (.goto 4, 3) := by decide +kernel
theorem dX8_touch_142 : decode cX8_touch 142 = .ok (.iconst 0, 1) := by decide +kernel
theorem dX8_touch_143 : decode cX8_touch 143 = .ok (.istore 6, 2) := by decide +kernel
theorem dX8_touch_145 : decode cX8_touch 145 = .ok (.aload_n 0, 1) := by decide +kernel
theorem dX8_touch_146 : decode cX8_touch 146 = .ok (.getfield 21, 3) := by decide +kernel
theorem dX8_touch_149 : decode cX8_touch 149 = .ok (.iload 5, 2) := by decide +kernel
theorem dX8_touch_151 : decode cX8_touch 151 = .ok (.iload_n 2, 1) := by decide +kernel
theorem dX8_touch_152 : decode cX8_touch 152 = .ok (.ifCond .ne 8, 3) := by decide +kernel
theorem dX8_touch_155 : decode cX8_touch 155 = .ok (.iload 6, 2) := by decide +kernel
theorem dX8_touch_157 : decode cX8_touch 157 = .ok (.ifCond .eq 7, 3) := by decide +kernel
theorem dX8_touch_160 : decode cX8_touch 160 = .ok (.iconst 1, 1) := by decide +kernel
theorem dX8_touch_161 : decode cX8_touch 161 = .ok (.goto 4, 3) := by decide +kernel
theorem dX8_touch_164 : decode cX8_touch 164 = .ok (.iconst 0, 1) := by decide +kernel
theorem dX8_touch_165 : decode cX8_touch 165 = .ok (.bastore, 1) := by decide +kernel
theorem dX8_touch_166 : decode cX8_touch 166 = .ok (.iinc 5 1, 3) := by decide +kernel
theorem dX8_touch_169 : decode cX8_touch 169 = .ok (.goto (-110), 3) := by decide +kernel
theorem dX8_touch_172 : decode cX8_touch 172 = .ok (.return_, 1) := by decide +kernel
def f_X8_touch_L16 (v2 : Int32) (v3 : Int32) (s4 : sh_S) : Option ((Int32 × Int32 × sh_S) ⊕ (sh_S)) := (if v2 = (-1 : Int32) then some (.inr s4) else (if (300 : Int32) ≤ v3 then some (.inr s4) else gu (inb v2 300) (lb (ur s4 62 (upd (s4 62) (ix v2) (s4 56 8))) (fun s7 => gu (inb v2 300) (lb ((s7 59 (ix v2))) (fun v9 => lb (v3 + (1 : Int32)) (fun v10 => some (.inl (v9, v10, s7)))))))))
def f_X8_touch_L59 (p1 : Int32) (p2 : Int32) (v11 : Int32) (s12 : sh_S) : Option ((Int32 × sh_S) ⊕ (sh_S)) := (if (s12 56 7) ≤ v11 then some (.inr s12) else gu (inb v11 300) (ob (if (s12 60 (ix v11)) = 0 then gu (inb v11 300) ((if (s12 62 (ix v11)) = (s12 56 8) then some s12 else gu (inb v11 300) (ob (f_X8_meet (s12 58 (ix v11)) p1) (fun v18 => (if v18 = 0 then some s12 else gu (inb v11 300) (ob (if (s12 57 (ix v11)) = (4 : Int32) then some (1 : Int32) else gu (inb v11 300) ((if (s12 57 (ix v11)) = (5 : Int32) then gu (inb v11 300) ((if (s12 61 (ix v11)) = 0 then some (0 : Int32) else some (1 : Int32))) else some (0 : Int32)))) (fun v20 => ob (if p2 = 0 then (if v20 = 0 then some (0 : Int32) else some (1 : Int32)) else some (1 : Int32)) (fun v23 => gu (inb v11 300) (lb (ur s12 60 (upd (s12 60) (ix v11) (nz v23))) (fun s25 => some s25)))))))))) else some s12) (fun s15 => lb (v11 + (1 : Int32)) (fun v26 => some (.inl (v26, s15))))))
def f_X8_touch (p1 : Int32) (p2 : Int32) (p3 : Int32) (s0 : sh_S) : Option (sh_S) := lb (ur s0 56 (upd (s0 56) 8 ((s0 56 8) + (1 : Int32)))) (fun s1 => ob (lp (fun q => f_X8_touch_L16 q.1 q.2.1 q.2.2) FU (p3, (0 : Int32), s1)) (fun s5 => ob (lp (fun q => f_X8_touch_L59 p1 p2 q.1 q.2) FU ((0 : Int32), s5)) (fun s13 => some s13)))
set_option maxRecDepth 100000 in
set_option maxHeartbeats 4000000 in
theorem c_X8_touch (p1 : Int32) (p2 : Int32) (p3 : Int32) (s0 : sh_S) (s9x : sh_S) (hf : f_X8_touch p1 p2 p3 s0 = some s9x) : Ctr yX8_touch cX8_touch 7 none ({ frames := 1, cells := 0, slots := 0, locals := 21 } : Room) shX [.ref 56, .int p1, .int p2, .int p3] s0 none s9x := by
  refine Ctr.mk (ri := .return_) (by decide) (Nat.le_of_ble_eq_true rfl) (Rt_v) ?_
  intro G h hL hR hret
  refine k_drop (lv' := [(0, .ref 56), (1, .int p1), (2, .int p2), (3, .int p3)]) [0, 1, 2, 3] rfl ?_
  unfold f_X8_touch at hf
  refine k_aload_n (pc := 0) h dX8_touch_0 rfl 0 rfl ?_
  refine k_dup (pc := 1) h dX8_touch_1 rfl ?_
  refine k_getI (pc := 2) h fl_RX8_35 rfl rfl dX8_touch_2 ?_
  refine k_iconst (pc := 5) h dX8_touch_5 kc_iconst_1 ?_
  refine k_iadd (pc := 6) h dX8_touch_6 ?_
  obtain ⟨s1, es1, hf⟩ := lb_s hf
  refine k_put (pc := 7) h fl_RX8_35 fp_X8_8 rfl rfl rfl rfl dX8_touch_7 ?_
  refine k_heap es1 ?_
  refine k_iload_n (pc := 10) h dX8_touch_10 rfl 3 rfl ?_
  refine k_istore (pc := 11) h dX8_touch_11 (nk hL (by decide)) (lv' := [(0, .ref 56), (1, .int p1), (2, .int p2), (3, .int p3), (4, .int p3)]) rfl ?_
  refine k_iconst (pc := 13) h dX8_touch_13 kc_iconst_0 ?_
  refine k_istore (pc := 14) h dX8_touch_14 (nk hL (by decide)) (lv' := [(0, .ref 56), (1, .int p1), (2, .int p2), (3, .int p3), (4, .int p3), (5, .int (0 : Int32))]) rfl ?_
  obtain ⟨s5, hl, hf⟩ := ob_s hf
  refine k_drop (lv' := [(0, .ref 56), (1, .int p1), (2, .int p2), (4, .int p3), (5, .int (0 : Int32))]) [0, 1, 2, 4, 5] rfl ?_
  refine lp_s (P := (fun q : Int32 × Int32 × sh_S => sh_K G shX 16 [(0, .ref 56), (1, .int p1), (2, .int p2), (4, .int q.1), (5, .int q.2.1)] [] q.2.2)) (Q := (fun q : sh_S => sh_K G shX 56 [(0, .ref 56), (1, .int p1), (2, .int p2)] [] q)) (s := (p3, (0 : Int32), s1)) ?_ hl ?_
  · clear hf hl
    intro q rr hf kc16
    obtain ⟨v2, v3, s4⟩ := q
    have hf : f_X8_touch_L16 v2 v3 s4 = some rr := hf
    unfold f_X8_touch_L16 at hf
    refine k_iload (pc := 16) h dX8_touch_16 3 rfl ?_
    refine k_iconst (pc := 18) h dX8_touch_18 kc_iconst_m1 ?_
    refine k_icmp_eq (pc := 19) (tgt := 56) h dX8_touch_19 rfl (fun hc => ?_) (fun hc => ?_)
    · have hf := it_p hc hf
      obtain rfl := so1 hf
      exact k_drop [0, 1, 2] rfl kc16
    · have hf := it_n hc hf
      refine k_iload (pc := 22) h dX8_touch_22 4 rfl ?_
      refine k_sipush (pc := 24) h dX8_touch_24 kc_sipush_300 ?_
      refine k_icmp_ge (pc := 27) (tgt := 56) h dX8_touch_27 rfl (fun hc => ?_) (fun hc => ?_)
      · have hf := it_p hc hf
        obtain rfl := so1 hf
        exact k_drop [0, 1, 2] rfl kc16
      · have hf := it_n hc hf
        refine k_aload_n (pc := 30) h dX8_touch_30 rfl 0 rfl ?_
        refine k_getR (pc := 31) h fl_RX8_28 rfl rfl dX8_touch_31 ?_
        refine k_iload (pc := 34) h dX8_touch_34 3 rfl ?_
        refine k_aload_n (pc := 36) h dX8_touch_36 rfl 0 rfl ?_
        refine k_getI (pc := 37) h fl_RX8_35 rfl rfl dX8_touch_37 ?_
        obtain ⟨g6, hf⟩ := gu_s hf
        obtain ⟨s7, es7, hf⟩ := lb_s hf
        refine k_iast (pc := 40) (n := 300) h rfl g6 dX8_touch_40 ?_
        refine k_heap es7 ?_
        refine k_aload_n (pc := 41) h dX8_touch_41 rfl 0 rfl ?_
        refine k_getR (pc := 42) h fl_RX8_18 rfl rfl dX8_touch_42 ?_
        refine k_iload (pc := 45) h dX8_touch_45 3 rfl ?_
        obtain ⟨g8, hf⟩ := gu_s hf
        refine k_iald (pc := 47) (n := 300) h rfl g8 dX8_touch_47 ?_
        obtain ⟨v9, ev9, hf⟩ := lb_s hf
        refine k_top ev9 ?_
        refine k_istore (pc := 48) h dX8_touch_48 (nk hL (by decide)) (lv' := [(0, .ref 56), (1, .int p1), (2, .int p2), (4, .int v9), (5, .int v3)]) rfl ?_
        obtain ⟨v10, ev10, hf⟩ := lb_s hf
        refine k_iinc (pc := 50) h dX8_touch_50 4 rfl ((congrArg (_ + ·) kc_iconst_1).trans ev10.symm) (nk hL (by decide)) (lv' := [(0, .ref 56), (1, .int p1), (2, .int p2), (4, .int v9), (5, .int v10)]) rfl ?_
        refine k_goto (pc := 53) (tgt := 16) h dX8_touch_53 rfl ?_
        obtain rfl := so1 hf
        exact k_drop [0, 1, 2, 3, 4] rfl kc16
  · refine k_iconst (pc := 56) h dX8_touch_56 kc_iconst_0 ?_
    refine k_istore (pc := 57) h dX8_touch_57 (nk hL (by decide)) (lv' := [(0, .ref 56), (1, .int p1), (2, .int p2), (5, .int (0 : Int32))]) rfl ?_
    obtain ⟨s13, hl, hf⟩ := ob_s hf
    refine k_drop (lv' := [(0, .ref 56), (1, .int p1), (2, .int p2), (5, .int (0 : Int32))]) [0, 1, 2, 3] rfl ?_
    refine lp_s (P := (fun q : Int32 × sh_S => sh_K G shX 59 [(0, .ref 56), (1, .int p1), (2, .int p2), (5, .int q.1)] [] q.2)) (Q := (fun q : sh_S => sh_K G shX 172 [] [] q)) (s := ((0 : Int32), s5)) ?_ hl ?_
    · clear hf hl
      intro q rr hf kc59
      obtain ⟨v11, s12⟩ := q
      have hf : f_X8_touch_L59 p1 p2 v11 s12 = some rr := hf
      unfold f_X8_touch_L59 at hf
      refine k_iload (pc := 59) h dX8_touch_59 3 rfl ?_
      refine k_aload_n (pc := 61) h dX8_touch_61 rfl 0 rfl ?_
      refine k_getI (pc := 62) h fl_RX8_31 rfl rfl dX8_touch_62 ?_
      refine k_icmp_ge (pc := 65) (tgt := 172) h dX8_touch_65 rfl (fun hc => ?_) (fun hc => ?_)
      · have hf := it_p hc hf
        obtain rfl := so1 hf
        exact k_drop [] rfl kc59
      · have hf := it_n hc hf
        refine k_aload_n (pc := 68) h dX8_touch_68 rfl 0 rfl ?_
        refine k_getR (pc := 69) h fl_RX8_21 rfl rfl dX8_touch_69 ?_
        refine k_iload (pc := 72) h dX8_touch_72 3 rfl ?_
        obtain ⟨g14, hf⟩ := gu_s hf
        refine k_zald (pc := 74) (n := 300) h rfl g14 dX8_touch_74 ?_
        obtain ⟨s15, hj, hf⟩ := ob_s hf
        have kj75 : sh_K G shX 166 [(0, .ref 56), (1, .int p1), (2, .int p2), (5, .int v11)] [] s15 := by
          obtain ⟨v26, ev26, hf⟩ := lb_s hf
          refine k_iinc (pc := 166) h dX8_touch_166 3 rfl ((congrArg (_ + ·) kc_iconst_1).trans ev26.symm) (nk hL (by decide)) (lv' := [(0, .ref 56), (1, .int p1), (2, .int p2), (5, .int v26)]) rfl ?_
          refine k_goto (pc := 169) (tgt := 59) h dX8_touch_169 rfl ?_
          obtain rfl := so1 hf
          exact k_drop [0, 1, 2, 3] rfl kc59
        clear hf
        have hf := hj
        clear hj
        refine k_if_ne (pc := 75) (tgt := 166) h dX8_touch_75 rfl (fun hc => ?_) (fun hc => ?_)
        · have hf := it_n hc hf
          obtain rfl := so1 hf
          exact k_drop [0, 1, 2, 3] rfl kj75
        · have hf := it_p hc hf
          refine k_aload_n (pc := 78) h dX8_touch_78 rfl 0 rfl ?_
          refine k_getR (pc := 79) h fl_RX8_28 rfl rfl dX8_touch_79 ?_
          refine k_iload (pc := 82) h dX8_touch_82 3 rfl ?_
          obtain ⟨g16, hf⟩ := gu_s hf
          refine k_iald (pc := 84) (n := 300) h rfl g16 dX8_touch_84 ?_
          refine k_aload_n (pc := 85) h dX8_touch_85 rfl 0 rfl ?_
          refine k_getI (pc := 86) h fl_RX8_35 rfl rfl dX8_touch_86 ?_
          refine k_icmp_eq (pc := 89) (tgt := 166) h dX8_touch_89 rfl (fun hc => ?_) (fun hc => ?_)
          · have hf := it_p hc hf
            obtain rfl := so1 hf
            exact k_drop [0, 1, 2, 3] rfl kj75
          · have hf := it_n hc hf
            refine k_aload_n (pc := 92) h dX8_touch_92 rfl 0 rfl ?_
            refine k_getR (pc := 93) h fl_RX8_15 rfl rfl dX8_touch_93 ?_
            refine k_iload (pc := 96) h dX8_touch_96 3 rfl ?_
            obtain ⟨g17, hf⟩ := gu_s hf
            refine k_iald (pc := 98) (n := 300) h rfl g17 dX8_touch_98 ?_
            refine k_iload_n (pc := 99) h dX8_touch_99 rfl 1 rfl ?_
            obtain ⟨v18, cv18, hf⟩ := ob_s hf
            refine k_callSp (pc := 100) h cs_RX8_125 (c_X8_meet (s12 58 (ix v11)) p1 _ v18 cv18) rfl rfl (st1 := [.int v18]) rfl ⟨rfl, rfl⟩ (rk hR (Nat.le_of_ble_eq_true rfl) (Nat.le_of_ble_eq_true rfl)) (Nat.le_of_ble_eq_true rfl) dX8_touch_100 ?_
            refine k_if_eq (pc := 103) (tgt := 166) h dX8_touch_103 rfl (fun hc => ?_) (fun hc => ?_)
            · have hf := it_p hc hf
              obtain rfl := so1 hf
              exact k_drop [0, 1, 2, 3] rfl kj75
            · have hf := it_n hc hf
              refine k_aload_n (pc := 106) h dX8_touch_106 rfl 0 rfl ?_
              refine k_getR (pc := 107) h fl_RX8_9 rfl rfl dX8_touch_107 ?_
              refine k_iload (pc := 110) h dX8_touch_110 3 rfl ?_
              obtain ⟨g19, hf⟩ := gu_s hf
              refine k_iald (pc := 112) (n := 300) h rfl g19 dX8_touch_112 ?_
              refine k_iconst (pc := 113) h dX8_touch_113 kc_iconst_4 ?_
              obtain ⟨v20, hj, hf⟩ := ob_s hf
              have kj114 : sh_K G shX 143 [(0, .ref 56), (1, .int p1), (2, .int p2), (5, .int v11)] [.int v20] s12 := by
                refine k_istore (pc := 143) h dX8_touch_143 (nk hL (by decide)) (lv' := [(0, .ref 56), (1, .int p1), (2, .int p2), (5, .int v11), (6, .int v20)]) rfl ?_
                refine k_aload_n (pc := 145) h dX8_touch_145 rfl 0 rfl ?_
                refine k_getR (pc := 146) h fl_RX8_21 rfl rfl dX8_touch_146 ?_
                refine k_iload (pc := 149) h dX8_touch_149 3 rfl ?_
                refine k_iload_n (pc := 151) h dX8_touch_151 rfl 2 rfl ?_
                obtain ⟨v23, hj, hf⟩ := ob_s hf
                have kj152 : sh_K G shX 165 [(0, .ref 56), (1, .int p1), (2, .int p2), (5, .int v11)] [.int v23, .int v11, .ref 60] s12 := by
                  obtain ⟨g24, hf⟩ := gu_s hf
                  obtain ⟨s25, es25, hf⟩ := lb_s hf
                  refine k_zast (pc := 165) (n := 300) h rfl g24 dX8_touch_165 ?_
                  refine k_heap es25 ?_
                  obtain rfl := so1 hf
                  exact k_drop [0, 1, 2, 3] rfl kj75
                clear hf
                have hf := hj
                clear hj
                refine k_if_ne (pc := 152) (tgt := 160) h dX8_touch_152 rfl (fun hc => ?_) (fun hc => ?_)
                · have hf := it_n hc hf
                  refine k_iconst (pc := 160) h dX8_touch_160 kc_iconst_1 ?_
                  refine k_goto (pc := 161) (tgt := 165) h dX8_touch_161 rfl ?_
                  obtain rfl := so1 hf
                  exact k_drop [0, 1, 2, 3] rfl kj152
                · have hf := it_p hc hf
                  refine k_iload (pc := 155) h dX8_touch_155 4 rfl ?_
                  refine k_if_eq (pc := 157) (tgt := 164) h dX8_touch_157 rfl (fun hc => ?_) (fun hc => ?_)
                  · have hf := it_p hc hf
                    refine k_iconst (pc := 164) h dX8_touch_164 kc_iconst_0 ?_
                    obtain rfl := so1 hf
                    exact k_drop [0, 1, 2, 3] rfl kj152
                  · have hf := it_n hc hf
                    refine k_iconst (pc := 160) h dX8_touch_160 kc_iconst_1 ?_
                    refine k_goto (pc := 161) (tgt := 165) h dX8_touch_161 rfl ?_
                    obtain rfl := so1 hf
                    exact k_drop [0, 1, 2, 3] rfl kj152
              clear hf
              have hf := hj
              clear hj
              refine k_icmp_eq (pc := 114) (tgt := 138) h dX8_touch_114 rfl (fun hc => ?_) (fun hc => ?_)
              · have hf := it_p hc hf
                refine k_iconst (pc := 138) h dX8_touch_138 kc_iconst_1 ?_
                refine k_goto (pc := 139) (tgt := 143) h dX8_touch_139 rfl ?_
                obtain rfl := so1 hf
                exact k_drop [0, 1, 2, 3] rfl kj114
              · have hf := it_n hc hf
                refine k_aload_n (pc := 117) h dX8_touch_117 rfl 0 rfl ?_
                refine k_getR (pc := 118) h fl_RX8_9 rfl rfl dX8_touch_118 ?_
                refine k_iload (pc := 121) h dX8_touch_121 3 rfl ?_
                obtain ⟨g21, hf⟩ := gu_s hf
                refine k_iald (pc := 123) (n := 300) h rfl g21 dX8_touch_123 ?_
                refine k_iconst (pc := 124) h dX8_touch_124 kc_iconst_5 ?_
                refine k_icmp_ne (pc := 125) (tgt := 142) h dX8_touch_125 rfl (fun hc => ?_) (fun hc => ?_)
                · have hf := it_n hc hf
                  refine k_iconst (pc := 142) h dX8_touch_142 kc_iconst_0 ?_
                  obtain rfl := so1 hf
                  exact k_drop [0, 1, 2, 3] rfl kj114
                · have hf := it_p hc hf
                  refine k_aload_n (pc := 128) h dX8_touch_128 rfl 0 rfl ?_
                  refine k_getR (pc := 129) h fl_RX8_25 rfl rfl dX8_touch_129 ?_
                  refine k_iload (pc := 132) h dX8_touch_132 3 rfl ?_
                  obtain ⟨g22, hf⟩ := gu_s hf
                  refine k_zald (pc := 134) (n := 300) h rfl g22 dX8_touch_134 ?_
                  refine k_if_eq (pc := 135) (tgt := 142) h dX8_touch_135 rfl (fun hc => ?_) (fun hc => ?_)
                  · have hf := it_p hc hf
                    refine k_iconst (pc := 142) h dX8_touch_142 kc_iconst_0 ?_
                    obtain rfl := so1 hf
                    exact k_drop [0, 1, 2, 3] rfl kj114
                  · have hf := it_n hc hf
                    refine k_iconst (pc := 138) h dX8_touch_138 kc_iconst_1 ?_
                    refine k_goto (pc := 139) (tgt := 143) h dX8_touch_139 rfl ?_
                    obtain rfl := so1 hf
                    exact k_drop [0, 1, 2, 3] rfl kj114
    · obtain rfl := so1 hf
      exact hret 172 _ dX8_touch_172 trivial
theorem dX8_spotOf_0 : decode cX8_spotOf 0 = .ok (.aload_n 0, 1) := by decide +kernel
theorem dX8_spotOf_1 : decode cX8_spotOf 1 = .ok (.getfield 60, 3) := by decide +kernel
theorem dX8_spotOf_4 : decode cX8_spotOf 4 = .ok (.getfield 122, 3) := by decide +kernel
theorem dX8_spotOf_7 : decode cX8_spotOf 7 = .ok (.iload_n 1, 1) := by decide +kernel
theorem dX8_spotOf_8 : decode cX8_spotOf 8 = .ok (.iaload, 1) := by decide +kernel
theorem dX8_spotOf_9 : decode cX8_spotOf 9 = .ok (.istore_n 3, 1) := by decide +kernel
theorem dX8_spotOf_10 : decode cX8_spotOf 10 = .ok (.iload_n 2, 1) := by decide +kernel
theorem dX8_spotOf_11 : decode cX8_spotOf 11 = .ok (.iconst (-1), 1) := by decide +kernel
theorem dX8_spotOf_12 : decode cX8_spotOf 12 = .ok (.if_icmp .ne 19, 3) := by decide +kernel
theorem dX8_spotOf_15 : decode cX8_spotOf 15 = .ok (.aload_n 0, 1) := by decide +kernel
theorem dX8_spotOf_16 : decode cX8_spotOf 16 = .ok (.getfield 60, 3) := by decide +kernel
theorem dX8_spotOf_19 : decode cX8_spotOf 19 = .ok (.getfield 89, 3) := by decide +kernel
theorem dX8_spotOf_22 : decode cX8_spotOf 22 = .ok (.iload_n 1, 1) := by decide +kernel
theorem dX8_spotOf_23 : decode cX8_spotOf 23 = .ok (.iaload, 1) := by decide +kernel
theorem dX8_spotOf_24 : decode cX8_spotOf 24 = .ok (.iconst 3, 1) := by decide +kernel
theorem dX8_spotOf_25 : decode cX8_spotOf 25 = .ok (.imul, 1) := by decide +kernel
theorem dX8_spotOf_26 : decode cX8_spotOf 26 = .ok (.iload_n 3, 1) := by decide +kernel
theorem dX8_spotOf_27 : decode cX8_spotOf 27 = .ok (.iconst 3, 1) := by decide +kernel
theorem dX8_spotOf_28 : decode cX8_spotOf 28 = .ok (.irem, 1) := by decide +kernel
theorem dX8_spotOf_29 : decode cX8_spotOf 29 = .ok (.iadd, 1) := by decide +kernel
theorem dX8_spotOf_30 : decode cX8_spotOf 30 = .ok (.ireturn, 1) := by decide +kernel
theorem dX8_spotOf_31 : decode cX8_spotOf 31 = .ok (.aload_n 0, 1) := by decide +kernel
theorem dX8_spotOf_32 : decode cX8_spotOf 32 = .ok (.getfield 15, 3) := by decide +kernel
theorem dX8_spotOf_35 : decode cX8_spotOf 35 = .ok (.iload_n 2, 1) := by decide +kernel
theorem dX8_spotOf_36 : decode cX8_spotOf 36 = .ok (.iaload, 1) := by decide +kernel
theorem dX8_spotOf_37 : decode cX8_spotOf 37 = .ok (.iconst 3, 1) := by decide +kernel
theorem dX8_spotOf_38 : decode cX8_spotOf 38 = .ok (.irem, 1) := by decide +kernel
theorem dX8_spotOf_39 : decode cX8_spotOf 39 = .ok (.ifCond .ne 7, 3) := by decide +kernel
theorem dX8_spotOf_42 : decode cX8_spotOf 42 = .ok (.iconst 1, 1) := by decide +kernel
theorem dX8_spotOf_43 : decode cX8_spotOf 43 = .ok (.goto 4, 3) := by decide +kernel
theorem dX8_spotOf_46 : decode cX8_spotOf 46 = .ok (.iconst 0, 1) := by decide +kernel
theorem dX8_spotOf_47 : decode cX8_spotOf 47 = .ok (.istore 4, 2) := by decide +kernel
theorem dX8_spotOf_49 : decode cX8_spotOf 49 = .ok (.iload 4, 2) := by decide +kernel
theorem dX8_spotOf_51 : decode cX8_spotOf 51 = .ok (.ifCond .eq 16, 3) := by decide +kernel
theorem dX8_spotOf_54 : decode cX8_spotOf 54 = .ok (.aload_n 0, 1) := by decide +kernel
theorem dX8_spotOf_55 : decode cX8_spotOf 55 = .ok (.getfield 15, 3) := by decide +kernel
theorem dX8_spotOf_58 : decode cX8_spotOf 58 = .ok (.iload_n 2, 1) := by decide +kernel
theorem dX8_spotOf_59 : decode cX8_spotOf 59 = .ok (.iaload, 1) := by decide +kernel
theorem dX8_spotOf_60 : decode cX8_spotOf 60 = .ok (.iload_n 3, 1) := by decide +kernel
theorem dX8_spotOf_61 : decode cX8_spotOf 61 = .ok (.iadd, 1) := by decide +kernel
theorem dX8_spotOf_62 : decode cX8_spotOf 62 = .ok (.iconst 3, 1) := by decide +kernel
theorem dX8_spotOf_63 : decode cX8_spotOf 63 = .ok (.isub, 1) := by decide +kernel
theorem dX8_spotOf_64 : decode cX8_spotOf 64 = .ok (.goto 9, 3) := by decide +kernel
theorem dX8_spotOf_67 : decode cX8_spotOf 67 = .ok (.aload_n 0, 1) := by decide +kernel
theorem dX8_spotOf_68 : decode cX8_spotOf 68 = .ok (.getfield 15, 3) := by decide +kernel
theorem dX8_spotOf_71 : decode cX8_spotOf 71 = .ok (.iload_n 2, 1) := by decide +kernel
theorem dX8_spotOf_72 : decode cX8_spotOf 72 = .ok (.iaload, 1) := by decide +kernel
theorem dX8_spotOf_73 : decode cX8_spotOf 73 = .ok (.ireturn, 1) := by decide +kernel
def f_X8_spotOf (p1 : Int32) (p2 : Int32) (s0 : sh_S) : Option (Int32) := gu (inb p1 24) (lb ((s0 7 (ix p1))) (fun v2 => (if p2 = (-1 : Int32) then gu (inb p1 24) (some (((s0 6 (ix p1)) * (3 : Int32)) + (v2 - v2 / (3 : Int32) * (3 : Int32)))) else gu (inb p2 300) (lb ((s0 58 (ix p2))) (fun v4 => ob (if (v4 - v4 / (3 : Int32) * (3 : Int32)) = 0 then some (1 : Int32) else some (0 : Int32)) (fun v5 => ob (if v5 = 0 then gu (inb p2 300) (some (s0 58 (ix p2))) else gu (inb p2 300) (some (((s0 58 (ix p2)) + v2) - (3 : Int32)))) (fun v6 => some v6)))))))
set_option maxRecDepth 100000 in
set_option maxHeartbeats 4000000 in
theorem c_X8_spotOf (p1 : Int32) (p2 : Int32) (s0 : sh_S) (r : Int32) (hf : f_X8_spotOf p1 p2 s0 = some r) : Ctr yX8_spotOf cX8_spotOf 5 (some .int) ({ frames := 0, cells := 0, slots := 0, locals := 0 } : Room) shX [.ref 56, .int p1, .int p2] s0 (some (.int r)) s0 := by
  refine Ctr.mk (ri := .ireturn) (by decide) (Nat.le_of_ble_eq_true rfl) (Rt_i r) ?_
  intro G h hL hR hret
  refine k_drop (lv' := [(0, .ref 56), (1, .int p1), (2, .int p2)]) [0, 1, 2] rfl ?_
  unfold f_X8_spotOf at hf
  refine k_aload_n (pc := 0) h dX8_spotOf_0 rfl 0 rfl ?_
  refine k_getR (pc := 1) h fl_RX8_60 rfl rfl dX8_spotOf_1 ?_
  refine k_getR (pc := 4) h fl_RX8_122 rfl rfl dX8_spotOf_4 ?_
  refine k_iload_n (pc := 7) h dX8_spotOf_7 rfl 1 rfl ?_
  obtain ⟨g1, hf⟩ := gu_s hf
  refine k_iald (pc := 8) (n := 24) h rfl g1 dX8_spotOf_8 ?_
  obtain ⟨v2, ev2, hf⟩ := lb_s hf
  refine k_top ev2 ?_
  refine k_istore_n (pc := 9) h dX8_spotOf_9 rfl (nk hL (by decide)) (lv' := [(0, .ref 56), (1, .int p1), (2, .int p2), (3, .int v2)]) rfl ?_
  refine k_iload_n (pc := 10) h dX8_spotOf_10 rfl 2 rfl ?_
  refine k_iconst (pc := 11) h dX8_spotOf_11 kc_iconst_m1 ?_
  refine k_icmp_ne (pc := 12) (tgt := 31) h dX8_spotOf_12 rfl (fun hc => ?_) (fun hc => ?_)
  · have hf := it_n hc hf
    refine k_aload_n (pc := 31) h dX8_spotOf_31 rfl 0 rfl ?_
    refine k_getR (pc := 32) h fl_RX8_15 rfl rfl dX8_spotOf_32 ?_
    refine k_iload_n (pc := 35) h dX8_spotOf_35 rfl 2 rfl ?_
    obtain ⟨g3, hf⟩ := gu_s hf
    refine k_iald (pc := 36) (n := 300) h rfl g3 dX8_spotOf_36 ?_
    refine k_iconst (pc := 37) h dX8_spotOf_37 kc_iconst_3 ?_
    obtain ⟨v4, ev4, hf⟩ := lb_s hf
    refine k_sec ev4 ?_
    refine k_irem (pc := 38) h dX8_spotOf_38 (by decide) ?_
    obtain ⟨v5, hj, hf⟩ := ob_s hf
    have kj39 : sh_K G shX 47 [(0, .ref 56), (2, .int p2), (3, .int v2)] [.int v5] s0 := by
      refine k_istore (pc := 47) h dX8_spotOf_47 (nk hL (by decide)) (lv' := [(0, .ref 56), (2, .int p2), (3, .int v2), (4, .int v5)]) rfl ?_
      refine k_iload (pc := 49) h dX8_spotOf_49 3 rfl ?_
      obtain ⟨v6, hj, hf⟩ := ob_s hf
      have kj51 : sh_K G shX 73 [] [.int v6] s0 := by
        obtain rfl := so1 hf
        exact hret 73 _ dX8_spotOf_73 trivial
      clear hf
      have hf := hj
      clear hj
      refine k_if_eq (pc := 51) (tgt := 67) h dX8_spotOf_51 rfl (fun hc => ?_) (fun hc => ?_)
      · have hf := it_p hc hf
        refine k_aload_n (pc := 67) h dX8_spotOf_67 rfl 0 rfl ?_
        refine k_getR (pc := 68) h fl_RX8_15 rfl rfl dX8_spotOf_68 ?_
        refine k_iload_n (pc := 71) h dX8_spotOf_71 rfl 1 rfl ?_
        obtain ⟨g7, hf⟩ := gu_s hf
        refine k_iald (pc := 72) (n := 300) h rfl g7 dX8_spotOf_72 ?_
        obtain rfl := so1 hf
        exact k_drop [] rfl kj51
      · have hf := it_n hc hf
        refine k_aload_n (pc := 54) h dX8_spotOf_54 rfl 0 rfl ?_
        refine k_getR (pc := 55) h fl_RX8_15 rfl rfl dX8_spotOf_55 ?_
        refine k_iload_n (pc := 58) h dX8_spotOf_58 rfl 1 rfl ?_
        obtain ⟨g8, hf⟩ := gu_s hf
        refine k_iald (pc := 59) (n := 300) h rfl g8 dX8_spotOf_59 ?_
        refine k_iload_n (pc := 60) h dX8_spotOf_60 rfl 2 rfl ?_
        refine k_iadd (pc := 61) h dX8_spotOf_61 ?_
        refine k_iconst (pc := 62) h dX8_spotOf_62 kc_iconst_3 ?_
        refine k_isub (pc := 63) h dX8_spotOf_63 ?_
        refine k_goto (pc := 64) (tgt := 73) h dX8_spotOf_64 rfl ?_
        obtain rfl := so1 hf
        exact k_drop [] rfl kj51
    clear hf
    have hf := hj
    clear hj
    refine k_if_ne (pc := 39) (tgt := 46) h dX8_spotOf_39 rfl (fun hc => ?_) (fun hc => ?_)
    · have hf := it_n hc hf
      refine k_iconst (pc := 46) h dX8_spotOf_46 kc_iconst_0 ?_
      obtain rfl := so1 hf
      exact k_drop [0, 2, 3] rfl kj39
    · have hf := it_p hc hf
      refine k_iconst (pc := 42) h dX8_spotOf_42 kc_iconst_1 ?_
      refine k_goto (pc := 43) (tgt := 47) h dX8_spotOf_43 rfl ?_
      obtain rfl := so1 hf
      exact k_drop [0, 2, 3] rfl kj39
  · have hf := it_p hc hf
    refine k_aload_n (pc := 15) h dX8_spotOf_15 rfl 0 rfl ?_
    refine k_getR (pc := 16) h fl_RX8_60 rfl rfl dX8_spotOf_16 ?_
    refine k_getR (pc := 19) h fl_RX8_89 rfl rfl dX8_spotOf_19 ?_
    refine k_iload_n (pc := 22) h dX8_spotOf_22 rfl 1 rfl ?_
    obtain ⟨g9, hf⟩ := gu_s hf
    refine k_iald (pc := 23) (n := 24) h rfl g9 dX8_spotOf_23 ?_
    refine k_iconst (pc := 24) h dX8_spotOf_24 kc_iconst_3 ?_
    refine k_imul (pc := 25) h dX8_spotOf_25 ?_
    refine k_iload_n (pc := 26) h dX8_spotOf_26 rfl 3 rfl ?_
    refine k_iconst (pc := 27) h dX8_spotOf_27 kc_iconst_3 ?_
    refine k_irem (pc := 28) h dX8_spotOf_28 (by decide) ?_
    refine k_iadd (pc := 29) h dX8_spotOf_29 ?_
    obtain rfl := so1 hf
    exact hret 30 _ dX8_spotOf_30 trivial
