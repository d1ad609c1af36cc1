theorem dX10_puts_0 : decode cX10_puts 0 = .ok (.aload_n 0, 1) := by decide +kernel
theorem dX10_puts_1 : decode cX10_puts 1 = .ok (.getfield 7, 3) := by decide +kernel
theorem dX10_puts_4 : decode cX10_puts 4 = .ok (.iload_n 1, 1) := by decide +kernel
theorem dX10_puts_5 : decode cX10_puts 5 = .ok (.iload_n 2, 1) := by decide +kernel
theorem dX10_puts_6 : decode cX10_puts 6 = .ok (.iastore, 1) := by decide +kernel
theorem dX10_puts_7 : decode cX10_puts 7 = .ok (.aload_n 0, 1) := by decide +kernel
theorem dX10_puts_8 : decode cX10_puts 8 = .ok (.getfield 13, 3) := by decide +kernel
theorem dX10_puts_11 : decode cX10_puts 11 = .ok (.iload_n 1, 1) := by decide +kernel
theorem dX10_puts_12 : decode cX10_puts 12 = .ok (.iload_n 3, 1) := by decide +kernel
theorem dX10_puts_13 : decode cX10_puts 13 = .ok (.iastore, 1) := by decide +kernel
theorem dX10_puts_14 : decode cX10_puts 14 = .ok (.aload_n 0, 1) := by decide +kernel
theorem dX10_puts_15 : decode cX10_puts 15 = .ok (.getfield 16, 3) := by decide +kernel
theorem dX10_puts_18 : decode cX10_puts 18 = .ok (.iload_n 1, 1) := by decide +kernel
theorem dX10_puts_19 : decode cX10_puts 19 = .ok (.iload 4, 2) := by decide +kernel
theorem dX10_puts_21 : decode cX10_puts 21 = .ok (.iastore, 1) := by decide +kernel
theorem dX10_puts_22 : decode cX10_puts 22 = .ok (.aload_n 0, 1) := by decide +kernel
theorem dX10_puts_23 : decode cX10_puts 23 = .ok (.getfield 19, 3) := by decide +kernel
theorem dX10_puts_26 : decode cX10_puts 26 = .ok (.iload_n 1, 1) := by decide +kernel
theorem dX10_puts_27 : decode cX10_puts 27 = .ok (.iload 5, 2) := by decide +kernel
theorem dX10_puts_29 : decode cX10_puts 29 = .ok (.iastore, 1) := by decide +kernel
theorem dX10_puts_30 : decode cX10_puts 30 = .ok (.return_, 1) := by decide +kernel
def f_X10_puts (p1 : Int32) (p2 : Int32) (p3 : Int32) (p4 : Int32) (p5 : Int32) (s0 : sh_S) : Option (sh_S) := gu (inb p1 24) (lb (ur s0 1 (upd (s0 1) (ix p1) p2)) (fun s2 => gu (inb p1 24) (lb (ur s2 2 (upd (s2 2) (ix p1) p3)) (fun s4 => gu (inb p1 24) (lb (ur s4 3 (upd (s4 3) (ix p1) p4)) (fun s6 => gu (inb p1 24) (lb (ur s6 4 (upd (s6 4) (ix p1) p5)) (fun s8 => some s8))))))))
set_option maxRecDepth 100000 in
set_option maxHeartbeats 4000000 in
theorem c_X10_puts (p1 : Int32) (p2 : Int32) (p3 : Int32) (p4 : Int32) (p5 : Int32) (s0 : sh_S) (s9x : sh_S) (hf : f_X10_puts p1 p2 p3 p4 p5 s0 = some s9x) : Ctr yX10_puts cX10_puts 6 none ({ frames := 0, cells := 0, slots := 0, locals := 0 } : Room) shM [.ref 0, .int p1, .int p2, .int p3, .int p4, .int p5] s0 none s9x := by
  refine Ctr.mk (ri := .return_) (by decide) (Nat.le_of_ble_eq_true rfl) (Rt_v) ?_
  intro G h hL hR hret
  refine k_drop (lv' := [(0, .ref 0), (1, .int p1), (2, .int p2), (3, .int p3), (4, .int p4), (5, .int p5)]) [0, 1, 2, 3, 4, 5] rfl ?_
  unfold f_X10_puts at hf
  refine k_aload_n (pc := 0) h dX10_puts_0 rfl 0 rfl ?_
  refine k_getR (pc := 1) h fl_RX10_7 rfl rfl dX10_puts_1 ?_
  refine k_iload_n (pc := 4) h dX10_puts_4 rfl 1 rfl ?_
  refine k_iload_n (pc := 5) h dX10_puts_5 rfl 2 rfl ?_
  obtain ⟨g1, hf⟩ := gu_s hf
  obtain ⟨s2, es2, hf⟩ := lb_s hf
  refine k_iast (pc := 6) (n := 24) h rfl g1 dX10_puts_6 ?_
  refine k_heap es2 ?_
  refine k_aload_n (pc := 7) h dX10_puts_7 rfl 0 rfl ?_
  refine k_getR (pc := 8) h fl_RX10_13 rfl rfl dX10_puts_8 ?_
  refine k_iload_n (pc := 11) h dX10_puts_11 rfl 1 rfl ?_
  refine k_iload_n (pc := 12) h dX10_puts_12 rfl 3 rfl ?_
  obtain ⟨g3, hf⟩ := gu_s hf
  obtain ⟨s4, es4, hf⟩ := lb_s hf
  refine k_iast (pc := 13) (n := 24) h rfl g3 dX10_puts_13 ?_
  refine k_heap es4 ?_
  refine k_aload_n (pc := 14) h dX10_puts_14 rfl 0 rfl ?_
  refine k_getR (pc := 15) h fl_RX10_16 rfl rfl dX10_puts_15 ?_
  refine k_iload_n (pc := 18) h dX10_puts_18 rfl 1 rfl ?_
  refine k_iload (pc := 19) h dX10_puts_19 4 rfl ?_
  obtain ⟨g5, hf⟩ := gu_s hf
  obtain ⟨s6, es6, hf⟩ := lb_s hf
  refine k_iast (pc := 21) (n := 24) h rfl g5 dX10_puts_21 ?_
  refine k_heap es6 ?_
  refine k_aload_n (pc := 22) h dX10_puts_22 rfl 0 rfl ?_
  refine k_getR (pc := 23) h fl_RX10_19 rfl rfl dX10_puts_23 ?_
  refine k_iload_n (pc := 26) h dX10_puts_26 rfl 1 rfl ?_
  refine k_iload (pc := 27) h dX10_puts_27 5 rfl ?_
  obtain ⟨g7, hf⟩ := gu_s hf
  obtain ⟨s8, es8, hf⟩ := lb_s hf
  refine k_iast (pc := 29) (n := 24) h rfl g7 dX10_puts_29 ?_
  refine k_heap es8 ?_
  obtain rfl := so1 hf
  exact hret 30 _ dX10_puts_30 trivial
theorem dX10_add_0 : decode cX10_add 0 = .ok (.iload_n 1, 1) := by decide +kernel
theorem dX10_add_1 : decode cX10_add 1 = .ok (.iload_n 2, 1) := by decide +kernel
theorem dX10_add_2 : decode cX10_add 2 = .ok (.iload_n 3, 1) := by decide +kernel
theorem dX10_add_3 : decode cX10_add 3 = .ok (.iload 4, 2) := by decide +kernel
theorem dX10_add_5 : decode cX10_add 5 = .ok (.invokestatic 97, 3) := by decide +kernel
theorem dX10_add_8 : decode cX10_add 8 = .ok (.ifCond .ne 6, 3) := by decide +kernel
theorem dX10_add_11 : decode cX10_add 11 = .ok (.bipush (-2), 2) := by decide +kernel
theorem dX10_add_13 : decode cX10_add 13 = .ok (.ireturn, 1) := by decide +kernel
theorem dX10_add_14 : decode cX10_add 14 = .ok (.aload_n 0, 1) := by decide +kernel
theorem dX10_add_15 : decode cX10_add 15 = .ok (.getfield 101, 3) := by decide +kernel
theorem dX10_add_18 : decode cX10_add 18 = .ok (.bipush 24, 2) := by decide +kernel
theorem dX10_add_20 : decode cX10_add 20 = .ok (.if_icmp .ne 6, 3) := by decide +kernel
theorem dX10_add_23 : decode cX10_add 23 = .ok (.bipush (-4), 2) := by decide +kernel
theorem dX10_add_25 : decode cX10_add 25 = .ok (.ireturn, 1) := by decide +kernel
theorem dX10_add_26 : decode cX10_add 26 = .ok (.aload_n 0, 1) := by decide +kernel
theorem dX10_add_27 : decode cX10_add 27 = .ok (.aload_n 0, 1) := by decide +kernel
theorem dX10_add_28 : decode cX10_add 28 = .ok (.getfield 101, 3) := by decide +kernel
theorem dX10_add_31 : decode cX10_add 31 = .ok (.iload_n 1, 1) := by decide +kernel
theorem dX10_add_32 : decode cX10_add 32 = .ok (.iload_n 2, 1) := by decide +kernel
theorem dX10_add_33 : decode cX10_add 33 = .ok (.iload_n 3, 1) := by decide +kernel
theorem dX10_add_34 : decode cX10_add 34 = .ok (.iload 4, 2) := by decide +kernel
theorem dX10_add_36 : decode cX10_add 36 = .ok (.invokevirtual 105, 3) := by decide +kernel
theorem dX10_add_39 : decode cX10_add 39 = .ok (.aload_n 0, 1) := by decide +kernel
theorem dX10_add_40 : decode cX10_add 40 = .ok (.dup, 1) := by decide +kernel
theorem dX10_add_41 : decode cX10_add 41 = .ok (.getfield 101, 3) := by decide +kernel
theorem dX10_add_44 : decode cX10_add 44 = .ok (.iconst 1, 1) := by decide +kernel
theorem dX10_add_45 : decode cX10_add 45 = .ok (.iadd, 1) := by decide +kernel
theorem dX10_add_46 : decode cX10_add 46 = .ok (.putfield 101, 3) := by decide +kernel
theorem dX10_add_49 : decode cX10_add 49 = .ok (.aload_n 0, 1) := by decide +kernel
theorem dX10_add_50 : decode cX10_add 50 = .ok (.getfield 101, 3) := by decide +kernel
theorem dX10_add_53 : decode cX10_add 53 = .ok (.ireturn, 1) := by decide +kernel
def f_X10_add (p1 : Int32) (p2 : Int32) (p3 : Int32) (p4 : Int32) (s0 : sh_S) : Option (Int32 × sh_S) := ob (f_X10_isWell p1 p2 p3 p4) (fun v1 => (if v1 = 0 then some ((-2 : Int32), s0) else (if (s0 0 0) = (24 : Int32) then some ((-4 : Int32), s0) else ob (f_X10_puts (s0 0 0) p1 p2 p3 p4 s0) (fun s2 => lb (ur s2 0 (upd (s2 0) 0 ((s2 0 0) + (1 : Int32)))) (fun s3 => some ((s3 0 0), s3))))))
set_option maxRecDepth 100000 in
set_option maxHeartbeats 4000000 in
theorem c_X10_add (p1 : Int32) (p2 : Int32) (p3 : Int32) (p4 : Int32) (s0 : sh_S) (r : Int32) (s9x : sh_S) (hf : f_X10_add p1 p2 p3 p4 s0 = some (r, s9x)) : Ctr yX10_add cX10_add 5 (some .int) ({ frames := 2, cells := 0, slots := 0, locals := 45 } : Room) shM [.ref 0, .int p1, .int p2, .int p3, .int p4] s0 (some (.int r)) s9x := by
  refine Ctr.mk (ri := .ireturn) (by decide) (Nat.le_of_ble_eq_true rfl) (Rt_i r) ?_
  intro G h hL hR hret
  refine k_drop (lv' := [(0, .ref 0), (1, .int p1), (2, .int p2), (3, .int p3), (4, .int p4)]) [0, 1, 2, 3, 4] rfl ?_
  unfold f_X10_add at hf
  refine k_iload_n (pc := 0) h dX10_add_0 rfl 1 rfl ?_
  refine k_iload_n (pc := 1) h dX10_add_1 rfl 2 rfl ?_
  refine k_iload_n (pc := 2) h dX10_add_2 rfl 3 rfl ?_
  refine k_iload (pc := 3) h dX10_add_3 4 rfl ?_
  obtain ⟨v1, cv1, hf⟩ := ob_s hf
  refine k_callSp (pc := 5) h cs_RX10_97 (c_X10_isWell p1 p2 p3 p4 _ v1 cv1) rfl rfl (st1 := [.int v1]) rfl ⟨rfl, rfl⟩ (rk hR (Nat.le_of_ble_eq_true rfl) (Nat.le_of_ble_eq_true rfl)) (Nat.le_of_ble_eq_true rfl) dX10_add_5 ?_
  refine k_if_ne (pc := 8) (tgt := 14) h dX10_add_8 rfl (fun hc => ?_) (fun hc => ?_)
  · have hf := it_n hc hf
    refine k_aload_n (pc := 14) h dX10_add_14 rfl 0 rfl ?_
    refine k_getI (pc := 15) h fl_RX10_101 rfl rfl dX10_add_15 ?_
    refine k_bipush (pc := 18) h dX10_add_18 kc_bipush_24 ?_
    refine k_icmp_ne (pc := 20) (tgt := 26) h dX10_add_20 rfl (fun hc => ?_) (fun hc => ?_)
    · have hf := it_n hc hf
      refine k_aload_n (pc := 26) h dX10_add_26 rfl 0 rfl ?_
      refine k_aload_n (pc := 27) h dX10_add_27 rfl 0 rfl ?_
      refine k_getI (pc := 28) h fl_RX10_101 rfl rfl dX10_add_28 ?_
      refine k_iload_n (pc := 31) h dX10_add_31 rfl 1 rfl ?_
      refine k_iload_n (pc := 32) h dX10_add_32 rfl 2 rfl ?_
      refine k_iload_n (pc := 33) h dX10_add_33 rfl 3 rfl ?_
      refine k_iload (pc := 34) h dX10_add_34 4 rfl ?_
      obtain ⟨s2, cs2, hf⟩ := ob_s hf
      refine k_callV0 (pc := 36) h cv_RX10_105 (c_X10_puts (s0 0 0) p1 p2 p3 p4 s0 s2 cs2) rfl rfl rfl (st1 := []) rfl ⟨rfl, rfl⟩ (rk hR (Nat.le_of_ble_eq_true rfl) (Nat.le_of_ble_eq_true rfl)) (Nat.le_of_ble_eq_true rfl) dX10_add_36 ?_
      refine k_aload_n (pc := 39) h dX10_add_39 rfl 0 rfl ?_
      refine k_dup (pc := 40) h dX10_add_40 rfl ?_
      refine k_getI (pc := 41) h fl_RX10_101 rfl rfl dX10_add_41 ?_
      refine k_iconst (pc := 44) h dX10_add_44 kc_iconst_1 ?_
      refine k_iadd (pc := 45) h dX10_add_45 ?_
      obtain ⟨s3, es3, hf⟩ := lb_s hf
      refine k_put (pc := 46) h fl_RX10_101 fp_X10_0 rfl rfl rfl rfl dX10_add_46 ?_
      refine k_heap es3 ?_
      refine k_aload_n (pc := 49) h dX10_add_49 rfl 0 rfl ?_
      refine k_getI (pc := 50) h fl_RX10_101 rfl rfl dX10_add_50 ?_
      obtain ⟨rfl, rfl⟩ := so2 hf
      exact hret 53 _ dX10_add_53 trivial
    · have hf := it_p hc hf
      refine k_bipush (pc := 23) h dX10_add_23 kc_bipush_m4 ?_
      obtain ⟨rfl, rfl⟩ := so2 hf
      exact hret 25 _ dX10_add_25 trivial
  · have hf := it_p hc hf
    refine k_bipush (pc := 11) h dX10_add_11 kc_bipush_m2 ?_
    obtain ⟨rfl, rfl⟩ := so2 hf
    exact hret 13 _ dX10_add_13 trivial
theorem dX10_isPoint_0 : decode cX10_isPoint 0 = .ok (.iload_n 1, 1) := by decide +kernel
theorem dX10_isPoint_1 : decode cX10_isPoint 1 = .ok (.iconst 0, 1) := by decide +kernel
theorem dX10_isPoint_2 : decode cX10_isPoint 2 = .ok (.aload_n 0, 1) := by decide +kernel
theorem dX10_isPoint_3 : decode cX10_isPoint 3 = .ok (.getfield 101, 3) := by decide +kernel
theorem dX10_isPoint_6 : decode cX10_isPoint 6 = .ok (.iconst 1, 1) := by decide +kernel
theorem dX10_isPoint_7 : decode cX10_isPoint 7 = .ok (.isub, 1) := by decide +kernel
theorem dX10_isPoint_8 : decode cX10_isPoint 8 = .ok (.invokestatic 93, 3) := by decide +kernel
theorem dX10_isPoint_11 : decode cX10_isPoint 11 = .ok (.ireturn, 1) := by decide +kernel
def f_X10_isPoint (p1 : Int32) (s0 : sh_S) : Option (Int32) := ob (f_X10_in p1 (0 : Int32) ((s0 0 0) - (1 : Int32))) (fun v1 => gu (v1 = 0 ∨ v1 = 1) (some v1))
set_option maxRecDepth 100000 in
set_option maxHeartbeats 4000000 in
theorem c_X10_isPoint (p1 : Int32) (s0 : sh_S) (r : Int32) (hf : f_X10_isPoint p1 s0 = some r) : Ctr yX10_isPoint cX10_isPoint 2 (some .boolean) ({ frames := 1, cells := 0, slots := 0, locals := 22 } : Room) shM [.ref 0, .int p1] s0 (some (.int r)) s0 := by
  refine Ctr.mk (ri := .ireturn) (by decide) (Nat.le_of_ble_eq_true rfl) (Rt_z r) ?_
  intro G h hL hR hret
  refine k_drop (lv' := [(0, .ref 0), (1, .int p1)]) [0, 1] rfl ?_
  unfold f_X10_isPoint at hf
  refine k_iload_n (pc := 0) h dX10_isPoint_0 rfl 1 rfl ?_
  refine k_iconst (pc := 1) h dX10_isPoint_1 kc_iconst_0 ?_
  refine k_aload_n (pc := 2) h dX10_isPoint_2 rfl 0 rfl ?_
  refine k_getI (pc := 3) h fl_RX10_101 rfl rfl dX10_isPoint_3 ?_
  refine k_iconst (pc := 6) h dX10_isPoint_6 kc_iconst_1 ?_
  refine k_isub (pc := 7) h dX10_isPoint_7 ?_
  obtain ⟨v1, cv1, hf⟩ := ob_s hf
  refine k_callSp (pc := 8) h cs_RX10_93 (c_X10_in p1 (0 : Int32) ((s0 0 0) - (1 : Int32)) _ v1 cv1) rfl rfl (st1 := [.int v1]) rfl ⟨rfl, rfl⟩ (rk hR (Nat.le_of_ble_eq_true rfl) (Nat.le_of_ble_eq_true rfl)) (Nat.le_of_ble_eq_true rfl) dX10_isPoint_8 ?_
  obtain ⟨g2, hf⟩ := gu_s hf
  obtain rfl := so1 hf
  exact hret 11 _ dX10_isPoint_11 g2
theorem dX10_alter_0 : decode cX10_alter 0 = .ok (.aload_n 0, 1) := by decide +kernel
theorem dX10_alter_1 : decode cX10_alter 1 = .ok (.iload_n 1, 1) := by decide +kernel
theorem dX10_alter_2 : decode cX10_alter 2 = .ok (.invokevirtual 109, 3) := by decide +kernel
theorem dX10_alter_5 : decode cX10_alter 5 = .ok (.ifCond .eq 15, 3) := by decide +kernel
theorem dX10_alter_8 : decode cX10_alter 8 = .ok (.iload_n 2, 1) := by decide +kernel
theorem dX10_alter_9 : decode cX10_alter 9 = .ok (.iload_n 3, 1) := by decide +kernel
theorem dX10_alter_10 : decode cX10_alter 10 = .ok (.iload 4, 2) := by decide +kernel
theorem dX10_alter_12 : decode cX10_alter 12 = .ok (.iload 5, 2) := by decide +kernel
theorem dX10_alter_14 : decode cX10_alter 14 = .ok (.invokestatic 97, 3) := by decide +kernel
theorem dX10_alter_17 : decode cX10_alter 17 = .ok (.ifCond .ne 6, 3) := by decide +kernel
theorem dX10_alter_20 : decode cX10_alter 20 = .ok (.bipush (-2), 2) := by decide +kernel
theorem dX10_alter_22 : decode cX10_alter 22 = .ok (.ireturn, 1) := by decide +kernel
theorem dX10_alter_23 : decode cX10_alter 23 = .ok (.aload_n 0, 1) := by decide +kernel
theorem dX10_alter_24 : decode cX10_alter 24 = .ok (.iload_n 1, 1) := by decide +kernel
theorem dX10_alter_25 : decode cX10_alter 25 = .ok (.iload_n 2, 1) := by decide +kernel
theorem dX10_alter_26 : decode cX10_alter 26 = .ok (.iload_n 3, 1) := by decide +kernel
theorem dX10_alter_27 : decode cX10_alter 27 = .ok (.iload 4, 2) := by decide +kernel
theorem dX10_alter_29 : decode cX10_alter 29 = .ok (.iload 5, 2) := by decide +kernel
theorem dX10_alter_31 : decode cX10_alter 31 = .ok (.invokevirtual 105, 3) := by decide +kernel
theorem dX10_alter_34 : decode cX10_alter 34 = .ok (.iconst 1, 1) := by decide +kernel
theorem dX10_alter_35 : decode cX10_alter 35 = .ok (.ireturn, 1) := by decide +kernel
def f_X10_alter (p1 : Int32) (p2 : Int32) (p3 : Int32) (p4 : Int32) (p5 : Int32) (s0 : sh_S) : Option (Int32 × sh_S) := ob (f_X10_isPoint p1 s0) (fun v1 => (if v1 = 0 then some ((-2 : Int32), s0) else ob (f_X10_isWell p2 p3 p4 p5) (fun v2 => (if v2 = 0 then some ((-2 : Int32), s0) else ob (f_X10_puts p1 p2 p3 p4 p5 s0) (fun s3 => some ((1 : Int32), s3))))))
set_option maxRecDepth 100000 in
set_option maxHeartbeats 4000000 in
theorem c_X10_alter (p1 : Int32) (p2 : Int32) (p3 : Int32) (p4 : Int32) (p5 : Int32) (s0 : sh_S) (r : Int32) (s9x : sh_S) (hf : f_X10_alter p1 p2 p3 p4 p5 s0 = some (r, s9x)) : Ctr yX10_alter cX10_alter 6 (some .int) ({ frames := 2, cells := 0, slots := 0, locals := 45 } : Room) shM [.ref 0, .int p1, .int p2, .int p3, .int p4, .int p5] s0 (some (.int r)) s9x := by
  refine Ctr.mk (ri := .ireturn) (by decide) (Nat.le_of_ble_eq_true rfl) (Rt_i r) ?_
  intro G h hL hR hret
  refine k_drop (lv' := [(0, .ref 0), (1, .int p1), (2, .int p2), (3, .int p3), (4, .int p4), (5, .int p5)]) [0, 1, 2, 3, 4, 5] rfl ?_
  unfold f_X10_alter at hf
  refine k_aload_n (pc := 0) h dX10_alter_0 rfl 0 rfl ?_
  refine k_iload_n (pc := 1) h dX10_alter_1 rfl 1 rfl ?_
  obtain ⟨v1, cv1, hf⟩ := ob_s hf
  refine k_callV0 (pc := 2) h cv_RX10_109 (c_X10_isPoint p1 s0 v1 cv1) rfl rfl rfl (st1 := [.int v1]) rfl ⟨rfl, rfl⟩ (rk hR (Nat.le_of_ble_eq_true rfl) (Nat.le_of_ble_eq_true rfl)) (Nat.le_of_ble_eq_true rfl) dX10_alter_2 ?_
  refine k_if_eq (pc := 5) (tgt := 20) h dX10_alter_5 rfl (fun hc => ?_) (fun hc => ?_)
  · have hf := it_p hc hf
    refine k_bipush (pc := 20) h dX10_alter_20 kc_bipush_m2 ?_
    obtain ⟨rfl, rfl⟩ := so2 hf
    exact hret 22 _ dX10_alter_22 trivial
  · have hf := it_n hc hf
    refine k_iload_n (pc := 8) h dX10_alter_8 rfl 2 rfl ?_
    refine k_iload_n (pc := 9) h dX10_alter_9 rfl 3 rfl ?_
    refine k_iload (pc := 10) h dX10_alter_10 4 rfl ?_
    refine k_iload (pc := 12) h dX10_alter_12 5 rfl ?_
    obtain ⟨v2, cv2, hf⟩ := ob_s hf
    refine k_callSp (pc := 14) h cs_RX10_97 (c_X10_isWell p2 p3 p4 p5 _ v2 cv2) rfl rfl (st1 := [.int v2]) rfl ⟨rfl, rfl⟩ (rk hR (Nat.le_of_ble_eq_true rfl) (Nat.le_of_ble_eq_true rfl)) (Nat.le_of_ble_eq_true rfl) dX10_alter_14 ?_
    refine k_if_ne (pc := 17) (tgt := 23) h dX10_alter_17 rfl (fun hc => ?_) (fun hc => ?_)
    · have hf := it_n hc hf
      refine k_aload_n (pc := 23) h dX10_alter_23 rfl 0 rfl ?_
      refine k_iload_n (pc := 24) h dX10_alter_24 rfl 1 rfl ?_
      refine k_iload_n (pc := 25) h dX10_alter_25 rfl 2 rfl ?_
      refine k_iload_n (pc := 26) h dX10_alter_26 rfl 3 rfl ?_
      refine k_iload (pc := 27) h dX10_alter_27 4 rfl ?_
      refine k_iload (pc := 29) h dX10_alter_29 5 rfl ?_
      obtain ⟨s3, cs3, hf⟩ := ob_s hf
      refine k_callV0 (pc := 31) h cv_RX10_105 (c_X10_puts p1 p2 p3 p4 p5 s0 s3 cs3) rfl rfl rfl (st1 := []) rfl ⟨rfl, rfl⟩ (rk hR (Nat.le_of_ble_eq_true rfl) (Nat.le_of_ble_eq_true rfl)) (Nat.le_of_ble_eq_true rfl) dX10_alter_31 ?_
      refine k_iconst (pc := 34) h dX10_alter_34 kc_iconst_1 ?_
      obtain ⟨rfl, rfl⟩ := so2 hf
      exact hret 35 _ dX10_alter_35 trivial
    · have hf := it_p hc hf
      refine k_bipush (pc := 20) h dX10_alter_20 kc_bipush_m2 ?_
      obtain ⟨rfl, rfl⟩ := so2 hf
      exact hret 22 _ dX10_alter_22 trivial
theorem dX10_back_0 : decode cX10_back 0 = .ok (.aload_n 0, 1) := by decide +kernel
theorem dX10_back_1 : decode cX10_back 1 = .ok (.getfield 101, 3) := by decide +kernel
theorem dX10_back_4 : decode cX10_back 4 = .ok (.ifCond .ne 6, 3) := by decide +kernel
theorem dX10_back_7 : decode cX10_back 7 = .ok (.bipush (-3), 2) := by decide +kernel
theorem dX10_back_9 : decode cX10_back 9 = .ok (.ireturn, 1) := by decide +kernel
theorem dX10_back_10 : decode cX10_back 10 = .ok (.aload_n 0, 1) := by decide +kernel
theorem dX10_back_11 : decode cX10_back 11 = .ok (.dup, 1) := by decide +kernel
theorem dX10_back_12 : decode cX10_back 12 = .ok (.getfield 101, 3) := by decide +kernel
theorem dX10_back_15 : decode cX10_back 15 = .ok (.iconst 1, 1) := by decide +kernel
theorem dX10_back_16 : decode cX10_back 16 = .ok (.isub, 1) := by decide +kernel
theorem dX10_back_17 : decode cX10_back 17 = .ok (.putfield 101, 3) := by decide +kernel
theorem dX10_back_20 : decode cX10_back 20 = .ok (.aload_n 0, 1) := by decide +kernel
theorem dX10_back_21 : decode cX10_back 21 = .ok (.getfield 101, 3) := by decide +kernel
theorem dX10_back_24 : decode cX10_back 24 = .ok (.ireturn, 1) := by decide +kernel
def f_X10_back  (s0 : sh_S) : Option (Int32 × sh_S) := (if (s0 0 0) = 0 then some ((-3 : Int32), s0) else lb (ur s0 0 (upd (s0 0) 0 ((s0 0 0) - (1 : Int32)))) (fun s1 => some ((s1 0 0), s1)))
set_option maxRecDepth 100000 in
set_option maxHeartbeats 4000000 in
theorem c_X10_back  (s0 : sh_S) (r : Int32) (s9x : sh_S) (hf : f_X10_back  s0 = some (r, s9x)) : Ctr yX10_back cX10_back 1 (some .int) ({ frames := 0, cells := 0, slots := 0, locals := 0 } : Room) shM [.ref 0] s0 (some (.int r)) s9x := by
  refine Ctr.mk (ri := .ireturn) (by decide) (Nat.le_of_ble_eq_true rfl) (Rt_i r) ?_
  intro G h hL hR hret
  refine k_drop (lv' := [(0, .ref 0)]) [0] rfl ?_
  unfold f_X10_back at hf
  refine k_aload_n (pc := 0) h dX10_back_0 rfl 0 rfl ?_
  refine k_getI (pc := 1) h fl_RX10_101 rfl rfl dX10_back_1 ?_
  refine k_if_ne (pc := 4) (tgt := 10) h dX10_back_4 rfl (fun hc => ?_) (fun hc => ?_)
  · have hf := it_n hc hf
    refine k_aload_n (pc := 10) h dX10_back_10 rfl 0 rfl ?_
    refine k_dup (pc := 11) h dX10_back_11 rfl ?_
    refine k_getI (pc := 12) h fl_RX10_101 rfl rfl dX10_back_12 ?_
    refine k_iconst (pc := 15) h dX10_back_15 kc_iconst_1 ?_
    refine k_isub (pc := 16) h dX10_back_16 ?_
    obtain ⟨s1, es1, hf⟩ := lb_s hf
    refine k_put (pc := 17) h fl_RX10_101 fp_X10_0 rfl rfl rfl rfl dX10_back_17 ?_
    refine k_heap es1 ?_
    refine k_aload_n (pc := 20) h dX10_back_20 rfl 0 rfl ?_
    refine k_getI (pc := 21) h fl_RX10_101 rfl rfl dX10_back_21 ?_
    obtain ⟨rfl, rfl⟩ := so2 hf
    exact hret 24 _ dX10_back_24 trivial
  · have hf := it_p hc hf
    refine k_bipush (pc := 7) h dX10_back_7 kc_bipush_m3 ?_
    obtain ⟨rfl, rfl⟩ := so2 hf
    exact hret 9 _ dX10_back_9 trivial
theorem dX10_clear_0 : decode cX10_clear 0 = .ok (.aload_n 0, 1) := by decide +kernel
theorem dX10_clear_1 : decode cX10_clear 1 = .ok (.getfield 101, 3) := by decide +kernel
theorem dX10_clear_4 : decode cX10_clear 4 = .ok (.istore_n 1, 1) := by decide +kernel
theorem dX10_clear_5 : decode cX10_clear 5 = .ok (.aload_n 0, 1) := by decide +kernel
theorem dX10_clear_6 : decode cX10_clear 6 = .ok (.iconst 0, 1) := by decide +kernel
theorem dX10_clear_7 : decode cX10_clear 7 = .ok (.putfield 101, 3) := by decide +kernel
theorem dX10_clear_10 : decode cX10_clear 10 = .ok (.iload_n 1, 1) := by decide +kernel
theorem dX10_clear_11 : decode cX10_clear 11 = .ok (.ireturn, 1) := by decide +kernel
def f_X10_clear  (s0 : sh_S) : Option (Int32 × sh_S) := lb ((s0 0 0)) (fun v1 => lb (ur s0 0 (upd (s0 0) 0 (0 : Int32))) (fun s2 => some (v1, s2)))
set_option maxRecDepth 100000 in
set_option maxHeartbeats 4000000 in
theorem c_X10_clear  (s0 : sh_S) (r : Int32) (s9x : sh_S) (hf : f_X10_clear  s0 = some (r, s9x)) : Ctr yX10_clear cX10_clear 2 (some .int) ({ frames := 0, cells := 0, slots := 0, locals := 0 } : Room) shM [.ref 0] s0 (some (.int r)) s9x := by
  refine Ctr.mk (ri := .ireturn) (by decide) (Nat.le_of_ble_eq_true rfl) (Rt_i r) ?_
  intro G h hL hR hret
  refine k_drop (lv' := [(0, .ref 0)]) [0] rfl ?_
  unfold f_X10_clear at hf
  refine k_aload_n (pc := 0) h dX10_clear_0 rfl 0 rfl ?_
  refine k_getI (pc := 1) h fl_RX10_101 rfl rfl dX10_clear_1 ?_
  obtain ⟨v1, ev1, hf⟩ := lb_s hf
  refine k_top ev1 ?_
  refine k_istore_n (pc := 4) h dX10_clear_4 rfl (nk hL (by decide)) (lv' := [(0, .ref 0), (1, .int v1)]) rfl ?_
  refine k_aload_n (pc := 5) h dX10_clear_5 rfl 0 rfl ?_
  refine k_iconst (pc := 6) h dX10_clear_6 kc_iconst_0 ?_
  obtain ⟨s2, es2, hf⟩ := lb_s hf
  refine k_put (pc := 7) h fl_RX10_101 fp_X10_0 rfl rfl rfl rfl dX10_clear_7 ?_
  refine k_heap es2 ?_
  refine k_iload_n (pc := 10) h dX10_clear_10 rfl 1 rfl ?_
  obtain ⟨rfl, rfl⟩ := so2 hf
  exact hret 11 _ dX10_clear_11 trivial
theorem dX10_codeOf_0 : decode cX10_codeOf 0 = .ok (.iload_n 2, 1) := by decide +kernel
theorem dX10_codeOf_1 : decode cX10_codeOf 1 = .ok (.ifCond .ne 12, 3) := by decide +kernel
theorem dX10_codeOf_4 : decode cX10_codeOf 4 = .ok (.aload_n 0, 1) := by decide +kernel
theorem dX10_codeOf_5 : decode cX10_codeOf 5 = .ok (.getfield 7, 3) := by decide +kernel
theorem dX10_codeOf_8 : decode cX10_codeOf 8 = .ok (.iload_n 1, 1) := by decide +kernel
theorem dX10_codeOf_9 : decode cX10_codeOf 9 = .ok (.iaload, 1) := by decide +kernel
theorem dX10_codeOf_10 : decode cX10_codeOf 10 = .ok (.goto 37, 3) := by decide +kernel
theorem dX10_codeOf_13 : decode cX10_codeOf 13 = .ok (.iload_n 2, 1) := by decide +kernel
theorem dX10_codeOf_14 : decode cX10_codeOf 14 = .ok (.iconst 1, 1) := by decide +kernel
theorem dX10_codeOf_15 : decode cX10_codeOf 15 = .ok (.if_icmp .ne 12, 3) := by decide +kernel
theorem dX10_codeOf_18 : decode cX10_codeOf 18 = .ok (.aload_n 0, 1) := by decide +kernel
theorem dX10_codeOf_19 : decode cX10_codeOf 19 = .ok (.getfield 13, 3) := by decide +kernel
theorem dX10_codeOf_22 : decode cX10_codeOf 22 = .ok (.iload_n 1, 1) := by decide +kernel
theorem dX10_codeOf_23 : decode cX10_codeOf 23 = .ok (.iaload, 1) := by decide +kernel
theorem dX10_codeOf_24 : decode cX10_codeOf 24 = .ok (.goto 23, 3) := by decide +kernel
theorem dX10_codeOf_27 : decode cX10_codeOf 27 = .ok (.iload_n 2, 1) := by decide +kernel
theorem dX10_codeOf_28 : decode cX10_codeOf 28 = .ok (.iconst 2, 1) := by decide +kernel
theorem dX10_codeOf_29 : decode cX10_codeOf 29 = .ok (.if_icmp .ne 12, 3) := by decide +kernel
theorem dX10_codeOf_32 : decode cX10_codeOf 32 = .ok (.aload_n 0, 1) := by decide +kernel
theorem dX10_codeOf_33 : decode cX10_codeOf 33 = .ok (.getfield 16, 3) := by decide +kernel
theorem dX10_codeOf_36 : decode cX10_codeOf 36 = .ok (.iload_n 1, 1) := by decide +kernel
theorem dX10_codeOf_37 : decode cX10_codeOf 37 = .ok (.iaload, 1) := by decide +kernel
theorem dX10_codeOf_38 : decode cX10_codeOf 38 = .ok (.goto 9, 3) := by decide +kernel
theorem dX10_codeOf_41 : decode cX10_codeOf 41 = .ok (.aload_n 0, 1) := by decide +kernel
theorem dX10_codeOf_42 : decode cX10_codeOf 42 = .ok (.getfield 19, 3) := by decide +kernel
theorem dX10_codeOf_45 : decode cX10_codeOf 45 = .ok (.iload_n 1, 1) := by decide +kernel
theorem dX10_codeOf_46 : decode cX10_codeOf 46 = .ok (.iaload, 1) := by decide +kernel
theorem dX10_codeOf_47 : decode cX10_codeOf 47 = .ok (.ireturn, 1) := by decide +kernel
def f_X10_codeOf (p1 : Int32) (p2 : Int32) (s0 : sh_S) : Option (Int32) := ob (if p2 = 0 then gu (inb p1 24) (some (s0 1 (ix p1))) else (if p2 = (1 : Int32) then gu (inb p1 24) (some (s0 2 (ix p1))) else (if p2 = (2 : Int32) then gu (inb p1 24) (some (s0 3 (ix p1))) else gu (inb p1 24) (some (s0 4 (ix p1)))))) (fun v1 => some v1)
set_option maxRecDepth 100000 in
set_option maxHeartbeats 4000000 in
theorem c_X10_codeOf (p1 : Int32) (p2 : Int32) (s0 : sh_S) (r : Int32) (hf : f_X10_codeOf p1 p2 s0 = some r) : Ctr yX10_codeOf cX10_codeOf 3 (some .int) ({ frames := 0, cells := 0, slots := 0, locals := 0 } : Room) shM [.ref 0, .int p1, .int p2] s0 (some (.int r)) s0 := by
  refine Ctr.mk (ri := .ireturn) (by decide) (Nat.le_of_ble_eq_true rfl) (Rt_i r) ?_
  intro G h hL hR hret
  refine k_drop (lv' := [(0, .ref 0), (1, .int p1), (2, .int p2)]) [0, 1, 2] rfl ?_
  unfold f_X10_codeOf at hf
  refine k_iload_n (pc := 0) h dX10_codeOf_0 rfl 2 rfl ?_
  obtain ⟨v1, hj, hf⟩ := ob_s hf
  have kj1 : sh_K G shM 47 [] [.int v1] s0 := by
    obtain rfl := so1 hf
    exact hret 47 _ dX10_codeOf_47 trivial
  clear hf
  have hf := hj
  clear hj
  refine k_if_ne (pc := 1) (tgt := 13) h dX10_codeOf_1 rfl (fun hc => ?_) (fun hc => ?_)
  · have hf := it_n hc hf
    refine k_iload_n (pc := 13) h dX10_codeOf_13 rfl 2 rfl ?_
    refine k_iconst (pc := 14) h dX10_codeOf_14 kc_iconst_1 ?_
    refine k_icmp_ne (pc := 15) (tgt := 27) h dX10_codeOf_15 rfl (fun hc => ?_) (fun hc => ?_)
    · have hf := it_n hc hf
      refine k_iload_n (pc := 27) h dX10_codeOf_27 rfl 2 rfl ?_
      refine k_iconst (pc := 28) h dX10_codeOf_28 kc_iconst_2 ?_
      refine k_icmp_ne (pc := 29) (tgt := 41) h dX10_codeOf_29 rfl (fun hc => ?_) (fun hc => ?_)
      · have hf := it_n hc hf
        refine k_aload_n (pc := 41) h dX10_codeOf_41 rfl 0 rfl ?_
        refine k_getR (pc := 42) h fl_RX10_19 rfl rfl dX10_codeOf_42 ?_
        refine k_iload_n (pc := 45) h dX10_codeOf_45 rfl 1 rfl ?_
        obtain ⟨g2, hf⟩ := gu_s hf
        refine k_iald (pc := 46) (n := 24) h rfl g2 dX10_codeOf_46 ?_
        obtain rfl := so1 hf
        exact k_drop [] rfl kj1
      · have hf := it_p hc hf
        refine k_aload_n (pc := 32) h dX10_codeOf_32 rfl 0 rfl ?_
        refine k_getR (pc := 33) h fl_RX10_16 rfl rfl dX10_codeOf_33 ?_
        refine k_iload_n (pc := 36) h dX10_codeOf_36 rfl 1 rfl ?_
        obtain ⟨g3, hf⟩ := gu_s hf
        refine k_iald (pc := 37) (n := 24) h rfl g3 dX10_codeOf_37 ?_
        refine k_goto (pc := 38) (tgt := 47) h dX10_codeOf_38 rfl ?_
        obtain rfl := so1 hf
        exact k_drop [] rfl kj1
    · have hf := it_p hc hf
      refine k_aload_n (pc := 18) h dX10_codeOf_18 rfl 0 rfl ?_
      refine k_getR (pc := 19) h fl_RX10_13 rfl rfl dX10_codeOf_19 ?_
      refine k_iload_n (pc := 22) h dX10_codeOf_22 rfl 1 rfl ?_
      obtain ⟨g4, hf⟩ := gu_s hf
      refine k_iald (pc := 23) (n := 24) h rfl g4 dX10_codeOf_23 ?_
      refine k_goto (pc := 24) (tgt := 47) h dX10_codeOf_24 rfl ?_
      obtain rfl := so1 hf
      exact k_drop [] rfl kj1
  · have hf := it_p hc hf
    refine k_aload_n (pc := 4) h dX10_codeOf_4 rfl 0 rfl ?_
    refine k_getR (pc := 5) h fl_RX10_7 rfl rfl dX10_codeOf_5 ?_
    refine k_iload_n (pc := 8) h dX10_codeOf_8 rfl 1 rfl ?_
    obtain ⟨g5, hf⟩ := gu_s hf
    refine k_iald (pc := 9) (n := 24) h rfl g5 dX10_codeOf_9 ?_
    refine k_goto (pc := 10) (tgt := 47) h dX10_codeOf_10 rfl ?_
    obtain rfl := so1 hf
    exact k_drop [] rfl kj1
theorem dX10_code_0 : decode cX10_code 0 = .ok (.aload_n 0, 1) := by decide +kernel
theorem dX10_code_1 : decode cX10_code 1 = .ok (.iload_n 1, 1) := by decide +kernel
theorem dX10_code_2 : decode cX10_code 2 = .ok (.invokevirtual 109, 3) := by decide +kernel
theorem dX10_code_5 : decode cX10_code 5 = .ok (.ifCond .eq 21, 3) := by decide +kernel
theorem dX10_code_8 : decode cX10_code 8 = .ok (.iload_n 2, 1) := by decide +kernel
theorem dX10_code_9 : decode cX10_code 9 = .ok (.iconst 0, 1) := by decide +kernel
theorem dX10_code_10 : decode cX10_code 10 = .ok (.iconst 3, 1) := by decide +kernel
theorem dX10_code_11 : decode cX10_code 11 = .ok (.invokestatic 93, 3) := by decide +kernel
theorem dX10_code_14 : decode cX10_code 14 = .ok (.ifCond .eq 12, 3) := by decide +kernel
theorem dX10_code_17 : decode cX10_code 17 = .ok (.aload_n 0, 1) := by decide +kernel
theorem dX10_code_18 : decode cX10_code 18 = .ok (.iload_n 1, 1) := by decide +kernel
theorem dX10_code_19 : decode cX10_code 19 = .ok (.iload_n 2, 1) := by decide +kernel
theorem dX10_code_20 : decode cX10_code 20 = .ok (.invokevirtual 113, 3) := by decide +kernel
theorem dX10_code_23 : decode cX10_code 23 = .ok (.goto 5, 3) := by decide +kernel
theorem dX10_code_26 : decode cX10_code 26 = .ok (.bipush (-2), 2) := by decide +kernel
theorem dX10_code_28 : decode cX10_code 28 = .ok (.ireturn, 1) := by decide +kernel
def f_X10_code (p1 : Int32) (p2 : Int32) (s0 : sh_S) : Option (Int32) := ob (f_X10_isPoint p1 s0) (fun v1 => ob (if v1 = 0 then some (-2 : Int32) else ob (f_X10_in p2 (0 : Int32) (3 : Int32)) (fun v3 => (if v3 = 0 then some (-2 : Int32) else ob (f_X10_codeOf p1 p2 s0) (fun v4 => some v4)))) (fun v2 => some v2))
set_option maxRecDepth 100000 in
set_option maxHeartbeats 4000000 in
theorem c_X10_code (p1 : Int32) (p2 : Int32) (s0 : sh_S) (r : Int32) (hf : f_X10_code p1 p2 s0 = some r) : Ctr yX10_code cX10_code 3 (some .int) ({ frames := 2, cells := 0, slots := 0, locals := 43 } : Room) shM [.ref 0, .int p1, .int p2] s0 (some (.int r)) s0 := by
  refine Ctr.mk (ri := .ireturn) (by decide) (Nat.le_of_ble_eq_true rfl) (Rt_i r) ?_
  intro G h hL hR hret
  refine k_drop (lv' := [(0, .ref 0), (1, .int p1), (2, .int p2)]) [0, 1, 2] rfl ?_
  unfold f_X10_code at hf
  refine k_aload_n (pc := 0) h dX10_code_0 rfl 0 rfl ?_
  refine k_iload_n (pc := 1) h dX10_code_1 rfl 1 rfl ?_
  obtain ⟨v1, cv1, hf⟩ := ob_s hf
  refine k_callV0 (pc := 2) h cv_RX10_109 (c_X10_isPoint p1 s0 v1 cv1) rfl rfl rfl (st1 := [.int v1]) rfl ⟨rfl, rfl⟩ (rk hR (Nat.le_of_ble_eq_true rfl) (Nat.le_of_ble_eq_true rfl)) (Nat.le_of_ble_eq_true rfl) dX10_code_2 ?_
  obtain ⟨v2, hj, hf⟩ := ob_s hf
  have kj5 : sh_K G shM 28 [] [.int v2] s0 := by
    obtain rfl := so1 hf
    exact hret 28 _ dX10_code_28 trivial
  clear hf
  have hf := hj
  clear hj
  refine k_if_eq (pc := 5) (tgt := 26) h dX10_code_5 rfl (fun hc => ?_) (fun hc => ?_)
  · have hf := it_p hc hf
    refine k_bipush (pc := 26) h dX10_code_26 kc_bipush_m2 ?_
    obtain rfl := so1 hf
    exact k_drop [] rfl kj5
  · have hf := it_n hc hf
    refine k_iload_n (pc := 8) h dX10_code_8 rfl 2 rfl ?_
    refine k_iconst (pc := 9) h dX10_code_9 kc_iconst_0 ?_
    refine k_iconst (pc := 10) h dX10_code_10 kc_iconst_3 ?_
    obtain ⟨v3, cv3, hf⟩ := ob_s hf
    refine k_callSp (pc := 11) h cs_RX10_93 (c_X10_in p2 (0 : Int32) (3 : Int32) _ v3 cv3) rfl rfl (st1 := [.int v3]) rfl ⟨rfl, rfl⟩ (rk hR (Nat.le_of_ble_eq_true rfl) (Nat.le_of_ble_eq_true rfl)) (Nat.le_of_ble_eq_true rfl) dX10_code_11 ?_
    refine k_if_eq (pc := 14) (tgt := 26) h dX10_code_14 rfl (fun hc => ?_) (fun hc => ?_)
    · have hf := it_p hc hf
      refine k_bipush (pc := 26) h dX10_code_26 kc_bipush_m2 ?_
      obtain rfl := so1 hf
      exact k_drop [] rfl kj5
    · have hf := it_n hc hf
      refine k_aload_n (pc := 17) h dX10_code_17 rfl 0 rfl ?_
      refine k_iload_n (pc := 18) h dX10_code_18 rfl 1 rfl ?_
      refine k_iload_n (pc := 19) h dX10_code_19 rfl 2 rfl ?_
      obtain ⟨v4, cv4, hf⟩ := ob_s hf
      refine k_callV0 (pc := 20) h cv_RX10_113 (c_X10_codeOf p1 p2 s0 v4 cv4) rfl rfl rfl (st1 := [.int v4]) rfl ⟨rfl, rfl⟩ (rk hR (Nat.le_of_ble_eq_true rfl) (Nat.le_of_ble_eq_true rfl)) (Nat.le_of_ble_eq_true rfl) dX10_code_20 ?_
      refine k_goto (pc := 23) (tgt := 28) h dX10_code_23 rfl ?_
      obtain rfl := so1 hf
      exact k_drop [] rfl kj5
theorem dX10_meets_0 : decode cX10_meets 0 = .ok (.aload_n 0, 1) := by decide +kernel
theorem dX10_meets_1 : decode cX10_meets 1 = .ok (.iload_n 1, 1) := by decide +kernel
theorem dX10_meets_2 : decode cX10_meets 2 = .ok (.putfield 331, 3) := by decide +kernel
theorem dX10_meets_5 : decode cX10_meets 5 = .ok (.bipush (-10), 2) := by decide +kernel
theorem dX10_meets_7 : decode cX10_meets 7 = .ok (.iload_n 1, 1) := by decide +kernel
theorem dX10_meets_8 : decode cX10_meets 8 = .ok (.isub, 1) := by decide +kernel
theorem dX10_meets_9 : decode cX10_meets 9 = .ok (.ireturn, 1) := by decide +kernel
def f_X10_meets (p1 : Int32) (s0 : sh_S) : Option (Int32 × sh_S) := lb (ur s0 0 (upd (s0 0) 35 p1)) (fun s1 => some (((-10 : Int32) - p1), s1))
set_option maxRecDepth 100000 in
set_option maxHeartbeats 4000000 in
theorem c_X10_meets (p1 : Int32) (s0 : sh_S) (r : Int32) (s9x : sh_S) (hf : f_X10_meets p1 s0 = some (r, s9x)) : Ctr yX10_meets cX10_meets 2 (some .int) ({ frames := 0, cells := 0, slots := 0, locals := 0 } : Room) shM [.ref 0, .int p1] s0 (some (.int r)) s9x := by
  refine Ctr.mk (ri := .ireturn) (by decide) (Nat.le_of_ble_eq_true rfl) (Rt_i r) ?_
  intro G h hL hR hret
  refine k_drop (lv' := [(0, .ref 0), (1, .int p1)]) [0, 1] rfl ?_
  unfold f_X10_meets at hf
  refine k_aload_n (pc := 0) h dX10_meets_0 rfl 0 rfl ?_
  refine k_iload_n (pc := 1) h dX10_meets_1 rfl 1 rfl ?_
  obtain ⟨s1, es1, hf⟩ := lb_s hf
  refine k_put (pc := 2) h fl_RX10_331 fp_X10_35 rfl rfl rfl rfl dX10_meets_2 ?_
  refine k_heap es1 ?_
  refine k_bipush (pc := 5) h dX10_meets_5 kc_bipush_m10 ?_
  refine k_iload_n (pc := 7) h dX10_meets_7 rfl 1 rfl ?_
  refine k_isub (pc := 8) h dX10_meets_8 ?_
  obtain ⟨rfl, rfl⟩ := so2 hf
  exact hret 9 _ dX10_meets_9 trivial
theorem dX10_read_0 : decode cX10_read 0 = .ok (.iload_n 1, 1) := by decide +kernel
theorem dX10_read_1 : decode cX10_read 1 = .ok (.invokestatic 117, 3) := by decide +kernel
theorem dX10_read_4 : decode cX10_read 4 = .ok (.ifCond .ne 6, 3) := by decide +kernel
theorem dX10_read_7 : decode cX10_read 7 = .ok (.bipush (-2), 2) := by decide +kernel
theorem dX10_read_9 : decode cX10_read 9 = .ok (.ireturn, 1) := by decide +kernel
theorem dX10_read_10 : decode cX10_read 10 = .ok (.aload_n 0, 1) := by decide +kernel
theorem dX10_read_11 : decode cX10_read 11 = .ok (.getfield 73, 3) := by decide +kernel
theorem dX10_read_14 : decode cX10_read 14 = .ok (.iload_n 1, 1) := by decide +kernel
theorem dX10_read_15 : decode cX10_read 15 = .ok (.baload, 1) := by decide +kernel
theorem dX10_read_16 : decode cX10_read 16 = .ok (.ifCond .ne 9, 3) := by decide +kernel
theorem dX10_read_19 : decode cX10_read 19 = .ok (.aload_n 0, 1) := by decide +kernel
theorem dX10_read_20 : decode cX10_read 20 = .ok (.iconst 1, 1) := by decide +kernel
theorem dX10_read_21 : decode cX10_read 21 = .ok (.invokevirtual 120, 3) := by decide +kernel
theorem dX10_read_24 : decode cX10_read 24 = .ok (.ireturn, 1) := by decide +kernel
theorem dX10_read_25 : decode cX10_read 25 = .ok (.iconst 0, 1) := by decide +kernel
theorem dX10_read_26 : decode cX10_read 26 = .ok (.istore_n 2, 1) := by decide +kernel
theorem dX10_read_27 : decode cX10_read 27 = .ok (.bipush 60, 2) := by decide +kernel
theorem dX10_read_29 : decode cX10_read 29 = .ok (.iload_n 1, 1) := by decide +kernel
theorem dX10_read_30 : decode cX10_read 30 = .ok (.imul, 1) := by decide +kernel
theorem dX10_read_31 : decode cX10_read 31 = .ok (.istore_n 3, 1) := by decide +kernel
theorem dX10_read_32 : decode cX10_read 32 = .ok (.iconst 4, 1) := by decide +kernel
theorem dX10_read_33 : decode cX10_read 33 = .ok (.iload_n 2, 1) := by decide +kernel
theorem dX10_read_34 : decode cX10_read 34 = .ok (.imul, 1) := by decide +kernel
theorem dX10_read_35 : decode cX10_read 35 = .ok (.iconst 3, 1) := by decide +kernel
theorem dX10_read_36 : decode cX10_read 36 = .ok (.iadd, 1) := by decide +kernel
theorem dX10_read_37 : decode cX10_read 37 = .ok (.aload_n 0, 1) := by decide +kernel
theorem dX10_read_38 : decode cX10_read 38 = .ok (.getfield 80, 3) := by decide +kernel
theorem dX10_read_41 : decode cX10_read 41 = .ok (.iload_n 1, 1) := by decide +kernel
theorem dX10_read_42 : decode cX10_read 42 = .ok (.iaload, 1) := by decide +kernel
theorem dX10_read_43 : decode cX10_read 43 = .ok (.if_icmp .ge 62, 3) := by decide +kernel
theorem dX10_read_46 : decode cX10_read 46 = .ok (.aload_n 0, 1) := by decide +kernel
theorem dX10_read_47 : decode cX10_read 47 = .ok (.aload_n 0, 1) := by decide +kernel
theorem dX10_read_48 : decode cX10_read 48 = .ok (.getfield 83, 3) := by decide +kernel
theorem dX10_read_51 : decode cX10_read 51 = .ok (.iload_n 3, 1) := by decide +kernel
theorem dX10_read_52 : decode cX10_read 52 = .ok (.iconst 4, 1) := by decide +kernel
theorem dX10_read_53 : decode cX10_read 53 = .ok (.iload_n 2, 1) := by decide +kernel
theorem dX10_read_54 : decode cX10_read 54 = .ok (.imul, 1) := by decide +kernel
theorem dX10_read_55 : decode cX10_read 55 = .ok (.iadd, 1) := by decide +kernel
theorem dX10_read_56 : decode cX10_read 56 = .ok (.iaload, 1) := by decide +kernel
theorem dX10_read_57 : decode cX10_read 57 = .ok (.aload_n 0, 1) := by decide +kernel
theorem dX10_read_58 : decode cX10_read 58 = .ok (.getfield 83, 3) := by decide +kernel
theorem dX10_read_61 : decode cX10_read 61 = .ok (.iload_n 3, 1) := by decide +kernel
theorem dX10_read_62 : decode cX10_read 62 = .ok (.iconst 4, 1) := by decide +kernel
theorem dX10_read_63 : decode cX10_read 63 = .ok (.iload_n 2, 1) := by decide +kernel
theorem dX10_read_64 : decode cX10_read 64 = .ok (.imul, 1) := by decide +kernel
theorem dX10_read_65 : decode cX10_read 65 = .ok (.iadd, 1) := by decide +kernel
theorem dX10_read_66 : decode cX10_read 66 = .ok (.iconst 1, 1) := by decide +kernel
theorem dX10_read_67 : decode cX10_read 67 = .ok (.iadd, 1) := by decide +kernel
theorem dX10_read_68 : decode cX10_read 68 = .ok (.iaload, 1) := by decide +kernel
theorem dX10_read_69 : decode cX10_read 69 = .ok (.aload_n 0, 1) := by decide +kernel
theorem dX10_read_70 : decode cX10_read 70 = .ok (.getfield 83, 3) := by decide +kernel
theorem dX10_read_73 : decode cX10_read 73 = .ok (.iload_n 3, 1) := by decide +kernel
theorem dX10_read_74 : decode cX10_read 74 = .ok (.iconst 4, 1) := by decide +kernel
theorem dX10_read_75 : decode cX10_read 75 = .ok (.iload_n 2, 1) := by decide +kernel
theorem dX10_read_76 : decode cX10_read 76 = .ok (.imul, 1) := by decide +kernel
theorem dX10_read_77 : decode cX10_read 77 = .ok (.iadd, 1) := by decide +kernel
theorem dX10_read_78 : decode cX10_read 78 = .ok (.iconst 2, 1) := by decide +kernel
theorem dX10_read_79 : decode cX10_read 79 = .ok (.iadd, 1) := by decide +kernel
theorem dX10_read_80 : decode cX10_read 80 = .ok (.iaload, 1) := by decide +kernel
theorem dX10_read_81 : decode cX10_read 81 = .ok (.aload_n 0, 1) := by decide +kernel
theorem dX10_read_82 : decode cX10_read 82 = .ok (.getfield 83, 3) := by decide +kernel
theorem dX10_read_85 : decode cX10_read 85 = .ok (.iload_n 3, 1) := by decide +kernel
theorem dX10_read_86 : decode cX10_read 86 = .ok (.iconst 4, 1) := by decide +kernel
theorem dX10_read_87 : decode cX10_read 87 = .ok (.iload_n 2, 1) := by decide +kernel
theorem dX10_read_88 : decode cX10_read 88 = .ok (.imul, 1) := by decide +kernel
theorem dX10_read_89 : decode cX10_read 89 = .ok (.iadd, 1) := by decide +kernel
theorem dX10_read_90 : decode cX10_read 90 = .ok (.iconst 3, 1) := by decide +kernel
theorem dX10_read_91 : decode cX10_read 91 = .ok (.iadd, 1) := by decide +kernel
theorem dX10_read_92 : decode cX10_read 92 = .ok (.iaload, 1) := by decide +kernel
theorem dX10_read_93 : decode cX10_read 93 = .ok (.invokevirtual 124, 3) := by decide +kernel
theorem dX10_read_96 : decode cX10_read 96 = .ok (.ifCond .le 9, 3) := by decide +kernel
theorem dX10_read_99 : decode cX10_read 99 = .ok (.iinc 2 1, 3) := by decide +kernel
theorem dX10_read_102 : decode cX10_read 102 = .ok (.goto (-70), 3) := by decide +kernel
theorem dX10_read_105 : decode cX10_read 105 = .ok (.iload_n 2, 1) := by decide +kernel
theorem dX10_read_106 : decode cX10_read 106 = .ok (.ireturn, 1) := by decide +kernel
def f_X10_read_L32 (p1 : Int32) (v3 : Int32) (v4 : Int32) (s5 : sh_S) : Option ((Int32 × sh_S) ⊕ (Int32 × sh_S)) := gu (inb p1 4) ((if (s5 24 (ix p1)) ≤ (((4 : Int32) * v4) + (3 : Int32)) then some (.inr (v4, s5)) else gu (inb (v3 + ((4 : Int32) * v4)) 240) (gu (inb ((v3 + ((4 : Int32) * v4)) + (1 : Int32)) 240) (gu (inb ((v3 + ((4 : Int32) * v4)) + (2 : Int32)) 240) (gu (inb ((v3 + ((4 : Int32) * v4)) + (3 : Int32)) 240) (ob2 (f_X10_add (s5 25 (ix (v3 + ((4 : Int32) * v4)))) (s5 25 (ix ((v3 + ((4 : Int32) * v4)) + (1 : Int32)))) (s5 25 (ix ((v3 + ((4 : Int32) * v4)) + (2 : Int32)))) (s5 25 (ix ((v3 + ((4 : Int32) * v4)) + (3 : Int32)))) s5) (fun v13 s14 => (if v13 ≤ 0 then some (.inr (v4, s14)) else lb (v4 + (1 : Int32)) (fun v15 => some (.inl (v15, s14)))))))))))
def f_X10_read (p1 : Int32) (s0 : sh_S) : Option (Int32 × sh_S) := ob (f_X10_isSheet p1) (fun v1 => (if v1 = 0 then some ((-2 : Int32), s0) else gu (inb p1 4) ((if (s0 22 (ix p1)) = 0 then ob2 (f_X10_meets (1 : Int32) s0) (fun v16 s17 => some (v16, s17)) else lb (((60 : Int32) * p1)) (fun v3 => ob2 (lp (fun q => f_X10_read_L32 p1 v3 q.1 q.2) FU ((0 : Int32), s0)) (fun v6 s7 => some (v6, s7)))))))
set_option maxRecDepth 100000 in
set_option maxHeartbeats 4000000 in
theorem c_X10_read (p1 : Int32) (s0 : sh_S) (r : Int32) (s9x : sh_S) (hf : f_X10_read p1 s0 = some (r, s9x)) : Ctr yX10_read cX10_read 4 (some .int) ({ frames := 3, cells := 0, slots := 0, locals := 69 } : Room) shM [.ref 0, .int p1] s0 (some (.int r)) s9x := by
  refine Ctr.mk (ri := .ireturn) (by decide) (Nat.le_of_ble_eq_true rfl) (Rt_i r) ?_
  intro G h hL hR hret
  refine k_drop (lv' := [(0, .ref 0), (1, .int p1)]) [0, 1] rfl ?_
  unfold f_X10_read at hf
  refine k_iload_n (pc := 0) h dX10_read_0 rfl 1 rfl ?_
  obtain ⟨v1, cv1, hf⟩ := ob_s hf
  refine k_callSp (pc := 1) h cs_RX10_117 (c_X10_isSheet p1 _ v1 cv1) rfl rfl (st1 := [.int v1]) rfl ⟨rfl, rfl⟩ (rk hR (Nat.le_of_ble_eq_true rfl) (Nat.le_of_ble_eq_true rfl)) (Nat.le_of_ble_eq_true rfl) dX10_read_1 ?_
  refine k_if_ne (pc := 4) (tgt := 10) h dX10_read_4 rfl (fun hc => ?_) (fun hc => ?_)
  · have hf := it_n hc hf
    refine k_aload_n (pc := 10) h dX10_read_10 rfl 0 rfl ?_
    refine k_getR (pc := 11) h fl_RX10_73 rfl rfl dX10_read_11 ?_
    refine k_iload_n (pc := 14) h dX10_read_14 rfl 1 rfl ?_
    obtain ⟨g2, hf⟩ := gu_s hf
    refine k_zald (pc := 15) (n := 4) h rfl g2 dX10_read_15 ?_
    refine k_if_ne (pc := 16) (tgt := 25) h dX10_read_16 rfl (fun hc => ?_) (fun hc => ?_)
    · have hf := it_n hc hf
      refine k_iconst (pc := 25) h dX10_read_25 kc_iconst_0 ?_
      refine k_istore_n (pc := 26) h dX10_read_26 rfl (nk hL (by decide)) (lv' := [(0, .ref 0), (1, .int p1), (2, .int (0 : Int32))]) rfl ?_
      refine k_bipush (pc := 27) h dX10_read_27 kc_bipush_60 ?_
      refine k_iload_n (pc := 29) h dX10_read_29 rfl 1 rfl ?_
      refine k_imul (pc := 30) h dX10_read_30 ?_
      obtain ⟨v3, ev3, hf⟩ := lb_s hf
      refine k_top ev3 ?_
      refine k_istore_n (pc := 31) h dX10_read_31 rfl (nk hL (by decide)) (lv' := [(0, .ref 0), (1, .int p1), (2, .int (0 : Int32)), (3, .int v3)]) rfl ?_
      obtain ⟨v6, s7, hl, hf⟩ := ob2_s hf
      refine k_drop (lv' := [(0, .ref 0), (1, .int p1), (2, .int (0 : Int32)), (3, .int v3)]) [0, 1, 2, 3] rfl ?_
      refine lp_s (P := (fun q : Int32 × sh_S => sh_K G shM 32 [(0, .ref 0), (1, .int p1), (2, .int q.1), (3, .int v3)] [] q.2)) (Q := (fun q : Int32 × sh_S => sh_K G shM 105 [(2, .int q.1)] [] q.2)) (s := ((0 : Int32), s0)) ?_ hl ?_
      · clear hf hl
        intro q rr hf kc32
        obtain ⟨v4, s5⟩ := q
        have hf : f_X10_read_L32 p1 v3 v4 s5 = some rr := hf
        unfold f_X10_read_L32 at hf
        refine k_iconst (pc := 32) h dX10_read_32 kc_iconst_4 ?_
        refine k_iload_n (pc := 33) h dX10_read_33 rfl 2 rfl ?_
        refine k_imul (pc := 34) h dX10_read_34 ?_
        refine k_iconst (pc := 35) h dX10_read_35 kc_iconst_3 ?_
        refine k_iadd (pc := 36) h dX10_read_36 ?_
        refine k_aload_n (pc := 37) h dX10_read_37 rfl 0 rfl ?_
        refine k_getR (pc := 38) h fl_RX10_80 rfl rfl dX10_read_38 ?_
        refine k_iload_n (pc := 41) h dX10_read_41 rfl 1 rfl ?_
        obtain ⟨g8, hf⟩ := gu_s hf
        refine k_iald (pc := 42) (n := 4) h rfl g8 dX10_read_42 ?_
        refine k_icmp_ge (pc := 43) (tgt := 105) h dX10_read_43 rfl (fun hc => ?_) (fun hc => ?_)
        · have hf := it_p hc hf
          obtain rfl := so1 hf
          exact k_drop [2] rfl kc32
        · have hf := it_n hc hf
          refine k_aload_n (pc := 46) h dX10_read_46 rfl 0 rfl ?_
          refine k_aload_n (pc := 47) h dX10_read_47 rfl 0 rfl ?_
          refine k_getR (pc := 48) h fl_RX10_83 rfl rfl dX10_read_48 ?_
          refine k_iload_n (pc := 51) h dX10_read_51 rfl 3 rfl ?_
          refine k_iconst (pc := 52) h dX10_read_52 kc_iconst_4 ?_
          refine k_iload_n (pc := 53) h dX10_read_53 rfl 2 rfl ?_
          refine k_imul (pc := 54) h dX10_read_54 ?_
          refine k_iadd (pc := 55) h dX10_read_55 ?_
          obtain ⟨g9, hf⟩ := gu_s hf
          refine k_iald (pc := 56) (n := 240) h rfl g9 dX10_read_56 ?_
          refine k_aload_n (pc := 57) h dX10_read_57 rfl 0 rfl ?_
          refine k_getR (pc := 58) h fl_RX10_83 rfl rfl dX10_read_58 ?_
          refine k_iload_n (pc := 61) h dX10_read_61 rfl 3 rfl ?_
          refine k_iconst (pc := 62) h dX10_read_62 kc_iconst_4 ?_
          refine k_iload_n (pc := 63) h dX10_read_63 rfl 2 rfl ?_
          refine k_imul (pc := 64) h dX10_read_64 ?_
          refine k_iadd (pc := 65) h dX10_read_65 ?_
          refine k_iconst (pc := 66) h dX10_read_66 kc_iconst_1 ?_
          refine k_iadd (pc := 67) h dX10_read_67 ?_
          obtain ⟨g10, hf⟩ := gu_s hf
          refine k_iald (pc := 68) (n := 240) h rfl g10 dX10_read_68 ?_
          refine k_aload_n (pc := 69) h dX10_read_69 rfl 0 rfl ?_
          refine k_getR (pc := 70) h fl_RX10_83 rfl rfl dX10_read_70 ?_
          refine k_iload_n (pc := 73) h dX10_read_73 rfl 3 rfl ?_
          refine k_iconst (pc := 74) h dX10_read_74 kc_iconst_4 ?_
          refine k_iload_n (pc := 75) h dX10_read_75 rfl 2 rfl ?_
          refine k_imul (pc := 76) h dX10_read_76 ?_
          refine k_iadd (pc := 77) h dX10_read_77 ?_
          refine k_iconst (pc := 78) h dX10_read_78 kc_iconst_2 ?_
          refine k_iadd (pc := 79) h dX10_read_79 ?_
          obtain ⟨g11, hf⟩ := gu_s hf
          refine k_iald (pc := 80) (n := 240) h rfl g11 dX10_read_80 ?_
          refine k_aload_n (pc := 81) h dX10_read_81 rfl 0 rfl ?_
          refine k_getR (pc := 82) h fl_RX10_83 rfl rfl dX10_read_82 ?_
          refine k_iload_n (pc := 85) h dX10_read_85 rfl 3 rfl ?_
          refine k_iconst (pc := 86) h dX10_read_86 kc_iconst_4 ?_
          refine k_iload_n (pc := 87) h dX10_read_87 rfl 2 rfl ?_
          refine k_imul (pc := 88) h dX10_read_88 ?_
          refine k_iadd (pc := 89) h dX10_read_89 ?_
          refine k_iconst (pc := 90) h dX10_read_90 kc_iconst_3 ?_
          refine k_iadd (pc := 91) h dX10_read_91 ?_
          obtain ⟨g12, hf⟩ := gu_s hf
          refine k_iald (pc := 92) (n := 240) h rfl g12 dX10_read_92 ?_
          obtain ⟨v13, s14, cv13, hf⟩ := ob2_s hf
          refine k_callV0 (pc := 93) h cv_RX10_124 (c_X10_add (s5 25 (ix (v3 + ((4 : Int32) * v4)))) (s5 25 (ix ((v3 + ((4 : Int32) * v4)) + (1 : Int32)))) (s5 25 (ix ((v3 + ((4 : Int32) * v4)) + (2 : Int32)))) (s5 25 (ix ((v3 + ((4 : Int32) * v4)) + (3 : Int32)))) s5 v13 s14 cv13) rfl rfl rfl (st1 := [.int v13]) rfl ⟨rfl, rfl⟩ (rk hR (Nat.le_of_ble_eq_true rfl) (Nat.le_of_ble_eq_true rfl)) (Nat.le_of_ble_eq_true rfl) dX10_read_93 ?_
          refine k_if_le (pc := 96) (tgt := 105) h dX10_read_96 rfl (fun hc => ?_) (fun hc => ?_)
          · have hf := it_p hc hf
            obtain rfl := so1 hf
            exact k_drop [2] rfl kc32
          · have hf := it_n hc hf
            obtain ⟨v15, ev15, hf⟩ := lb_s hf
            refine k_iinc (pc := 99) h dX10_read_99 2 rfl ((congrArg (_ + ·) kc_iconst_1).trans ev15.symm) (nk hL (by decide)) (lv' := [(0, .ref 0), (1, .int p1), (2, .int v15), (3, .int v3)]) rfl ?_
            refine k_goto (pc := 102) (tgt := 32) h dX10_read_102 rfl ?_
            obtain rfl := so1 hf
            exact k_drop [0, 1, 2, 3] rfl kc32
      · refine k_iload_n (pc := 105) h dX10_read_105 rfl 0 rfl ?_
        obtain ⟨rfl, rfl⟩ := so2 hf
        exact hret 106 _ dX10_read_106 trivial
    · have hf := it_p hc hf
      refine k_aload_n (pc := 19) h dX10_read_19 rfl 0 rfl ?_
      refine k_iconst (pc := 20) h dX10_read_20 kc_iconst_1 ?_
      obtain ⟨v16, s17, cv16, hf⟩ := ob2_s hf
      refine k_callV0 (pc := 21) h cv_RX10_120 (c_X10_meets (1 : Int32) s0 v16 s17 cv16) rfl rfl rfl (st1 := [.int v16]) rfl ⟨rfl, rfl⟩ (rk hR (Nat.le_of_ble_eq_true rfl) (Nat.le_of_ble_eq_true rfl)) (Nat.le_of_ble_eq_true rfl) dX10_read_21 ?_
      obtain ⟨rfl, rfl⟩ := so2 hf
      exact hret 24 _ dX10_read_24 trivial
  · have hf := it_p hc hf
    refine k_bipush (pc := 7) h dX10_read_7 kc_bipush_m2 ?_
    obtain ⟨rfl, rfl⟩ := so2 hf
    exact hret 9 _ dX10_read_9 trivial
theorem dX10_kind_0 : decode cX10_kind 0 = .ok (.aload_n 0, 1) := by decide +kernel
theorem dX10_kind_1 : decode cX10_kind 1 = .ok (.getfield 7, 3) := by decide +kernel
theorem dX10_kind_4 : decode cX10_kind 4 = .ok (.iload_n 1, 1) := by decide +kernel
theorem dX10_kind_5 : decode cX10_kind 5 = .ok (.iaload, 1) := by decide +kernel
theorem dX10_kind_6 : decode cX10_kind 6 = .ok (.iconst 5, 1) := by decide +kernel
theorem dX10_kind_7 : decode cX10_kind 7 = .ok (.if_icmp .ne 19, 3) := by decide +kernel
theorem dX10_kind_10 : decode cX10_kind 10 = .ok (.aload_n 0, 1) := by decide +kernel
theorem dX10_kind_11 : decode cX10_kind 11 = .ok (.getfield 16, 3) := by decide +kernel
theorem dX10_kind_14 : decode cX10_kind 14 = .ok (.iload_n 1, 1) := by decide +kernel
theorem dX10_kind_15 : decode cX10_kind 15 = .ok (.iaload, 1) := by decide +kernel
theorem dX10_kind_16 : decode cX10_kind 16 = .ok (.invokestatic 134, 3) := by decide +kernel
theorem dX10_kind_19 : decode cX10_kind 19 = .ok (.ifCond .eq 7, 3) := by decide +kernel
theorem dX10_kind_22 : decode cX10_kind 22 = .ok (.iconst 4, 1) := by decide +kernel
theorem dX10_kind_23 : decode cX10_kind 23 = .ok (.goto 9, 3) := by decide +kernel
theorem dX10_kind_26 : decode cX10_kind 26 = .ok (.aload_n 0, 1) := by decide +kernel
theorem dX10_kind_27 : decode cX10_kind 27 = .ok (.getfield 7, 3) := by decide +kernel
theorem dX10_kind_30 : decode cX10_kind 30 = .ok (.iload_n 1, 1) := by decide +kernel
theorem dX10_kind_31 : decode cX10_kind 31 = .ok (.iaload, 1) := by decide +kernel
theorem dX10_kind_32 : decode cX10_kind 32 = .ok (.ireturn, 1) := by decide +kernel
def f_X10_kind (p1 : Int32) (s0 : sh_S) : Option (Int32) := gu (inb p1 24) (ob (if (s0 1 (ix p1)) = (5 : Int32) then gu (inb p1 24) (ob (f_X10_through (s0 3 (ix p1))) (fun v5 => (if v5 = 0 then gu (inb p1 24) (some (s0 1 (ix p1))) else some (4 : Int32)))) else gu (inb p1 24) (some (s0 1 (ix p1)))) (fun v2 => some v2))
set_option maxRecDepth 100000 in
set_option maxHeartbeats 4000000 in
theorem c_X10_kind (p1 : Int32) (s0 : sh_S) (r : Int32) (hf : f_X10_kind p1 s0 = some r) : Ctr yX10_kind cX10_kind 2 (some .int) ({ frames := 1, cells := 0, slots := 0, locals := 20 } : Room) shM [.ref 0, .int p1] s0 (some (.int r)) s0 := by
  refine Ctr.mk (ri := .ireturn) (by decide) (Nat.le_of_ble_eq_true rfl) (Rt_i r) ?_
  intro G h hL hR hret
  refine k_drop (lv' := [(0, .ref 0), (1, .int p1)]) [0, 1] rfl ?_
  unfold f_X10_kind at hf
  refine k_aload_n (pc := 0) h dX10_kind_0 rfl 0 rfl ?_
  refine k_getR (pc := 1) h fl_RX10_7 rfl rfl dX10_kind_1 ?_
  refine k_iload_n (pc := 4) h dX10_kind_4 rfl 1 rfl ?_
  obtain ⟨g1, hf⟩ := gu_s hf
  refine k_iald (pc := 5) (n := 24) h rfl g1 dX10_kind_5 ?_
  refine k_iconst (pc := 6) h dX10_kind_6 kc_iconst_5 ?_
  obtain ⟨v2, hj, hf⟩ := ob_s hf
  have kj7 : sh_K G shM 32 [] [.int v2] s0 := by
    obtain rfl := so1 hf
    exact hret 32 _ dX10_kind_32 trivial
  clear hf
  have hf := hj
  clear hj
  refine k_icmp_ne (pc := 7) (tgt := 26) h dX10_kind_7 rfl (fun hc => ?_) (fun hc => ?_)
  · have hf := it_n hc hf
    refine k_aload_n (pc := 26) h dX10_kind_26 rfl 0 rfl ?_
    refine k_getR (pc := 27) h fl_RX10_7 rfl rfl dX10_kind_27 ?_
    refine k_iload_n (pc := 30) h dX10_kind_30 rfl 1 rfl ?_
    obtain ⟨g3, hf⟩ := gu_s hf
    refine k_iald (pc := 31) (n := 24) h rfl g3 dX10_kind_31 ?_
    obtain rfl := so1 hf
    exact k_drop [] rfl kj7
  · have hf := it_p hc hf
    refine k_aload_n (pc := 10) h dX10_kind_10 rfl 0 rfl ?_
    refine k_getR (pc := 11) h fl_RX10_16 rfl rfl dX10_kind_11 ?_
    refine k_iload_n (pc := 14) h dX10_kind_14 rfl 1 rfl ?_
    obtain ⟨g4, hf⟩ := gu_s hf
    refine k_iald (pc := 15) (n := 24) h rfl g4 dX10_kind_15 ?_
    obtain ⟨v5, cv5, hf⟩ := ob_s hf
    refine k_callSp (pc := 16) h cs_RX10_134 (c_X10_through (s0 3 (ix p1)) _ v5 cv5) rfl rfl (st1 := [.int v5]) rfl ⟨rfl, rfl⟩ (rk hR (Nat.le_of_ble_eq_true rfl) (Nat.le_of_ble_eq_true rfl)) (Nat.le_of_ble_eq_true rfl) dX10_kind_16 ?_
    refine k_if_eq (pc := 19) (tgt := 26) h dX10_kind_19 rfl (fun hc => ?_) (fun hc => ?_)
    · have hf := it_p hc hf
      refine k_aload_n (pc := 26) h dX10_kind_26 rfl 0 rfl ?_
      refine k_getR (pc := 27) h fl_RX10_7 rfl rfl dX10_kind_27 ?_
      refine k_iload_n (pc := 30) h dX10_kind_30 rfl 1 rfl ?_
      obtain ⟨g6, hf⟩ := gu_s hf
      refine k_iald (pc := 31) (n := 24) h rfl g6 dX10_kind_31 ?_
      obtain rfl := so1 hf
      exact k_drop [] rfl kj7
    · have hf := it_n hc hf
      refine k_iconst (pc := 22) h dX10_kind_22 kc_iconst_4 ?_
      refine k_goto (pc := 23) (tgt := 32) h dX10_kind_23 rfl ?_
      obtain rfl := so1 hf
      exact k_drop [] rfl kj7
theorem dX10_lends_0 : decode cX10_lends 0 = .ok (.aload_n 0, 1) := by decide +kernel
theorem dX10_lends_1 : decode cX10_lends 1 = .ok (.getfield 7, 3) := by decide +kernel
theorem dX10_lends_4 : decode cX10_lends 4 = .ok (.iload_n 1, 1) := by decide +kernel
theorem dX10_lends_5 : decode cX10_lends 5 = .ok (.iaload, 1) := by decide +kernel
theorem dX10_lends_6 : decode cX10_lends 6 = .ok (.iconst 3, 1) := by decide +kernel
theorem dX10_lends_7 : decode cX10_lends 7 = .ok (.iconst 5, 1) := by decide +kernel
theorem dX10_lends_8 : decode cX10_lends 8 = .ok (.invokestatic 93, 3) := by decide +kernel
theorem dX10_lends_11 : decode cX10_lends 11 = .ok (.ireturn, 1) := by decide +kernel
def f_X10_lends (p1 : Int32) (s0 : sh_S) : Option (Int32) := gu (inb p1 24) (ob (f_X10_in (s0 1 (ix p1)) (3 : Int32) (5 : Int32)) (fun v2 => gu (v2 = 0 ∨ v2 = 1) (some v2)))
set_option maxRecDepth 100000 in
set_option maxHeartbeats 4000000 in
theorem c_X10_lends (p1 : Int32) (s0 : sh_S) (r : Int32) (hf : f_X10_lends p1 s0 = some r) : Ctr yX10_lends cX10_lends 2 (some .boolean) ({ frames := 1, cells := 0, slots := 0, locals := 22 } : Room) shM [.ref 0, .int p1] s0 (some (.int r)) s0 := by
  refine Ctr.mk (ri := .ireturn) (by decide) (Nat.le_of_ble_eq_true rfl) (Rt_z r) ?_
  intro G h hL hR hret
  refine k_drop (lv' := [(0, .ref 0), (1, .int p1)]) [0, 1] rfl ?_
  unfold f_X10_lends at hf
  refine k_aload_n (pc := 0) h dX10_lends_0 rfl 0 rfl ?_
  refine k_getR (pc := 1) h fl_RX10_7 rfl rfl dX10_lends_1 ?_
  refine k_iload_n (pc := 4) h dX10_lends_4 rfl 1 rfl ?_
  obtain ⟨g1, hf⟩ := gu_s hf
  refine k_iald (pc := 5) (n := 24) h rfl g1 dX10_lends_5 ?_
  refine k_iconst (pc := 6) h dX10_lends_6 kc_iconst_3 ?_
  refine k_iconst (pc := 7) h dX10_lends_7 kc_iconst_5 ?_
  obtain ⟨v2, cv2, hf⟩ := ob_s hf
  refine k_callSp (pc := 8) h cs_RX10_93 (c_X10_in (s0 1 (ix p1)) (3 : Int32) (5 : Int32) _ v2 cv2) rfl rfl (st1 := [.int v2]) rfl ⟨rfl, rfl⟩ (rk hR (Nat.le_of_ble_eq_true rfl) (Nat.le_of_ble_eq_true rfl)) (Nat.le_of_ble_eq_true rfl) dX10_lends_8 ?_
  obtain ⟨g3, hf⟩ := gu_s hf
  obtain rfl := so1 hf
  exact hret 11 _ dX10_lends_11 g3
theorem dX10_there_0 : decode cX10_there 0 = .ok (.aload_n 0, 1) := by decide +kernel
theorem dX10_there_1 : decode cX10_there 1 = .ok (.iload_n 1, 1) := by decide +kernel
theorem dX10_there_2 : decode cX10_there 2 = .ok (.invokevirtual 109, 3) := by decide +kernel
theorem dX10_there_5 : decode cX10_there 5 = .ok (.ifCond .eq 9, 3) := by decide +kernel
theorem dX10_there_8 : decode cX10_there 8 = .ok (.iconst 1, 1) := by decide +kernel
theorem dX10_there_9 : decode cX10_there 9 = .ok (.iload_n 1, 1) := by decide +kernel
theorem dX10_there_10 : decode cX10_there 10 = .ok (.ishl, 1) := by decide +kernel
theorem dX10_there_11 : decode cX10_there 11 = .ok (.goto 4, 3) := by decide +kernel
theorem dX10_there_14 : decode cX10_there 14 = .ok (.iconst 0, 1) := by decide +kernel
theorem dX10_there_15 : decode cX10_there 15 = .ok (.ireturn, 1) := by decide +kernel
def f_X10_there (p1 : Int32) (s0 : sh_S) : Option (Int32) := ob (f_X10_isPoint p1 s0) (fun v1 => ob (if v1 = 0 then some (0 : Int32) else some ((1 : Int32) <<< (p1 &&& 31))) (fun v2 => some v2))
set_option maxRecDepth 100000 in
set_option maxHeartbeats 4000000 in
theorem c_X10_there (p1 : Int32) (s0 : sh_S) (r : Int32) (hf : f_X10_there p1 s0 = some r) : Ctr yX10_there cX10_there 2 (some .int) ({ frames := 2, cells := 0, slots := 0, locals := 43 } : Room) shM [.ref 0, .int p1] s0 (some (.int r)) s0 := by
  refine Ctr.mk (ri := .ireturn) (by decide) (Nat.le_of_ble_eq_true rfl) (Rt_i r) ?_
  intro G h hL hR hret
  refine k_drop (lv' := [(0, .ref 0), (1, .int p1)]) [0, 1] rfl ?_
  unfold f_X10_there at hf
  refine k_aload_n (pc := 0) h dX10_there_0 rfl 0 rfl ?_
  refine k_iload_n (pc := 1) h dX10_there_1 rfl 1 rfl ?_
  obtain ⟨v1, cv1, hf⟩ := ob_s hf
  refine k_callV0 (pc := 2) h cv_RX10_109 (c_X10_isPoint p1 s0 v1 cv1) rfl rfl rfl (st1 := [.int v1]) rfl ⟨rfl, rfl⟩ (rk hR (Nat.le_of_ble_eq_true rfl) (Nat.le_of_ble_eq_true rfl)) (Nat.le_of_ble_eq_true rfl) dX10_there_2 ?_
  obtain ⟨v2, hj, hf⟩ := ob_s hf
  have kj5 : sh_K G shM 15 [] [.int v2] s0 := by
    obtain rfl := so1 hf
    exact hret 15 _ dX10_there_15 trivial
  clear hf
  have hf := hj
  clear hj
  refine k_if_eq (pc := 5) (tgt := 14) h dX10_there_5 rfl (fun hc => ?_) (fun hc => ?_)
  · have hf := it_p hc hf
    refine k_iconst (pc := 14) h dX10_there_14 kc_iconst_0 ?_
    obtain rfl := so1 hf
    exact k_drop [] rfl kj5
  · have hf := it_n hc hf
    refine k_iconst (pc := 8) h dX10_there_8 kc_iconst_1 ?_
    refine k_iload_n (pc := 9) h dX10_there_9 rfl 1 rfl ?_
    refine k_ishl (pc := 10) h dX10_there_10 ?_
    refine k_goto (pc := 11) (tgt := 15) h dX10_there_11 rfl ?_
    obtain rfl := so1 hf
    exact k_drop [] rfl kj5
theorem dX10_nextOf_0 : decode cX10_nextOf 0 = .ok (.aload_n 0, 1) := by decide +kernel
theorem dX10_nextOf_1 : decode cX10_nextOf 1 = .ok (.getfield 7, 3) := by decide +kernel
theorem dX10_nextOf_4 : decode cX10_nextOf 4 = .ok (.iload_n 1, 1) := by decide +kernel
theorem dX10_nextOf_5 : decode cX10_nextOf 5 = .ok (.iaload, 1) := by decide +kernel
theorem dX10_nextOf_6 : decode cX10_nextOf 6 = .ok (.bipush 8, 2) := by decide +kernel
theorem dX10_nextOf_8 : decode cX10_nextOf 8 = .ok (.if_icmp .eq 14, 3) := by decide +kernel
theorem dX10_nextOf_11 : decode cX10_nextOf 11 = .ok (.aload_n 0, 1) := by decide +kernel
theorem dX10_nextOf_12 : decode cX10_nextOf 12 = .ok (.getfield 7, 3) := by decide +kernel
theorem dX10_nextOf_15 : decode cX10_nextOf 15 = .ok (.iload_n 1, 1) := by decide +kernel
theorem dX10_nextOf_16 : decode cX10_nextOf 16 = .ok (.iaload, 1) := by decide +kernel
theorem dX10_nextOf_17 : decode cX10_nextOf 17 = .ok (.bipush 9, 2) := by decide +kernel
theorem dX10_nextOf_19 : decode cX10_nextOf 19 = .ok (.if_icmp .ne 7, 3) := by decide +kernel
theorem dX10_nextOf_22 : decode cX10_nextOf 22 = .ok (.iconst 0, 1) := by decide +kernel
theorem dX10_nextOf_23 : decode cX10_nextOf 23 = .ok (.goto 10, 3) := by decide +kernel
theorem dX10_nextOf_26 : decode cX10_nextOf 26 = .ok (.aload_n 0, 1) := by decide +kernel
theorem dX10_nextOf_27 : decode cX10_nextOf 27 = .ok (.iload_n 1, 1) := by decide +kernel
theorem dX10_nextOf_28 : decode cX10_nextOf 28 = .ok (.iconst 1, 1) := by decide +kernel
theorem dX10_nextOf_29 : decode cX10_nextOf 29 = .ok (.iadd, 1) := by decide +kernel
theorem dX10_nextOf_30 : decode cX10_nextOf 30 = .ok (.invokevirtual 137, 3) := by decide +kernel
theorem dX10_nextOf_33 : decode cX10_nextOf 33 = .ok (.istore_n 2, 1) := by decide +kernel
theorem dX10_nextOf_34 : decode cX10_nextOf 34 = .ok (.aload_n 0, 1) := by decide +kernel
theorem dX10_nextOf_35 : decode cX10_nextOf 35 = .ok (.getfield 7, 3) := by decide +kernel
theorem dX10_nextOf_38 : decode cX10_nextOf 38 = .ok (.iload_n 1, 1) := by decide +kernel
theorem dX10_nextOf_39 : decode cX10_nextOf 39 = .ok (.iaload, 1) := by decide +kernel
theorem dX10_nextOf_40 : decode cX10_nextOf 40 = .ok (.bipush 8, 2) := by decide +kernel
theorem dX10_nextOf_42 : decode cX10_nextOf 42 = .ok (.if_icmp .eq 14, 3) := by decide +kernel
theorem dX10_nextOf_45 : decode cX10_nextOf 45 = .ok (.aload_n 0, 1) := by decide +kernel
theorem dX10_nextOf_46 : decode cX10_nextOf 46 = .ok (.getfield 7, 3) := by decide +kernel
theorem dX10_nextOf_49 : decode cX10_nextOf 49 = .ok (.iload_n 1, 1) := by decide +kernel
theorem dX10_nextOf_50 : decode cX10_nextOf 50 = .ok (.iaload, 1) := by decide +kernel
theorem dX10_nextOf_51 : decode cX10_nextOf 51 = .ok (.bipush 7, 2) := by decide +kernel
theorem dX10_nextOf_53 : decode cX10_nextOf 53 = .ok (.if_icmp .ne 16, 3) := by decide +kernel
theorem dX10_nextOf_56 : decode cX10_nextOf 56 = .ok (.aload_n 0, 1) := by decide +kernel
theorem dX10_nextOf_57 : decode cX10_nextOf 57 = .ok (.aload_n 0, 1) := by decide +kernel
theorem dX10_nextOf_58 : decode cX10_nextOf 58 = .ok (.getfield 19, 3) := by decide +kernel
theorem dX10_nextOf_61 : decode cX10_nextOf 61 = .ok (.iload_n 1, 1) := by decide +kernel
theorem dX10_nextOf_62 : decode cX10_nextOf 62 = .ok (.iaload, 1) := by decide +kernel
theorem dX10_nextOf_63 : decode cX10_nextOf 63 = .ok (.invokevirtual 137, 3) := by decide +kernel
theorem dX10_nextOf_66 : decode cX10_nextOf 66 = .ok (.goto 4, 3) := by decide +kernel
theorem dX10_nextOf_69 : decode cX10_nextOf 69 = .ok (.iconst 0, 1) := by decide +kernel
theorem dX10_nextOf_70 : decode cX10_nextOf 70 = .ok (.istore_n 3, 1) := by decide +kernel
theorem dX10_nextOf_71 : decode cX10_nextOf 71 = .ok (.iload_n 2, 1) := by decide +kernel
theorem dX10_nextOf_72 : decode cX10_nextOf 72 = .ok (.iload_n 3, 1) := by decide +kernel
theorem dX10_nextOf_73 : decode cX10_nextOf 73 = .ok (.ior, 1) := by decide +kernel
theorem dX10_nextOf_74 : decode cX10_nextOf 74 = .ok (.ireturn, 1) := by decide +kernel
def f_X10_nextOf (p1 : Int32) (s0 : sh_S) : Option (Int32) := gu (inb p1 24) (ob (if (s0 1 (ix p1)) = (8 : Int32) then some (0 : Int32) else gu (inb p1 24) ((if (s0 1 (ix p1)) = (9 : Int32) then some (0 : Int32) else ob (f_X10_there (p1 + (1 : Int32)) s0) (fun v4 => some v4)))) (fun v2 => gu (inb p1 24) (ob (if (s0 1 (ix p1)) = (8 : Int32) then gu (inb p1 24) (ob (f_X10_there (s0 4 (ix p1)) s0) (fun v8 => some v8)) else gu (inb p1 24) ((if (s0 1 (ix p1)) = (7 : Int32) then gu (inb p1 24) (ob (f_X10_there (s0 4 (ix p1)) s0) (fun v11 => some v11)) else some (0 : Int32)))) (fun v6 => some (v2 ||| v6)))))
set_option maxRecDepth 100000 in
set_option maxHeartbeats 4000000 in
theorem c_X10_nextOf (p1 : Int32) (s0 : sh_S) (r : Int32) (hf : f_X10_nextOf p1 s0 = some r) : Ctr yX10_nextOf cX10_nextOf 4 (some .int) ({ frames := 3, cells := 0, slots := 0, locals := 64 } : Room) shM [.ref 0, .int p1] s0 (some (.int r)) s0 := by
  refine Ctr.mk (ri := .ireturn) (by decide) (Nat.le_of_ble_eq_true rfl) (Rt_i r) ?_
  intro G h hL hR hret
  refine k_drop (lv' := [(0, .ref 0), (1, .int p1)]) [0, 1] rfl ?_
  unfold f_X10_nextOf at hf
  refine k_aload_n (pc := 0) h dX10_nextOf_0 rfl 0 rfl ?_
  refine k_getR (pc := 1) h fl_RX10_7 rfl rfl dX10_nextOf_1 ?_
  refine k_iload_n (pc := 4) h dX10_nextOf_4 rfl 1 rfl ?_
  obtain ⟨g1, hf⟩ := gu_s hf
  refine k_iald (pc := 5) (n := 24) h rfl g1 dX10_nextOf_5 ?_
  refine k_bipush (pc := 6) h dX10_nextOf_6 kc_bipush_8 ?_
  obtain ⟨v2, hj, hf⟩ := ob_s hf
  have kj8 : sh_K G shM 33 [(0, .ref 0), (1, .int p1)] [.int v2] s0 := by
    refine k_istore_n (pc := 33) h dX10_nextOf_33 rfl (nk hL (by decide)) (lv' := [(0, .ref 0), (1, .int p1), (2, .int v2)]) rfl ?_
    refine k_aload_n (pc := 34) h dX10_nextOf_34 rfl 0 rfl ?_
    refine k_getR (pc := 35) h fl_RX10_7 rfl rfl dX10_nextOf_35 ?_
    refine k_iload_n (pc := 38) h dX10_nextOf_38 rfl 1 rfl ?_
    obtain ⟨g5, hf⟩ := gu_s hf
    refine k_iald (pc := 39) (n := 24) h rfl g5 dX10_nextOf_39 ?_
    refine k_bipush (pc := 40) h dX10_nextOf_40 kc_bipush_8 ?_
    obtain ⟨v6, hj, hf⟩ := ob_s hf
    have kj42 : sh_K G shM 70 [(2, .int v2)] [.int v6] s0 := by
      refine k_istore_n (pc := 70) h dX10_nextOf_70 rfl (nk hL (by decide)) (lv' := [(2, .int v2), (3, .int v6)]) rfl ?_
      refine k_iload_n (pc := 71) h dX10_nextOf_71 rfl 0 rfl ?_
      refine k_iload_n (pc := 72) h dX10_nextOf_72 rfl 1 rfl ?_
      refine k_ior (pc := 73) h dX10_nextOf_73 ?_
      obtain rfl := so1 hf
      exact hret 74 _ dX10_nextOf_74 trivial
    clear hf
    have hf := hj
    clear hj
    refine k_icmp_eq (pc := 42) (tgt := 56) h dX10_nextOf_42 rfl (fun hc => ?_) (fun hc => ?_)
    · have hf := it_p hc hf
      refine k_aload_n (pc := 56) h dX10_nextOf_56 rfl 0 rfl ?_
      refine k_aload_n (pc := 57) h dX10_nextOf_57 rfl 0 rfl ?_
      refine k_getR (pc := 58) h fl_RX10_19 rfl rfl dX10_nextOf_58 ?_
      refine k_iload_n (pc := 61) h dX10_nextOf_61 rfl 1 rfl ?_
      obtain ⟨g7, hf⟩ := gu_s hf
      refine k_iald (pc := 62) (n := 24) h rfl g7 dX10_nextOf_62 ?_
      obtain ⟨v8, cv8, hf⟩ := ob_s hf
      refine k_callV0 (pc := 63) h cv_RX10_137 (c_X10_there (s0 4 (ix p1)) s0 v8 cv8) rfl rfl rfl (st1 := [.int v8]) rfl ⟨rfl, rfl⟩ (rk hR (Nat.le_of_ble_eq_true rfl) (Nat.le_of_ble_eq_true rfl)) (Nat.le_of_ble_eq_true rfl) dX10_nextOf_63 ?_
      refine k_goto (pc := 66) (tgt := 70) h dX10_nextOf_66 rfl ?_
      obtain rfl := so1 hf
      exact k_drop [2] rfl kj42
    · have hf := it_n hc hf
      refine k_aload_n (pc := 45) h dX10_nextOf_45 rfl 0 rfl ?_
      refine k_getR (pc := 46) h fl_RX10_7 rfl rfl dX10_nextOf_46 ?_
      refine k_iload_n (pc := 49) h dX10_nextOf_49 rfl 1 rfl ?_
      obtain ⟨g9, hf⟩ := gu_s hf
      refine k_iald (pc := 50) (n := 24) h rfl g9 dX10_nextOf_50 ?_
      refine k_bipush (pc := 51) h dX10_nextOf_51 kc_bipush_7 ?_
      refine k_icmp_ne (pc := 53) (tgt := 69) h dX10_nextOf_53 rfl (fun hc => ?_) (fun hc => ?_)
      · have hf := it_n hc hf
        refine k_iconst (pc := 69) h dX10_nextOf_69 kc_iconst_0 ?_
        obtain rfl := so1 hf
        exact k_drop [2] rfl kj42
      · have hf := it_p hc hf
        refine k_aload_n (pc := 56) h dX10_nextOf_56 rfl 0 rfl ?_
        refine k_aload_n (pc := 57) h dX10_nextOf_57 rfl 0 rfl ?_
        refine k_getR (pc := 58) h fl_RX10_19 rfl rfl dX10_nextOf_58 ?_
        refine k_iload_n (pc := 61) h dX10_nextOf_61 rfl 1 rfl ?_
        obtain ⟨g10, hf⟩ := gu_s hf
        refine k_iald (pc := 62) (n := 24) h rfl g10 dX10_nextOf_62 ?_
        obtain ⟨v11, cv11, hf⟩ := ob_s hf
        refine k_callV0 (pc := 63) h cv_RX10_137 (c_X10_there (s0 4 (ix p1)) s0 v11 cv11) rfl rfl rfl (st1 := [.int v11]) rfl ⟨rfl, rfl⟩ (rk hR (Nat.le_of_ble_eq_true rfl) (Nat.le_of_ble_eq_true rfl)) (Nat.le_of_ble_eq_true rfl) dX10_nextOf_63 ?_
        refine k_goto (pc := 66) (tgt := 70) h dX10_nextOf_66 rfl ?_
        obtain rfl := so1 hf
        exact k_drop [2] rfl kj42
  clear hf
  have hf := hj
  clear hj
  refine k_icmp_eq (pc := 8) (tgt := 22) h dX10_nextOf_8 rfl (fun hc => ?_) (fun hc => ?_)
  · have hf := it_p hc hf
    refine k_iconst (pc := 22) h dX10_nextOf_22 kc_iconst_0 ?_
    refine k_goto (pc := 23) (tgt := 33) h dX10_nextOf_23 rfl ?_
    obtain rfl := so1 hf
    exact k_drop [0, 1] rfl kj8
  · have hf := it_n hc hf
    refine k_aload_n (pc := 11) h dX10_nextOf_11 rfl 0 rfl ?_
    refine k_getR (pc := 12) h fl_RX10_7 rfl rfl dX10_nextOf_12 ?_
    refine k_iload_n (pc := 15) h dX10_nextOf_15 rfl 1 rfl ?_
    obtain ⟨g3, hf⟩ := gu_s hf
    refine k_iald (pc := 16) (n := 24) h rfl g3 dX10_nextOf_16 ?_
    refine k_bipush (pc := 17) h dX10_nextOf_17 kc_bipush_9 ?_
    refine k_icmp_ne (pc := 19) (tgt := 26) h dX10_nextOf_19 rfl (fun hc => ?_) (fun hc => ?_)
    · have hf := it_n hc hf
      refine k_aload_n (pc := 26) h dX10_nextOf_26 rfl 0 rfl ?_
      refine k_iload_n (pc := 27) h dX10_nextOf_27 rfl 1 rfl ?_
      refine k_iconst (pc := 28) h dX10_nextOf_28 kc_iconst_1 ?_
      refine k_iadd (pc := 29) h dX10_nextOf_29 ?_
      obtain ⟨v4, cv4, hf⟩ := ob_s hf
      refine k_callV0 (pc := 30) h cv_RX10_137 (c_X10_there (p1 + (1 : Int32)) s0 v4 cv4) rfl rfl rfl (st1 := [.int v4]) rfl ⟨rfl, rfl⟩ (rk hR (Nat.le_of_ble_eq_true rfl) (Nat.le_of_ble_eq_true rfl)) (Nat.le_of_ble_eq_true rfl) dX10_nextOf_30 ?_
      obtain rfl := so1 hf
      exact k_drop [0, 1] rfl kj8
    · have hf := it_p hc hf
      refine k_iconst (pc := 22) h dX10_nextOf_22 kc_iconst_0 ?_
      refine k_goto (pc := 23) (tgt := 33) h dX10_nextOf_23 rfl ?_
      obtain rfl := so1 hf
      exact k_drop [0, 1] rfl kj8
theorem dX10_next_0 : decode cX10_next 0 = .ok (.aload_n 0, 1) := by decide +kernel
theorem dX10_next_1 : decode cX10_next 1 = .ok (.iload_n 1, 1) := by decide +kernel
theorem dX10_next_2 : decode cX10_next 2 = .ok (.invokevirtual 109, 3) := by decide +kernel
theorem dX10_next_5 : decode cX10_next 5 = .ok (.ifCond .eq 11, 3) := by decide +kernel
theorem dX10_next_8 : decode cX10_next 8 = .ok (.aload_n 0, 1) := by decide +kernel
theorem dX10_next_9 : decode cX10_next 9 = .ok (.iload_n 1, 1) := by decide +kernel
theorem dX10_next_10 : decode cX10_next 10 = .ok (.invokevirtual 140, 3) := by decide +kernel
theorem dX10_next_13 : decode cX10_next 13 = .ok (.goto 5, 3) := by decide +kernel
theorem dX10_next_16 : decode cX10_next 16 = .ok (.bipush (-2), 2) := by decide +kernel
theorem dX10_next_18 : decode cX10_next 18 = .ok (.ireturn, 1) := by decide +kernel
def f_X10_next (p1 : Int32) (s0 : sh_S) : Option (Int32) := ob (f_X10_isPoint p1 s0) (fun v1 => ob (if v1 = 0 then some (-2 : Int32) else ob (f_X10_nextOf p1 s0) (fun v3 => some v3)) (fun v2 => some v2))
set_option maxRecDepth 100000 in
set_option maxHeartbeats 4000000 in
theorem c_X10_next (p1 : Int32) (s0 : sh_S) (r : Int32) (hf : f_X10_next p1 s0 = some r) : Ctr yX10_next cX10_next 2 (some .int) ({ frames := 4, cells := 0, slots := 0, locals := 87 } : Room) shM [.ref 0, .int p1] s0 (some (.int r)) s0 := by
  refine Ctr.mk (ri := .ireturn) (by decide) (Nat.le_of_ble_eq_true rfl) (Rt_i r) ?_
  intro G h hL hR hret
  refine k_drop (lv' := [(0, .ref 0), (1, .int p1)]) [0, 1] rfl ?_
  unfold f_X10_next at hf
  refine k_aload_n (pc := 0) h dX10_next_0 rfl 0 rfl ?_
  refine k_iload_n (pc := 1) h dX10_next_1 rfl 1 rfl ?_
  obtain ⟨v1, cv1, hf⟩ := ob_s hf
  refine k_callV0 (pc := 2) h cv_RX10_109 (c_X10_isPoint p1 s0 v1 cv1) rfl rfl rfl (st1 := [.int v1]) rfl ⟨rfl, rfl⟩ (rk hR (Nat.le_of_ble_eq_true rfl) (Nat.le_of_ble_eq_true rfl)) (Nat.le_of_ble_eq_true rfl) dX10_next_2 ?_
  obtain ⟨v2, hj, hf⟩ := ob_s hf
  have kj5 : sh_K G shM 18 [] [.int v2] s0 := by
    obtain rfl := so1 hf
    exact hret 18 _ dX10_next_18 trivial
  clear hf
  have hf := hj
  clear hj
  refine k_if_eq (pc := 5) (tgt := 16) h dX10_next_5 rfl (fun hc => ?_) (fun hc => ?_)
  · have hf := it_p hc hf
    refine k_bipush (pc := 16) h dX10_next_16 kc_bipush_m2 ?_
    obtain rfl := so1 hf
    exact k_drop [] rfl kj5
  · have hf := it_n hc hf
    refine k_aload_n (pc := 8) h dX10_next_8 rfl 0 rfl ?_
    refine k_iload_n (pc := 9) h dX10_next_9 rfl 1 rfl ?_
    obtain ⟨v3, cv3, hf⟩ := ob_s hf
    refine k_callV0 (pc := 10) h cv_RX10_140 (c_X10_nextOf p1 s0 v3 cv3) rfl rfl rfl (st1 := [.int v3]) rfl ⟨rfl, rfl⟩ (rk hR (Nat.le_of_ble_eq_true rfl) (Nat.le_of_ble_eq_true rfl)) (Nat.le_of_ble_eq_true rfl) dX10_next_10 ?_
    refine k_goto (pc := 13) (tgt := 18) h dX10_next_13 rfl ?_
    obtain rfl := so1 hf
    exact k_drop [] rfl kj5
theorem dX10_readsOf_0 : decode cX10_readsOf 0 = .ok (.iconst 1, 1) := by decide +kernel
theorem dX10_readsOf_1 : decode cX10_readsOf 1 = .ok (.aload_n 0, 1) := by decide +kernel
theorem dX10_readsOf_2 : decode cX10_readsOf 2 = .ok (.getfield 16, 3) := by decide +kernel
theorem dX10_readsOf_5 : decode cX10_readsOf 5 = .ok (.iload_n 1, 1) := by decide +kernel
theorem dX10_readsOf_6 : decode cX10_readsOf 6 = .ok (.iaload, 1) := by decide +kernel
theorem dX10_readsOf_7 : decode cX10_readsOf 7 = .ok (.invokestatic 128, 3) := by decide +kernel
theorem dX10_readsOf_10 : decode cX10_readsOf 10 = .ok (.ishl, 1) := by decide +kernel
theorem dX10_readsOf_11 : decode cX10_readsOf 11 = .ok (.istore_n 2, 1) := by decide +kernel
theorem dX10_readsOf_12 : decode cX10_readsOf 12 = .ok (.aload_n 0, 1) := by decide +kernel
theorem dX10_readsOf_13 : decode cX10_readsOf 13 = .ok (.getfield 7, 3) := by decide +kernel
theorem dX10_readsOf_16 : decode cX10_readsOf 16 = .ok (.iload_n 1, 1) := by decide +kernel
theorem dX10_readsOf_17 : decode cX10_readsOf 17 = .ok (.iaload, 1) := by decide +kernel
theorem dX10_readsOf_18 : decode cX10_readsOf 18 = .ok (.iconst 1, 1) := by decide +kernel
theorem dX10_readsOf_19 : decode cX10_readsOf 19 = .ok (.if_icmp .eq 14, 3) := by decide +kernel
theorem dX10_readsOf_22 : decode cX10_readsOf 22 = .ok (.aload_n 0, 1) := by decide +kernel
theorem dX10_readsOf_23 : decode cX10_readsOf 23 = .ok (.getfield 7, 3) := by decide +kernel
theorem dX10_readsOf_26 : decode cX10_readsOf 26 = .ok (.iload_n 1, 1) := by decide +kernel
theorem dX10_readsOf_27 : decode cX10_readsOf 27 = .ok (.iaload, 1) := by decide +kernel
theorem dX10_readsOf_28 : decode cX10_readsOf 28 = .ok (.bipush 6, 2) := by decide +kernel
theorem dX10_readsOf_30 : decode cX10_readsOf 30 = .ok (.if_icmp .ne 7, 3) := by decide +kernel
theorem dX10_readsOf_33 : decode cX10_readsOf 33 = .ok (.iload_n 2, 1) := by decide +kernel
theorem dX10_readsOf_34 : decode cX10_readsOf 34 = .ok (.goto 34, 3) := by decide +kernel
theorem dX10_readsOf_37 : decode cX10_readsOf 37 = .ok (.aload_n 0, 1) := by decide +kernel
theorem dX10_readsOf_38 : decode cX10_readsOf 38 = .ok (.getfield 7, 3) := by decide +kernel
theorem dX10_readsOf_41 : decode cX10_readsOf 41 = .ok (.iload_n 1, 1) := by decide +kernel
theorem dX10_readsOf_42 : decode cX10_readsOf 42 = .ok (.iaload, 1) := by decide +kernel
theorem dX10_readsOf_43 : decode cX10_readsOf 43 = .ok (.iconst 2, 1) := by decide +kernel
theorem dX10_readsOf_44 : decode cX10_readsOf 44 = .ok (.iconst 5, 1) := by decide +kernel
theorem dX10_readsOf_45 : decode cX10_readsOf 45 = .ok (.invokestatic 93, 3) := by decide +kernel
theorem dX10_readsOf_48 : decode cX10_readsOf 48 = .ok (.ifCond .eq 19, 3) := by decide +kernel
theorem dX10_readsOf_51 : decode cX10_readsOf 51 = .ok (.aload_n 0, 1) := by decide +kernel
theorem dX10_readsOf_52 : decode cX10_readsOf 52 = .ok (.getfield 16, 3) := by decide +kernel
theorem dX10_readsOf_55 : decode cX10_readsOf 55 = .ok (.iload_n 1, 1) := by decide +kernel
theorem dX10_readsOf_56 : decode cX10_readsOf 56 = .ok (.iaload, 1) := by decide +kernel
theorem dX10_readsOf_57 : decode cX10_readsOf 57 = .ok (.invokestatic 134, 3) := by decide +kernel
theorem dX10_readsOf_60 : decode cX10_readsOf 60 = .ok (.ifCond .eq 7, 3) := by decide +kernel
theorem dX10_readsOf_63 : decode cX10_readsOf 63 = .ok (.iload_n 2, 1) := by decide +kernel
theorem dX10_readsOf_64 : decode cX10_readsOf 64 = .ok (.goto 4, 3) := by decide +kernel
theorem dX10_readsOf_67 : decode cX10_readsOf 67 = .ok (.iconst 0, 1) := by decide +kernel
theorem dX10_readsOf_68 : decode cX10_readsOf 68 = .ok (.ireturn, 1) := by decide +kernel
def f_X10_readsOf (p1 : Int32) (s0 : sh_S) : Option (Int32) := gu (inb p1 24) (ob (f_X10_variable (s0 3 (ix p1))) (fun v2 => lb (((1 : Int32) <<< (v2 &&& 31))) (fun v3 => gu (inb p1 24) (ob (if (s0 1 (ix p1)) = (1 : Int32) then some v3 else gu (inb p1 24) ((if (s0 1 (ix p1)) = (6 : Int32) then some v3 else gu (inb p1 24) (ob (f_X10_in (s0 1 (ix p1)) (2 : Int32) (5 : Int32)) (fun v8 => (if v8 = 0 then some (0 : Int32) else gu (inb p1 24) (ob (f_X10_through (s0 3 (ix p1))) (fun v10 => (if v10 = 0 then some (0 : Int32) else some v3))))))))) (fun v5 => some v5)))))
set_option maxRecDepth 100000 in
set_option maxHeartbeats 4000000 in
theorem c_X10_readsOf (p1 : Int32) (s0 : sh_S) (r : Int32) (hf : f_X10_readsOf p1 s0 = some r) : Ctr yX10_readsOf cX10_readsOf 3 (some .int) ({ frames := 1, cells := 0, slots := 0, locals := 22 } : Room) shM [.ref 0, .int p1] s0 (some (.int r)) s0 := by
  refine Ctr.mk (ri := .ireturn) (by decide) (Nat.le_of_ble_eq_true rfl) (Rt_i r) ?_
  intro G h hL hR hret
  refine k_drop (lv' := [(0, .ref 0), (1, .int p1)]) [0, 1] rfl ?_
  unfold f_X10_readsOf at hf
  refine k_iconst (pc := 0) h dX10_readsOf_0 kc_iconst_1 ?_
  refine k_aload_n (pc := 1) h dX10_readsOf_1 rfl 0 rfl ?_
  refine k_getR (pc := 2) h fl_RX10_16 rfl rfl dX10_readsOf_2 ?_
  refine k_iload_n (pc := 5) h dX10_readsOf_5 rfl 1 rfl ?_
  obtain ⟨g1, hf⟩ := gu_s hf
  refine k_iald (pc := 6) (n := 24) h rfl g1 dX10_readsOf_6 ?_
  obtain ⟨v2, cv2, hf⟩ := ob_s hf
  refine k_callSp (pc := 7) h cs_RX10_128 (c_X10_variable (s0 3 (ix p1)) _ v2 cv2) rfl rfl (st1 := [.int v2, .int (1 : Int32)]) rfl ⟨rfl, rfl⟩ (rk hR (Nat.le_of_ble_eq_true rfl) (Nat.le_of_ble_eq_true rfl)) (Nat.le_of_ble_eq_true rfl) dX10_readsOf_7 ?_
  refine k_ishl (pc := 10) h dX10_readsOf_10 ?_
  obtain ⟨v3, ev3, hf⟩ := lb_s hf
  refine k_top ev3 ?_
  refine k_istore_n (pc := 11) h dX10_readsOf_11 rfl (nk hL (by decide)) (lv' := [(0, .ref 0), (1, .int p1), (2, .int v3)]) rfl ?_
  refine k_aload_n (pc := 12) h dX10_readsOf_12 rfl 0 rfl ?_
  refine k_getR (pc := 13) h fl_RX10_7 rfl rfl dX10_readsOf_13 ?_
  refine k_iload_n (pc := 16) h dX10_readsOf_16 rfl 1 rfl ?_
  obtain ⟨g4, hf⟩ := gu_s hf
  refine k_iald (pc := 17) (n := 24) h rfl g4 dX10_readsOf_17 ?_
  refine k_iconst (pc := 18) h dX10_readsOf_18 kc_iconst_1 ?_
  obtain ⟨v5, hj, hf⟩ := ob_s hf
  have kj19 : sh_K G shM 68 [] [.int v5] s0 := by
    obtain rfl := so1 hf
    exact hret 68 _ dX10_readsOf_68 trivial
  clear hf
  have hf := hj
  clear hj
  refine k_icmp_eq (pc := 19) (tgt := 33) h dX10_readsOf_19 rfl (fun hc => ?_) (fun hc => ?_)
  · have hf := it_p hc hf
    refine k_iload_n (pc := 33) h dX10_readsOf_33 rfl 2 rfl ?_
    refine k_goto (pc := 34) (tgt := 68) h dX10_readsOf_34 rfl ?_
    obtain rfl := so1 hf
    exact k_drop [] rfl kj19
  · have hf := it_n hc hf
    refine k_aload_n (pc := 22) h dX10_readsOf_22 rfl 0 rfl ?_
    refine k_getR (pc := 23) h fl_RX10_7 rfl rfl dX10_readsOf_23 ?_
    refine k_iload_n (pc := 26) h dX10_readsOf_26 rfl 1 rfl ?_
    obtain ⟨g6, hf⟩ := gu_s hf
    refine k_iald (pc := 27) (n := 24) h rfl g6 dX10_readsOf_27 ?_
    refine k_bipush (pc := 28) h dX10_readsOf_28 kc_bipush_6 ?_
    refine k_icmp_ne (pc := 30) (tgt := 37) h dX10_readsOf_30 rfl (fun hc => ?_) (fun hc => ?_)
    · have hf := it_n hc hf
      refine k_aload_n (pc := 37) h dX10_readsOf_37 rfl 0 rfl ?_
      refine k_getR (pc := 38) h fl_RX10_7 rfl rfl dX10_readsOf_38 ?_
      refine k_iload_n (pc := 41) h dX10_readsOf_41 rfl 1 rfl ?_
      obtain ⟨g7, hf⟩ := gu_s hf
      refine k_iald (pc := 42) (n := 24) h rfl g7 dX10_readsOf_42 ?_
      refine k_iconst (pc := 43) h dX10_readsOf_43 kc_iconst_2 ?_
      refine k_iconst (pc := 44) h dX10_readsOf_44 kc_iconst_5 ?_
      obtain ⟨v8, cv8, hf⟩ := ob_s hf
      refine k_callSp (pc := 45) h cs_RX10_93 (c_X10_in (s0 1 (ix p1)) (2 : Int32) (5 : Int32) _ v8 cv8) rfl rfl (st1 := [.int v8]) rfl ⟨rfl, rfl⟩ (rk hR (Nat.le_of_ble_eq_true rfl) (Nat.le_of_ble_eq_true rfl)) (Nat.le_of_ble_eq_true rfl) dX10_readsOf_45 ?_
      refine k_if_eq (pc := 48) (tgt := 67) h dX10_readsOf_48 rfl (fun hc => ?_) (fun hc => ?_)
      · have hf := it_p hc hf
        refine k_iconst (pc := 67) h dX10_readsOf_67 kc_iconst_0 ?_
        obtain rfl := so1 hf
        exact k_drop [] rfl kj19
      · have hf := it_n hc hf
        refine k_aload_n (pc := 51) h dX10_readsOf_51 rfl 0 rfl ?_
        refine k_getR (pc := 52) h fl_RX10_16 rfl rfl dX10_readsOf_52 ?_
        refine k_iload_n (pc := 55) h dX10_readsOf_55 rfl 1 rfl ?_
        obtain ⟨g9, hf⟩ := gu_s hf
        refine k_iald (pc := 56) (n := 24) h rfl g9 dX10_readsOf_56 ?_
        obtain ⟨v10, cv10, hf⟩ := ob_s hf
        refine k_callSp (pc := 57) h cs_RX10_134 (c_X10_through (s0 3 (ix p1)) _ v10 cv10) rfl rfl (st1 := [.int v10]) rfl ⟨rfl, rfl⟩ (rk hR (Nat.le_of_ble_eq_true rfl) (Nat.le_of_ble_eq_true rfl)) (Nat.le_of_ble_eq_true rfl) dX10_readsOf_57 ?_
        refine k_if_eq (pc := 60) (tgt := 67) h dX10_readsOf_60 rfl (fun hc => ?_) (fun hc => ?_)
        · have hf := it_p hc hf
          refine k_iconst (pc := 67) h dX10_readsOf_67 kc_iconst_0 ?_
          obtain rfl := so1 hf
          exact k_drop [] rfl kj19
        · have hf := it_n hc hf
          refine k_iload_n (pc := 63) h dX10_readsOf_63 rfl 2 rfl ?_
          refine k_goto (pc := 64) (tgt := 68) h dX10_readsOf_64 rfl ?_
          obtain rfl := so1 hf
          exact k_drop [] rfl kj19
    · have hf := it_p hc hf
      refine k_iload_n (pc := 33) h dX10_readsOf_33 rfl 2 rfl ?_
      refine k_goto (pc := 34) (tgt := 68) h dX10_readsOf_34 rfl ?_
      obtain rfl := so1 hf
      exact k_drop [] rfl kj19
theorem dX10_writesOf_0 : decode cX10_writesOf 0 = .ok (.iconst 1, 1) := by decide +kernel
theorem dX10_writesOf_1 : decode cX10_writesOf 1 = .ok (.aload_n 0, 1) := by decide +kernel
theorem dX10_writesOf_2 : decode cX10_writesOf 2 = .ok (.getfield 16, 3) := by decide +kernel
theorem dX10_writesOf_5 : decode cX10_writesOf 5 = .ok (.iload_n 1, 1) := by decide +kernel
theorem dX10_writesOf_6 : decode cX10_writesOf 6 = .ok (.iaload, 1) := by decide +kernel
theorem dX10_writesOf_7 : decode cX10_writesOf 7 = .ok (.invokestatic 128, 3) := by decide +kernel
theorem dX10_writesOf_10 : decode cX10_writesOf 10 = .ok (.ishl, 1) := by decide +kernel
theorem dX10_writesOf_11 : decode cX10_writesOf 11 = .ok (.istore_n 2, 1) := by decide +kernel
theorem dX10_writesOf_12 : decode cX10_writesOf 12 = .ok (.iconst 1, 1) := by decide +kernel
theorem dX10_writesOf_13 : decode cX10_writesOf 13 = .ok (.aload_n 0, 1) := by decide +kernel
theorem dX10_writesOf_14 : decode cX10_writesOf 14 = .ok (.getfield 13, 3) := by decide +kernel
theorem dX10_writesOf_17 : decode cX10_writesOf 17 = .ok (.iload_n 1, 1) := by decide +kernel
theorem dX10_writesOf_18 : decode cX10_writesOf 18 = .ok (.iaload, 1) := by decide +kernel
theorem dX10_writesOf_19 : decode cX10_writesOf 19 = .ok (.ishl, 1) := by decide +kernel
theorem dX10_writesOf_20 : decode cX10_writesOf 20 = .ok (.istore_n 3, 1) := by decide +kernel
theorem dX10_writesOf_21 : decode cX10_writesOf 21 = .ok (.aload_n 0, 1) := by decide +kernel
theorem dX10_writesOf_22 : decode cX10_writesOf 22 = .ok (.getfield 7, 3) := by decide +kernel
theorem dX10_writesOf_25 : decode cX10_writesOf 25 = .ok (.iload_n 1, 1) := by decide +kernel
theorem dX10_writesOf_26 : decode cX10_writesOf 26 = .ok (.iaload, 1) := by decide +kernel
theorem dX10_writesOf_27 : decode cX10_writesOf 27 = .ok (.iconst 2, 1) := by decide +kernel
theorem dX10_writesOf_28 : decode cX10_writesOf 28 = .ok (.if_icmp .ne 19, 3) := by decide +kernel
theorem dX10_writesOf_31 : decode cX10_writesOf 31 = .ok (.aload_n 0, 1) := by decide +kernel
theorem dX10_writesOf_32 : decode cX10_writesOf 32 = .ok (.getfield 16, 3) := by decide +kernel
theorem dX10_writesOf_35 : decode cX10_writesOf 35 = .ok (.iload_n 1, 1) := by decide +kernel
theorem dX10_writesOf_36 : decode cX10_writesOf 36 = .ok (.iaload, 1) := by decide +kernel
theorem dX10_writesOf_37 : decode cX10_writesOf 37 = .ok (.invokestatic 134, 3) := by decide +kernel
theorem dX10_writesOf_40 : decode cX10_writesOf 40 = .ok (.ifCond .ne 7, 3) := by decide +kernel
theorem dX10_writesOf_43 : decode cX10_writesOf 43 = .ok (.iload_n 2, 1) := by decide +kernel
theorem dX10_writesOf_44 : decode cX10_writesOf 44 = .ok (.goto 33, 3) := by decide +kernel
theorem dX10_writesOf_47 : decode cX10_writesOf 47 = .ok (.aload_n 0, 1) := by decide +kernel
theorem dX10_writesOf_48 : decode cX10_writesOf 48 = .ok (.iload_n 1, 1) := by decide +kernel
theorem dX10_writesOf_49 : decode cX10_writesOf 49 = .ok (.invokevirtual 143, 3) := by decide +kernel
theorem dX10_writesOf_52 : decode cX10_writesOf 52 = .ok (.ifCond .eq 7, 3) := by decide +kernel
theorem dX10_writesOf_55 : decode cX10_writesOf 55 = .ok (.iload_n 3, 1) := by decide +kernel
theorem dX10_writesOf_56 : decode cX10_writesOf 56 = .ok (.goto 21, 3) := by decide +kernel
theorem dX10_writesOf_59 : decode cX10_writesOf 59 = .ok (.aload_n 0, 1) := by decide +kernel
theorem dX10_writesOf_60 : decode cX10_writesOf 60 = .ok (.getfield 7, 3) := by decide +kernel
theorem dX10_writesOf_63 : decode cX10_writesOf 63 = .ok (.iload_n 1, 1) := by decide +kernel
theorem dX10_writesOf_64 : decode cX10_writesOf 64 = .ok (.iaload, 1) := by decide +kernel
theorem dX10_writesOf_65 : decode cX10_writesOf 65 = .ok (.bipush 6, 2) := by decide +kernel
theorem dX10_writesOf_67 : decode cX10_writesOf 67 = .ok (.if_icmp .ne 9, 3) := by decide +kernel
theorem dX10_writesOf_70 : decode cX10_writesOf 70 = .ok (.iload_n 3, 1) := by decide +kernel
theorem dX10_writesOf_71 : decode cX10_writesOf 71 = .ok (.iload_n 2, 1) := by decide +kernel
theorem dX10_writesOf_72 : decode cX10_writesOf 72 = .ok (.ior, 1) := by decide +kernel
theorem dX10_writesOf_73 : decode cX10_writesOf 73 = .ok (.goto 4, 3) := by decide +kernel
theorem dX10_writesOf_76 : decode cX10_writesOf 76 = .ok (.iconst 0, 1) := by decide +kernel
theorem dX10_writesOf_77 : decode cX10_writesOf 77 = .ok (.ireturn, 1) := by decide +kernel
def f_X10_writesOf (p1 : Int32) (s0 : sh_S) : Option (Int32) := gu (inb p1 24) (ob (f_X10_variable (s0 3 (ix p1))) (fun v2 => lb (((1 : Int32) <<< (v2 &&& 31))) (fun v3 => gu (inb p1 24) (lb (((1 : Int32) <<< ((s0 2 (ix p1)) &&& 31))) (fun v5 => gu (inb p1 24) (ob (if (s0 1 (ix p1)) = (2 : Int32) then gu (inb p1 24) (ob (f_X10_through (s0 3 (ix p1))) (fun v11 => (if v11 = 0 then some v3 else ob (f_X10_lends p1 s0) (fun v12 => (if v12 = 0 then gu (inb p1 24) ((if (s0 1 (ix p1)) = (6 : Int32) then some (v5 ||| v3) else some (0 : Int32))) else some v5))))) else ob (f_X10_lends p1 s0) (fun v8 => (if v8 = 0 then gu (inb p1 24) ((if (s0 1 (ix p1)) = (6 : Int32) then some (v5 ||| v3) else some (0 : Int32))) else some v5))) (fun v7 => some v7)))))))
set_option maxRecDepth 100000 in
set_option maxHeartbeats 4000000 in
theorem c_X10_writesOf (p1 : Int32) (s0 : sh_S) (r : Int32) (hf : f_X10_writesOf p1 s0 = some r) : Ctr yX10_writesOf cX10_writesOf 4 (some .int) ({ frames := 2, cells := 0, slots := 0, locals := 43 } : Room) shM [.ref 0, .int p1] s0 (some (.int r)) s0 := by
  refine Ctr.mk (ri := .ireturn) (by decide) (Nat.le_of_ble_eq_true rfl) (Rt_i r) ?_
  intro G h hL hR hret
  refine k_drop (lv' := [(0, .ref 0), (1, .int p1)]) [0, 1] rfl ?_
  unfold f_X10_writesOf at hf
  refine k_iconst (pc := 0) h dX10_writesOf_0 kc_iconst_1 ?_
  refine k_aload_n (pc := 1) h dX10_writesOf_1 rfl 0 rfl ?_
  refine k_getR (pc := 2) h fl_RX10_16 rfl rfl dX10_writesOf_2 ?_
  refine k_iload_n (pc := 5) h dX10_writesOf_5 rfl 1 rfl ?_
  obtain ⟨g1, hf⟩ := gu_s hf
  refine k_iald (pc := 6) (n := 24) h rfl g1 dX10_writesOf_6 ?_
  obtain ⟨v2, cv2, hf⟩ := ob_s hf
  refine k_callSp (pc := 7) h cs_RX10_128 (c_X10_variable (s0 3 (ix p1)) _ v2 cv2) rfl rfl (st1 := [.int v2, .int (1 : Int32)]) rfl ⟨rfl, rfl⟩ (rk hR (Nat.le_of_ble_eq_true rfl) (Nat.le_of_ble_eq_true rfl)) (Nat.le_of_ble_eq_true rfl) dX10_writesOf_7 ?_
  refine k_ishl (pc := 10) h dX10_writesOf_10 ?_
  obtain ⟨v3, ev3, hf⟩ := lb_s hf
  refine k_top ev3 ?_
  refine k_istore_n (pc := 11) h dX10_writesOf_11 rfl (nk hL (by decide)) (lv' := [(0, .ref 0), (1, .int p1), (2, .int v3)]) rfl ?_
  refine k_iconst (pc := 12) h dX10_writesOf_12 kc_iconst_1 ?_
  refine k_aload_n (pc := 13) h dX10_writesOf_13 rfl 0 rfl ?_
  refine k_getR (pc := 14) h fl_RX10_13 rfl rfl dX10_writesOf_14 ?_
  refine k_iload_n (pc := 17) h dX10_writesOf_17 rfl 1 rfl ?_
  obtain ⟨g4, hf⟩ := gu_s hf
  refine k_iald (pc := 18) (n := 24) h rfl g4 dX10_writesOf_18 ?_
  refine k_ishl (pc := 19) h dX10_writesOf_19 ?_
  obtain ⟨v5, ev5, hf⟩ := lb_s hf
  refine k_top ev5 ?_
  refine k_istore_n (pc := 20) h dX10_writesOf_20 rfl (nk hL (by decide)) (lv' := [(0, .ref 0), (1, .int p1), (2, .int v3), (3, .int v5)]) rfl ?_
  refine k_aload_n (pc := 21) h dX10_writesOf_21 rfl 0 rfl ?_
  refine k_getR (pc := 22) h fl_RX10_7 rfl rfl dX10_writesOf_22 ?_
  refine k_iload_n (pc := 25) h dX10_writesOf_25 rfl 1 rfl ?_
  obtain ⟨g6, hf⟩ := gu_s hf
  refine k_iald (pc := 26) (n := 24) h rfl g6 dX10_writesOf_26 ?_
  refine k_iconst (pc := 27) h dX10_writesOf_27 kc_iconst_2 ?_
  obtain ⟨v7, hj, hf⟩ := ob_s hf
  have kj28 : sh_K G shM 77 [] [.int v7] s0 := by
    obtain rfl := so1 hf
    exact hret 77 _ dX10_writesOf_77 trivial
  clear hf
  have hf := hj
  clear hj
  refine k_icmp_ne (pc := 28) (tgt := 47) h dX10_writesOf_28 rfl (fun hc => ?_) (fun hc => ?_)
  · have hf := it_n hc hf
    refine k_aload_n (pc := 47) h dX10_writesOf_47 rfl 0 rfl ?_
    refine k_iload_n (pc := 48) h dX10_writesOf_48 rfl 1 rfl ?_
    obtain ⟨v8, cv8, hf⟩ := ob_s hf
    refine k_callV0 (pc := 49) h cv_RX10_143 (c_X10_lends p1 s0 v8 cv8) rfl rfl rfl (st1 := [.int v8]) rfl ⟨rfl, rfl⟩ (rk hR (Nat.le_of_ble_eq_true rfl) (Nat.le_of_ble_eq_true rfl)) (Nat.le_of_ble_eq_true rfl) dX10_writesOf_49 ?_
    refine k_if_eq (pc := 52) (tgt := 59) h dX10_writesOf_52 rfl (fun hc => ?_) (fun hc => ?_)
    · have hf := it_p hc hf
      refine k_aload_n (pc := 59) h dX10_writesOf_59 rfl 0 rfl ?_
      refine k_getR (pc := 60) h fl_RX10_7 rfl rfl dX10_writesOf_60 ?_
      refine k_iload_n (pc := 63) h dX10_writesOf_63 rfl 1 rfl ?_
      obtain ⟨g9, hf⟩ := gu_s hf
      refine k_iald (pc := 64) (n := 24) h rfl g9 dX10_writesOf_64 ?_
      refine k_bipush (pc := 65) h dX10_writesOf_65 kc_bipush_6 ?_
      refine k_icmp_ne (pc := 67) (tgt := 76) h dX10_writesOf_67 rfl (fun hc => ?_) (fun hc => ?_)
      · have hf := it_n hc hf
        refine k_iconst (pc := 76) h dX10_writesOf_76 kc_iconst_0 ?_
        obtain rfl := so1 hf
        exact k_drop [] rfl kj28
      · have hf := it_p hc hf
        refine k_iload_n (pc := 70) h dX10_writesOf_70 rfl 3 rfl ?_
        refine k_iload_n (pc := 71) h dX10_writesOf_71 rfl 2 rfl ?_
        refine k_ior (pc := 72) h dX10_writesOf_72 ?_
        refine k_goto (pc := 73) (tgt := 77) h dX10_writesOf_73 rfl ?_
        obtain rfl := so1 hf
        exact k_drop [] rfl kj28
    · have hf := it_n hc hf
      refine k_iload_n (pc := 55) h dX10_writesOf_55 rfl 3 rfl ?_
      refine k_goto (pc := 56) (tgt := 77) h dX10_writesOf_56 rfl ?_
      obtain rfl := so1 hf
      exact k_drop [] rfl kj28
  · have hf := it_p hc hf
    refine k_aload_n (pc := 31) h dX10_writesOf_31 rfl 0 rfl ?_
    refine k_getR (pc := 32) h fl_RX10_16 rfl rfl dX10_writesOf_32 ?_
    refine k_iload_n (pc := 35) h dX10_writesOf_35 rfl 1 rfl ?_
    obtain ⟨g10, hf⟩ := gu_s hf
    refine k_iald (pc := 36) (n := 24) h rfl g10 dX10_writesOf_36 ?_
    obtain ⟨v11, cv11, hf⟩ := ob_s hf
    refine k_callSp (pc := 37) h cs_RX10_134 (c_X10_through (s0 3 (ix p1)) _ v11 cv11) rfl rfl (st1 := [.int v11]) rfl ⟨rfl, rfl⟩ (rk hR (Nat.le_of_ble_eq_true rfl) (Nat.le_of_ble_eq_true rfl)) (Nat.le_of_ble_eq_true rfl) dX10_writesOf_37 ?_
    refine k_if_ne (pc := 40) (tgt := 47) h dX10_writesOf_40 rfl (fun hc => ?_) (fun hc => ?_)
    · have hf := it_n hc hf
      refine k_aload_n (pc := 47) h dX10_writesOf_47 rfl 0 rfl ?_
      refine k_iload_n (pc := 48) h dX10_writesOf_48 rfl 1 rfl ?_
      obtain ⟨v12, cv12, hf⟩ := ob_s hf
      refine k_callV0 (pc := 49) h cv_RX10_143 (c_X10_lends p1 s0 v12 cv12) rfl rfl rfl (st1 := [.int v12]) rfl ⟨rfl, rfl⟩ (rk hR (Nat.le_of_ble_eq_true rfl) (Nat.le_of_ble_eq_true rfl)) (Nat.le_of_ble_eq_true rfl) dX10_writesOf_49 ?_
      refine k_if_eq (pc := 52) (tgt := 59) h dX10_writesOf_52 rfl (fun hc => ?_) (fun hc => ?_)
      · have hf := it_p hc hf
        refine k_aload_n (pc := 59) h dX10_writesOf_59 rfl 0 rfl ?_
        refine k_getR (pc := 60) h fl_RX10_7 rfl rfl dX10_writesOf_60 ?_
        refine k_iload_n (pc := 63) h dX10_writesOf_63 rfl 1 rfl ?_
        obtain ⟨g13, hf⟩ := gu_s hf
        refine k_iald (pc := 64) (n := 24) h rfl g13 dX10_writesOf_64 ?_
        refine k_bipush (pc := 65) h dX10_writesOf_65 kc_bipush_6 ?_
        refine k_icmp_ne (pc := 67) (tgt := 76) h dX10_writesOf_67 rfl (fun hc => ?_) (fun hc => ?_)
        · have hf := it_n hc hf
          refine k_iconst (pc := 76) h dX10_writesOf_76 kc_iconst_0 ?_
          obtain rfl := so1 hf
          exact k_drop [] rfl kj28
        · have hf := it_p hc hf
          refine k_iload_n (pc := 70) h dX10_writesOf_70 rfl 3 rfl ?_
          refine k_iload_n (pc := 71) h dX10_writesOf_71 rfl 2 rfl ?_
          refine k_ior (pc := 72) h dX10_writesOf_72 ?_
          refine k_goto (pc := 73) (tgt := 77) h dX10_writesOf_73 rfl ?_
          obtain rfl := so1 hf
          exact k_drop [] rfl kj28
      · have hf := it_n hc hf
        refine k_iload_n (pc := 55) h dX10_writesOf_55 rfl 3 rfl ?_
        refine k_goto (pc := 56) (tgt := 77) h dX10_writesOf_56 rfl ?_
        obtain rfl := so1 hf
        exact k_drop [] rfl kj28
    · have hf := it_p hc hf
      refine k_iload_n (pc := 43) h dX10_writesOf_43 rfl 2 rfl ?_
      refine k_goto (pc := 44) (tgt := 77) h dX10_writesOf_44 rfl ?_
      obtain rfl := so1 hf
      exact k_drop [] rfl kj28
theorem dX10_goesBy_0 : decode cX10_goesBy 0 = .ok (.aload_n 0, 1) := by decide +kernel
theorem dX10_goesBy_1 : decode cX10_goesBy 1 = .ok (.getfield 7, 3) := by decide +kernel
theorem dX10_goesBy_4 : decode cX10_goesBy 4 = .ok (.iload_n 1, 1) := by decide +kernel
theorem dX10_goesBy_5 : decode cX10_goesBy 5 = .ok (.iaload, 1) := by decide +kernel
theorem dX10_goesBy_6 : decode cX10_goesBy 6 = .ok (.iconst 1, 1) := by decide +kernel
theorem dX10_goesBy_7 : decode cX10_goesBy 7 = .ok (.iconst 5, 1) := by decide +kernel
theorem dX10_goesBy_8 : decode cX10_goesBy 8 = .ok (.invokestatic 93, 3) := by decide +kernel
theorem dX10_goesBy_11 : decode cX10_goesBy 11 = .ok (.ifCond .eq 27, 3) := by decide +kernel
theorem dX10_goesBy_14 : decode cX10_goesBy 14 = .ok (.aload_n 0, 1) := by decide +kernel
theorem dX10_goesBy_15 : decode cX10_goesBy 15 = .ok (.getfield 16, 3) := by decide +kernel
theorem dX10_goesBy_18 : decode cX10_goesBy 18 = .ok (.iload_n 1, 1) := by decide +kernel
theorem dX10_goesBy_19 : decode cX10_goesBy 19 = .ok (.iaload, 1) := by decide +kernel
theorem dX10_goesBy_20 : decode cX10_goesBy 20 = .ok (.invokestatic 134, 3) := by decide +kernel
theorem dX10_goesBy_23 : decode cX10_goesBy 23 = .ok (.ifCond .eq 15, 3) := by decide +kernel
theorem dX10_goesBy_26 : decode cX10_goesBy 26 = .ok (.aload_n 0, 1) := by decide +kernel
theorem dX10_goesBy_27 : decode cX10_goesBy 27 = .ok (.getfield 16, 3) := by decide +kernel
theorem dX10_goesBy_30 : decode cX10_goesBy 30 = .ok (.iload_n 1, 1) := by decide +kernel
theorem dX10_goesBy_31 : decode cX10_goesBy 31 = .ok (.iaload, 1) := by decide +kernel
theorem dX10_goesBy_32 : decode cX10_goesBy 32 = .ok (.invokestatic 128, 3) := by decide +kernel
theorem dX10_goesBy_35 : decode cX10_goesBy 35 = .ok (.goto 4, 3) := by decide +kernel
theorem dX10_goesBy_38 : decode cX10_goesBy 38 = .ok (.iconst (-1), 1) := by decide +kernel
theorem dX10_goesBy_39 : decode cX10_goesBy 39 = .ok (.ireturn, 1) := by decide +kernel
def f_X10_goesBy (p1 : Int32) (s0 : sh_S) : Option (Int32) := gu (inb p1 24) (ob (f_X10_in (s0 1 (ix p1)) (1 : Int32) (5 : Int32)) (fun v2 => ob (if v2 = 0 then some (-1 : Int32) else gu (inb p1 24) (ob (f_X10_through (s0 3 (ix p1))) (fun v5 => (if v5 = 0 then some (-1 : Int32) else gu (inb p1 24) (ob (f_X10_variable (s0 3 (ix p1))) (fun v7 => some v7)))))) (fun v3 => some v3)))
set_option maxRecDepth 100000 in
set_option maxHeartbeats 4000000 in
theorem c_X10_goesBy (p1 : Int32) (s0 : sh_S) (r : Int32) (hf : f_X10_goesBy p1 s0 = some r) : Ctr yX10_goesBy cX10_goesBy 2 (some .int) ({ frames := 1, cells := 0, slots := 0, locals := 22 } : Room) shM [.ref 0, .int p1] s0 (some (.int r)) s0 := by
  refine Ctr.mk (ri := .ireturn) (by decide) (Nat.le_of_ble_eq_true rfl) (Rt_i r) ?_
  intro G h hL hR hret
  refine k_drop (lv' := [(0, .ref 0), (1, .int p1)]) [0, 1] rfl ?_
  unfold f_X10_goesBy at hf
  refine k_aload_n (pc := 0) h dX10_goesBy_0 rfl 0 rfl ?_
  refine k_getR (pc := 1) h fl_RX10_7 rfl rfl dX10_goesBy_1 ?_
  refine k_iload_n (pc := 4) h dX10_goesBy_4 rfl 1 rfl ?_
  obtain ⟨g1, hf⟩ := gu_s hf
  refine k_iald (pc := 5) (n := 24) h rfl g1 dX10_goesBy_5 ?_
  refine k_iconst (pc := 6) h dX10_goesBy_6 kc_iconst_1 ?_
  refine k_iconst (pc := 7) h dX10_goesBy_7 kc_iconst_5 ?_
  obtain ⟨v2, cv2, hf⟩ := ob_s hf
  refine k_callSp (pc := 8) h cs_RX10_93 (c_X10_in (s0 1 (ix p1)) (1 : Int32) (5 : Int32) _ v2 cv2) rfl rfl (st1 := [.int v2]) rfl ⟨rfl, rfl⟩ (rk hR (Nat.le_of_ble_eq_true rfl) (Nat.le_of_ble_eq_true rfl)) (Nat.le_of_ble_eq_true rfl) dX10_goesBy_8 ?_
  obtain ⟨v3, hj, hf⟩ := ob_s hf
  have kj11 : sh_K G shM 39 [] [.int v3] s0 := by
    obtain rfl := so1 hf
    exact hret 39 _ dX10_goesBy_39 trivial
  clear hf
  have hf := hj
  clear hj
  refine k_if_eq (pc := 11) (tgt := 38) h dX10_goesBy_11 rfl (fun hc => ?_) (fun hc => ?_)
  · have hf := it_p hc hf
    refine k_iconst (pc := 38) h dX10_goesBy_38 kc_iconst_m1 ?_
    obtain rfl := so1 hf
    exact k_drop [] rfl kj11
  · have hf := it_n hc hf
    refine k_aload_n (pc := 14) h dX10_goesBy_14 rfl 0 rfl ?_
    refine k_getR (pc := 15) h fl_RX10_16 rfl rfl dX10_goesBy_15 ?_
    refine k_iload_n (pc := 18) h dX10_goesBy_18 rfl 1 rfl ?_
    obtain ⟨g4, hf⟩ := gu_s hf
    refine k_iald (pc := 19) (n := 24) h rfl g4 dX10_goesBy_19 ?_
    obtain ⟨v5, cv5, hf⟩ := ob_s hf
    refine k_callSp (pc := 20) h cs_RX10_134 (c_X10_through (s0 3 (ix p1)) _ v5 cv5) rfl rfl (st1 := [.int v5]) rfl ⟨rfl, rfl⟩ (rk hR (Nat.le_of_ble_eq_true rfl) (Nat.le_of_ble_eq_true rfl)) (Nat.le_of_ble_eq_true rfl) dX10_goesBy_20 ?_
    refine k_if_eq (pc := 23) (tgt := 38) h dX10_goesBy_23 rfl (fun hc => ?_) (fun hc => ?_)
    · have hf := it_p hc hf
      refine k_iconst (pc := 38) h dX10_goesBy_38 kc_iconst_m1 ?_
      obtain rfl := so1 hf
      exact k_drop [] rfl kj11
    · have hf := it_n hc hf
      refine k_aload_n (pc := 26) h dX10_goesBy_26 rfl 0 rfl ?_
      refine k_getR (pc := 27) h fl_RX10_16 rfl rfl dX10_goesBy_27 ?_
      refine k_iload_n (pc := 30) h dX10_goesBy_30 rfl 1 rfl ?_
      obtain ⟨g6, hf⟩ := gu_s hf
      refine k_iald (pc := 31) (n := 24) h rfl g6 dX10_goesBy_31 ?_
      obtain ⟨v7, cv7, hf⟩ := ob_s hf
      refine k_callSp (pc := 32) h cs_RX10_128 (c_X10_variable (s0 3 (ix p1)) _ v7 cv7) rfl rfl (st1 := [.int v7]) rfl ⟨rfl, rfl⟩ (rk hR (Nat.le_of_ble_eq_true rfl) (Nat.le_of_ble_eq_true rfl)) (Nat.le_of_ble_eq_true rfl) dX10_goesBy_32 ?_
      refine k_goto (pc := 35) (tgt := 39) h dX10_goesBy_35 rfl ?_
      obtain rfl := so1 hf
      exact k_drop [] rfl kj11
theorem dX10_findsReached_0 : decode cX10_findsReached 0 = .ok (.aload_n 0, 1) := by decide +kernel
theorem dX10_findsReached_1 : decode cX10_findsReached 1 = .ok (.aload_n 0, 1) := by decide +kernel
theorem dX10_findsReached_2 : decode cX10_findsReached 2 = .ok (.iconst 0, 1) := by decide +kernel
theorem dX10_findsReached_3 : decode cX10_findsReached 3 = .ok (.invokevirtual 137, 3) := by decide +kernel
theorem dX10_findsReached_6 : decode cX10_findsReached 6 = .ok (.putfield 146, 3) := by decide +kernel
theorem dX10_findsReached_9 : decode cX10_findsReached 9 = .ok (.iconst 0, 1) := by decide +kernel
theorem dX10_findsReached_10 : decode cX10_findsReached 10 = .ok (.istore_n 1, 1) := by decide +kernel
theorem dX10_findsReached_11 : decode cX10_findsReached 11 = .ok (.iload_n 1, 1) := by decide +kernel
theorem dX10_findsReached_12 : decode cX10_findsReached 12 = .ok (.aload_n 0, 1) := by decide +kernel
theorem dX10_findsReached_13 : decode cX10_findsReached 13 = .ok (.getfield 101, 3) := by decide +kernel
theorem dX10_findsReached_16 : decode cX10_findsReached 16 = .ok (.if_icmp .ge 54, 3) := by decide +kernel
theorem dX10_findsReached_19 : decode cX10_findsReached 19 = .ok (.iconst 0, 1) := by decide +kernel
theorem dX10_findsReached_20 : decode cX10_findsReached 20 = .ok (.istore_n 2, 1) := by decide +kernel
theorem dX10_findsReached_21 : decode cX10_findsReached 21 = .ok (.iload_n 2, 1) := by decide +kernel
theorem dX10_findsReached_22 : decode cX10_findsReached 22 = .ok (.aload_n 0, 1) := by decide +kernel
theorem dX10_findsReached_23 : decode cX10_findsReached 23 = .ok (.getfield 101, 3) := by decide +kernel
theorem dX10_findsReached_26 : decode cX10_findsReached 26 = .ok (.if_icmp .ge 38, 3) := by decide +kernel
theorem dX10_findsReached_29 : decode cX10_findsReached 29 = .ok (.aload_n 0, 1) := by decide +kernel
theorem dX10_findsReached_30 : decode cX10_findsReached 30 = .ok (.dup, 1) := by decide +kernel
theorem dX10_findsReached_31 : decode cX10_findsReached 31 = .ok (.getfield 146, 3) := by decide +kernel
theorem dX10_findsReached_34 : decode cX10_findsReached 34 = .ok (.aload_n 0, 1) := by decide +kernel
theorem dX10_findsReached_35 : decode cX10_findsReached 35 = .ok (.getfield 146, 3) := by decide +kernel
theorem dX10_findsReached_38 : decode cX10_findsReached 38 = .ok (.iload_n 2, 1) := by decide +kernel
theorem dX10_findsReached_39 : decode cX10_findsReached 39 = .ok (.invokestatic 89, 3) := by decide +kernel
theorem dX10_findsReached_42 : decode cX10_findsReached 42 = .ok (.ifCond .eq 11, 3) := by decide +kernel
theorem dX10_findsReached_45 : decode cX10_findsReached 45 = .ok (.aload_n 0, 1) := by decide +kernel
theorem dX10_findsReached_46 : decode cX10_findsReached 46 = .ok (.iload_n 2, 1) := by decide +kernel
theorem dX10_findsReached_47 : decode cX10_findsReached 47 = .ok (.invokevirtual 140, 3) := by decide +kernel
theorem dX10_findsReached_50 : decode cX10_findsReached 50 = .ok (.goto 4, 3) := by decide +kernel
theorem dX10_findsReached_53 : decode cX10_findsReached 53 = .ok (.iconst 0, 1) := by decide +kernel
theorem dX10_findsReached_54 : decode cX10_findsReached 54 = .ok (.ior, 1) := by decide +kernel
theorem dX10_findsReached_55 : decode cX10_findsReached 55 = .ok (.putfield 146, 3) := by decide +kernel
theorem dX10_findsReached_58 : decode cX10_findsReached 58 = .ok (.iinc 2 1, 3) := by decide +kernel
theorem dX10_findsReached_61 : decode cX10_findsReached 61 = .ok (.goto (-40), 3) := by decide +kernel
theorem dX10_findsReached_64 : decode cX10_findsReached 64 = .ok (.iinc 1 1, 3) := by decide +kernel
theorem dX10_findsReached_67 : decode cX10_findsReached 67 = .ok (.goto (-56), 3) := by decide +kernel
theorem dX10_findsReached_70 : decode cX10_findsReached 70 = .ok (.aload_n 0, 1) := by decide +kernel
theorem dX10_findsReached_71 : decode cX10_findsReached 71 = .ok (.iconst 0, 1) := by decide +kernel
theorem dX10_findsReached_72 : decode cX10_findsReached 72 = .ok (.putfield 149, 3) := by decide +kernel
theorem dX10_findsReached_75 : decode cX10_findsReached 75 = .ok (.iconst 0, 1) := by decide +kernel
theorem dX10_findsReached_76 : decode cX10_findsReached 76 = .ok (.istore_n 1, 1) := by decide +kernel
theorem dX10_findsReached_77 : decode cX10_findsReached 77 = .ok (.iload_n 1, 1) := by decide +kernel
theorem dX10_findsReached_78 : decode cX10_findsReached 78 = .ok (.aload_n 0, 1) := by decide +kernel
theorem dX10_findsReached_79 : decode cX10_findsReached 79 = .ok (.getfield 101, 3) := by decide +kernel
theorem dX10_findsReached_82 : decode cX10_findsReached 82 = .ok (.if_icmp .ge 44, 3) := by decide +kernel
theorem dX10_findsReached_85 : decode cX10_findsReached 85 = .ok (.aload_n 0, 1) := by decide +kernel
theorem dX10_findsReached_86 : decode cX10_findsReached 86 = .ok (.dup, 1) := by decide +kernel
theorem dX10_findsReached_87 : decode cX10_findsReached 87 = .ok (.getfield 149, 3) := by decide +kernel
theorem dX10_findsReached_90 : decode cX10_findsReached 90 = .ok (.aload_n 0, 1) := by decide +kernel
theorem dX10_findsReached_91 : decode cX10_findsReached 91 = .ok (.iload_n 1, 1) := by decide +kernel
theorem dX10_findsReached_92 : decode cX10_findsReached 92 = .ok (.invokevirtual 143, 3) := by decide +kernel
theorem dX10_findsReached_95 : decode cX10_findsReached 95 = .ok (.ifCond .eq 20, 3) := by decide +kernel
theorem dX10_findsReached_98 : decode cX10_findsReached 98 = .ok (.aload_n 0, 1) := by decide +kernel
theorem dX10_findsReached_99 : decode cX10_findsReached 99 = .ok (.getfield 146, 3) := by decide +kernel
theorem dX10_findsReached_102 : decode cX10_findsReached 102 = .ok (.iload_n 1, 1) := by decide +kernel
theorem dX10_findsReached_103 : decode cX10_findsReached 103 = .ok (.invokestatic 89, 3) := by decide +kernel
theorem dX10_findsReached_106 : decode cX10_findsReached 106 = .ok (.ifCond .eq 9, 3) := by decide +kernel
theorem dX10_findsReached_109 : decode cX10_findsReached 109 = .ok (.iconst 1, 1) := by decide +kernel
theorem dX10_findsReached_110 : decode cX10_findsReached 110 = .ok (.iload_n 1, 1) := by decide +kernel
theorem dX10_findsReached_111 : decode cX10_findsReached 111 = .ok (.ishl, 1) := by decide +kernel
theorem dX10_findsReached_112 : decode cX10_findsReached 112 = .ok (.goto 4, 3) := by decide +kernel
theorem dX10_findsReached_115 : decode cX10_findsReached 115 = .ok (.iconst 0, 1) := by decide +kernel
theorem dX10_findsReached_116 : decode cX10_findsReached 116 = .ok (.ior, 1) := by decide +kernel
theorem dX10_findsReached_117 : decode cX10_findsReached 117 = .ok (.putfield 149, 3) := by decide +kernel
theorem dX10_findsReached_120 : decode cX10_findsReached 120 = .ok (.iinc 1 1, 3) := by decide +kernel
theorem dX10_findsReached_123 : decode cX10_findsReached 123 = .ok (.goto (-46), 3) := by decide +kernel
theorem dX10_findsReached_126 : decode cX10_findsReached 126 = .ok (.return_, 1) := by decide +kernel
def f_X10_findsReached_L21 (v6 : Int32) (s7 : sh_S) : Option ((Int32 × sh_S) ⊕ (sh_S)) := (if (s7 0 0) ≤ v6 then some (.inr s7) else ob (f_X10_isIn (s7 0 5) v6) (fun v9 => ob (if v9 = 0 then some (0 : Int32) else ob (f_X10_nextOf v6 s7) (fun v11 => some v11)) (fun v10 => lb (ur s7 0 (upd (s7 0) 5 ((s7 0 5) ||| v10))) (fun s12 => lb (v6 + (1 : Int32)) (fun v13 => some (.inl (v13, s12)))))))
def f_X10_findsReached_L11 (v3 : Int32) (s4 : sh_S) : Option ((Int32 × sh_S) ⊕ (sh_S)) := (if (s4 0 0) ≤ v3 then some (.inr s4) else ob (lp (fun q => f_X10_findsReached_L21 q.1 q.2) FU ((0 : Int32), s4)) (fun s8 => lb (v3 + (1 : Int32)) (fun v14 => some (.inl (v14, s8)))))
def f_X10_findsReached_L77 (v16 : Int32) (s17 : sh_S) : Option ((Int32 × sh_S) ⊕ (sh_S)) := (if (s17 0 0) ≤ v16 then some (.inr s17) else ob (f_X10_lends v16 s17) (fun v19 => ob (if v19 = 0 then some (0 : Int32) else ob (f_X10_isIn (s17 0 5) v16) (fun v21 => (if v21 = 0 then some (0 : Int32) else some ((1 : Int32) <<< (v16 &&& 31))))) (fun v20 => lb (ur s17 0 (upd (s17 0) 6 ((s17 0 6) ||| v20))) (fun s22 => lb (v16 + (1 : Int32)) (fun v23 => some (.inl (v23, s22)))))))
def f_X10_findsReached  (s0 : sh_S) : Option (sh_S) := ob (f_X10_there (0 : Int32) s0) (fun v1 => lb (ur s0 0 (upd (s0 0) 5 v1)) (fun s2 => ob (lp (fun q => f_X10_findsReached_L11 q.1 q.2) FU ((0 : Int32), s2)) (fun s5 => lb (ur s5 0 (upd (s5 0) 6 (0 : Int32))) (fun s15 => ob (lp (fun q => f_X10_findsReached_L77 q.1 q.2) FU ((0 : Int32), s15)) (fun s18 => some s18)))))
set_option maxRecDepth 100000 in
set_option maxHeartbeats 4000000 in
theorem c_X10_findsReached  (s0 : sh_S) (s9x : sh_S) (hf : f_X10_findsReached  s0 = some s9x) : Ctr yX10_findsReached cX10_findsReached 3 none ({ frames := 4, cells := 0, slots := 0, locals := 87 } : Room) shM [.ref 0] s0 none s9x := by
  refine Ctr.mk (ri := .return_) (by decide) (Nat.le_of_ble_eq_true rfl) (Rt_v) ?_
  intro G h hL hR hret
  refine k_drop (lv' := [(0, .ref 0)]) [0] rfl ?_
  unfold f_X10_findsReached at hf
  refine k_aload_n (pc := 0) h dX10_findsReached_0 rfl 0 rfl ?_
  refine k_aload_n (pc := 1) h dX10_findsReached_1 rfl 0 rfl ?_
  refine k_iconst (pc := 2) h dX10_findsReached_2 kc_iconst_0 ?_
  obtain ⟨v1, cv1, hf⟩ := ob_s hf
  refine k_callV0 (pc := 3) h cv_RX10_137 (c_X10_there (0 : Int32) s0 v1 cv1) rfl rfl rfl (st1 := [.int v1, .ref 0]) rfl ⟨rfl, rfl⟩ (rk hR (Nat.le_of_ble_eq_true rfl) (Nat.le_of_ble_eq_true rfl)) (Nat.le_of_ble_eq_true rfl) dX10_findsReached_3 ?_
  obtain ⟨s2, es2, hf⟩ := lb_s hf
  refine k_put (pc := 6) h fl_RX10_146 fp_X10_5 rfl rfl rfl rfl dX10_findsReached_6 ?_
  refine k_heap es2 ?_
  refine k_iconst (pc := 9) h dX10_findsReached_9 kc_iconst_0 ?_
  refine k_istore_n (pc := 10) h dX10_findsReached_10 rfl (nk hL (by decide)) (lv' := [(0, .ref 0), (1, .int (0 : Int32))]) rfl ?_
  obtain ⟨s5, hl, hf⟩ := ob_s hf
  refine k_drop (lv' := [(0, .ref 0), (1, .int (0 : Int32))]) [0, 1] rfl ?_
  refine lp_s (P := (fun q : Int32 × sh_S => sh_K G shM 11 [(0, .ref 0), (1, .int q.1)] [] q.2)) (Q := (fun q : sh_S => sh_K G shM 70 [(0, .ref 0)] [] q)) (s := ((0 : Int32), s2)) ?_ hl ?_
  · clear hf hl
    intro q rr hf kc11
    obtain ⟨v3, s4⟩ := q
    have hf : f_X10_findsReached_L11 v3 s4 = some rr := hf
    unfold f_X10_findsReached_L11 at hf
    refine k_iload_n (pc := 11) h dX10_findsReached_11 rfl 1 rfl ?_
    refine k_aload_n (pc := 12) h dX10_findsReached_12 rfl 0 rfl ?_
    refine k_getI (pc := 13) h fl_RX10_101 rfl rfl dX10_findsReached_13 ?_
    refine k_icmp_ge (pc := 16) (tgt := 70) h dX10_findsReached_16 rfl (fun hc => ?_) (fun hc => ?_)
    · have hf := it_p hc hf
      obtain rfl := so1 hf
      exact k_drop [0] rfl kc11
    · have hf := it_n hc hf
      refine k_iconst (pc := 19) h dX10_findsReached_19 kc_iconst_0 ?_
      refine k_istore_n (pc := 20) h dX10_findsReached_20 rfl (nk hL (by decide)) (lv' := [(0, .ref 0), (1, .int v3), (2, .int (0 : Int32))]) rfl ?_
      obtain ⟨s8, hl, hf⟩ := ob_s hf
      refine k_drop (lv' := [(0, .ref 0), (1, .int v3), (2, .int (0 : Int32))]) [0, 1, 2] rfl ?_
      refine lp_s (P := (fun q : Int32 × sh_S => sh_K G shM 21 [(0, .ref 0), (1, .int v3), (2, .int q.1)] [] q.2)) (Q := (fun q : sh_S => sh_K G shM 64 [(0, .ref 0), (1, .int v3)] [] q)) (s := ((0 : Int32), s4)) ?_ hl ?_
      · clear hf hl
        intro q rr hf kc21
        obtain ⟨v6, s7⟩ := q
        have hf : f_X10_findsReached_L21 v6 s7 = some rr := hf
        unfold f_X10_findsReached_L21 at hf
        refine k_iload_n (pc := 21) h dX10_findsReached_21 rfl 2 rfl ?_
        refine k_aload_n (pc := 22) h dX10_findsReached_22 rfl 0 rfl ?_
        refine k_getI (pc := 23) h fl_RX10_101 rfl rfl dX10_findsReached_23 ?_
        refine k_icmp_ge (pc := 26) (tgt := 64) h dX10_findsReached_26 rfl (fun hc => ?_) (fun hc => ?_)
        · have hf := it_p hc hf
          obtain rfl := so1 hf
          exact k_drop [0, 1] rfl kc21
        · have hf := it_n hc hf
          refine k_aload_n (pc := 29) h dX10_findsReached_29 rfl 0 rfl ?_
          refine k_dup (pc := 30) h dX10_findsReached_30 rfl ?_
          refine k_getI (pc := 31) h fl_RX10_146 rfl rfl dX10_findsReached_31 ?_
          refine k_aload_n (pc := 34) h dX10_findsReached_34 rfl 0 rfl ?_
          refine k_getI (pc := 35) h fl_RX10_146 rfl rfl dX10_findsReached_35 ?_
          refine k_iload_n (pc := 38) h dX10_findsReached_38 rfl 2 rfl ?_
          obtain ⟨v9, cv9, hf⟩ := ob_s hf
          refine k_callSp (pc := 39) h cs_RX10_89 (c_X10_isIn (s7 0 5) v6 _ v9 cv9) rfl rfl (st1 := [.int v9, .int (s7 0 5), .ref 0]) rfl ⟨rfl, rfl⟩ (rk hR (Nat.le_of_ble_eq_true rfl) (Nat.le_of_ble_eq_true rfl)) (Nat.le_of_ble_eq_true rfl) dX10_findsReached_39 ?_
          obtain ⟨v10, hj, hf⟩ := ob_s hf
          have kj42 : sh_K G shM 54 [(0, .ref 0), (1, .int v3), (2, .int v6)] [.int v10, .int (s7 0 5), .ref 0] s7 := by
            refine k_ior (pc := 54) h dX10_findsReached_54 ?_
            obtain ⟨s12, es12, hf⟩ := lb_s hf
            refine k_put (pc := 55) h fl_RX10_146 fp_X10_5 rfl rfl rfl rfl dX10_findsReached_55 ?_
            refine k_heap es12 ?_
            obtain ⟨v13, ev13, hf⟩ := lb_s hf
            refine k_iinc (pc := 58) h dX10_findsReached_58 2 rfl ((congrArg (_ + ·) kc_iconst_1).trans ev13.symm) (nk hL (by decide)) (lv' := [(0, .ref 0), (1, .int v3), (2, .int v13)]) rfl ?_
            refine k_goto (pc := 61) (tgt := 21) h dX10_findsReached_61 rfl ?_
            obtain rfl := so1 hf
            exact k_drop [0, 1, 2] rfl kc21
          clear hf
          have hf := hj
          clear hj
          refine k_if_eq (pc := 42) (tgt := 53) h dX10_findsReached_42 rfl (fun hc => ?_) (fun hc => ?_)
          · have hf := it_p hc hf
            refine k_iconst (pc := 53) h dX10_findsReached_53 kc_iconst_0 ?_
            obtain rfl := so1 hf
            exact k_drop [0, 1, 2] rfl kj42
          · have hf := it_n hc hf
            refine k_aload_n (pc := 45) h dX10_findsReached_45 rfl 0 rfl ?_
            refine k_iload_n (pc := 46) h dX10_findsReached_46 rfl 2 rfl ?_
            obtain ⟨v11, cv11, hf⟩ := ob_s hf
            refine k_callV0 (pc := 47) h cv_RX10_140 (c_X10_nextOf v6 s7 v11 cv11) rfl rfl rfl (st1 := [.int v11, .int (s7 0 5), .ref 0]) rfl ⟨rfl, rfl⟩ (rk hR (Nat.le_of_ble_eq_true rfl) (Nat.le_of_ble_eq_true rfl)) (Nat.le_of_ble_eq_true rfl) dX10_findsReached_47 ?_
            refine k_goto (pc := 50) (tgt := 54) h dX10_findsReached_50 rfl ?_
            obtain rfl := so1 hf
            exact k_drop [0, 1, 2] rfl kj42
      · obtain ⟨v14, ev14, hf⟩ := lb_s hf
        refine k_iinc (pc := 64) h dX10_findsReached_64 1 rfl ((congrArg (_ + ·) kc_iconst_1).trans ev14.symm) (nk hL (by decide)) (lv' := [(0, .ref 0), (1, .int v14)]) rfl ?_
        refine k_goto (pc := 67) (tgt := 11) h dX10_findsReached_67 rfl ?_
        obtain rfl := so1 hf
        exact k_drop [0, 1] rfl kc11
  · refine k_aload_n (pc := 70) h dX10_findsReached_70 rfl 0 rfl ?_
    refine k_iconst (pc := 71) h dX10_findsReached_71 kc_iconst_0 ?_
    obtain ⟨s15, es15, hf⟩ := lb_s hf
    refine k_put (pc := 72) h fl_RX10_149 fp_X10_6 rfl rfl rfl rfl dX10_findsReached_72 ?_
    refine k_heap es15 ?_
    refine k_iconst (pc := 75) h dX10_findsReached_75 kc_iconst_0 ?_
    refine k_istore_n (pc := 76) h dX10_findsReached_76 rfl (nk hL (by decide)) (lv' := [(0, .ref 0), (1, .int (0 : Int32))]) rfl ?_
    obtain ⟨s18, hl, hf⟩ := ob_s hf
    refine k_drop (lv' := [(0, .ref 0), (1, .int (0 : Int32))]) [0, 1] rfl ?_
    refine lp_s (P := (fun q : Int32 × sh_S => sh_K G shM 77 [(0, .ref 0), (1, .int q.1)] [] q.2)) (Q := (fun q : sh_S => sh_K G shM 126 [] [] q)) (s := ((0 : Int32), s15)) ?_ hl ?_
    · clear hf hl
      intro q rr hf kc77
      obtain ⟨v16, s17⟩ := q
      have hf : f_X10_findsReached_L77 v16 s17 = some rr := hf
      unfold f_X10_findsReached_L77 at hf
      refine k_iload_n (pc := 77) h dX10_findsReached_77 rfl 1 rfl ?_
      refine k_aload_n (pc := 78) h dX10_findsReached_78 rfl 0 rfl ?_
      refine k_getI (pc := 79) h fl_RX10_101 rfl rfl dX10_findsReached_79 ?_
      refine k_icmp_ge (pc := 82) (tgt := 126) h dX10_findsReached_82 rfl (fun hc => ?_) (fun hc => ?_)
      · have hf := it_p hc hf
        obtain rfl := so1 hf
        exact k_drop [] rfl kc77
      · have hf := it_n hc hf
        refine k_aload_n (pc := 85) h dX10_findsReached_85 rfl 0 rfl ?_
        refine k_dup (pc := 86) h dX10_findsReached_86 rfl ?_
        refine k_getI (pc := 87) h fl_RX10_149 rfl rfl dX10_findsReached_87 ?_
        refine k_aload_n (pc := 90) h dX10_findsReached_90 rfl 0 rfl ?_
        refine k_iload_n (pc := 91) h dX10_findsReached_91 rfl 1 rfl ?_
        obtain ⟨v19, cv19, hf⟩ := ob_s hf
        refine k_callV0 (pc := 92) h cv_RX10_143 (c_X10_lends v16 s17 v19 cv19) rfl rfl rfl (st1 := [.int v19, .int (s17 0 6), .ref 0]) rfl ⟨rfl, rfl⟩ (rk hR (Nat.le_of_ble_eq_true rfl) (Nat.le_of_ble_eq_true rfl)) (Nat.le_of_ble_eq_true rfl) dX10_findsReached_92 ?_
        obtain ⟨v20, hj, hf⟩ := ob_s hf
        have kj95 : sh_K G shM 116 [(0, .ref 0), (1, .int v16)] [.int v20, .int (s17 0 6), .ref 0] s17 := by
          refine k_ior (pc := 116) h dX10_findsReached_116 ?_
          obtain ⟨s22, es22, hf⟩ := lb_s hf
          refine k_put (pc := 117) h fl_RX10_149 fp_X10_6 rfl rfl rfl rfl dX10_findsReached_117 ?_
          refine k_heap es22 ?_
          obtain ⟨v23, ev23, hf⟩ := lb_s hf
          refine k_iinc (pc := 120) h dX10_findsReached_120 1 rfl ((congrArg (_ + ·) kc_iconst_1).trans ev23.symm) (nk hL (by decide)) (lv' := [(0, .ref 0), (1, .int v23)]) rfl ?_
          refine k_goto (pc := 123) (tgt := 77) h dX10_findsReached_123 rfl ?_
          obtain rfl := so1 hf
          exact k_drop [0, 1] rfl kc77
        clear hf
        have hf := hj
        clear hj
        refine k_if_eq (pc := 95) (tgt := 115) h dX10_findsReached_95 rfl (fun hc => ?_) (fun hc => ?_)
        · have hf := it_p hc hf
          refine k_iconst (pc := 115) h dX10_findsReached_115 kc_iconst_0 ?_
          obtain rfl := so1 hf
          exact k_drop [0, 1] rfl kj95
        · have hf := it_n hc hf
          refine k_aload_n (pc := 98) h dX10_findsReached_98 rfl 0 rfl ?_
          refine k_getI (pc := 99) h fl_RX10_146 rfl rfl dX10_findsReached_99 ?_
          refine k_iload_n (pc := 102) h dX10_findsReached_102 rfl 1 rfl ?_
          obtain ⟨v21, cv21, hf⟩ := ob_s hf
          refine k_callSp (pc := 103) h cs_RX10_89 (c_X10_isIn (s17 0 5) v16 _ v21 cv21) rfl rfl (st1 := [.int v21, .int (s17 0 6), .ref 0]) rfl ⟨rfl, rfl⟩ (rk hR (Nat.le_of_ble_eq_true rfl) (Nat.le_of_ble_eq_true rfl)) (Nat.le_of_ble_eq_true rfl) dX10_findsReached_103 ?_
          refine k_if_eq (pc := 106) (tgt := 115) h dX10_findsReached_106 rfl (fun hc => ?_) (fun hc => ?_)
          · have hf := it_p hc hf
            refine k_iconst (pc := 115) h dX10_findsReached_115 kc_iconst_0 ?_
            obtain rfl := so1 hf
            exact k_drop [0, 1] rfl kj95
          · have hf := it_n hc hf
            refine k_iconst (pc := 109) h dX10_findsReached_109 kc_iconst_1 ?_
            refine k_iload_n (pc := 110) h dX10_findsReached_110 rfl 1 rfl ?_
            refine k_ishl (pc := 111) h dX10_findsReached_111 ?_
            refine k_goto (pc := 112) (tgt := 116) h dX10_findsReached_112 rfl ?_
            obtain rfl := so1 hf
            exact k_drop [0, 1] rfl kj95
    · obtain rfl := so1 hf
      exact hret 126 _ dX10_findsReached_126 trivial
theorem dX10_findsLive_0 : decode cX10_findsLive 0 = .ok (.iconst 0, 1) := by decide +kernel
theorem dX10_findsLive_1 : decode cX10_findsLive 1 = .ok (.istore_n 1, 1) := by decide +kernel
theorem dX10_findsLive_2 : decode cX10_findsLive 2 = .ok (.iload_n 1, 1) := by decide +kernel
theorem dX10_findsLive_3 : decode cX10_findsLive 3 = .ok (.bipush 8, 2) := by decide +kernel
theorem dX10_findsLive_5 : decode cX10_findsLive 5 = .ok (.if_icmp .ge 116, 3) := by decide +kernel
theorem dX10_findsLive_8 : decode cX10_findsLive 8 = .ok (.aload_n 0, 1) := by decide +kernel
theorem dX10_findsLive_9 : decode cX10_findsLive 9 = .ok (.getfield 22, 3) := by decide +kernel
theorem dX10_findsLive_12 : decode cX10_findsLive 12 = .ok (.iload_n 1, 1) := by decide +kernel
theorem dX10_findsLive_13 : decode cX10_findsLive 13 = .ok (.iconst 0, 1) := by decide +kernel
theorem dX10_findsLive_14 : decode cX10_findsLive 14 = .ok (.iastore, 1) := by decide +kernel
theorem dX10_findsLive_15 : decode cX10_findsLive 15 = .ok (.iconst 0, 1) := by decide +kernel
theorem dX10_findsLive_16 : decode cX10_findsLive 16 = .ok (.istore_n 2, 1) := by decide +kernel
theorem dX10_findsLive_17 : decode cX10_findsLive 17 = .ok (.iload_n 2, 1) := by decide +kernel
theorem dX10_findsLive_18 : decode cX10_findsLive 18 = .ok (.aload_n 0, 1) := by decide +kernel
theorem dX10_findsLive_19 : decode cX10_findsLive 19 = .ok (.getfield 101, 3) := by decide +kernel
theorem dX10_findsLive_22 : decode cX10_findsLive 22 = .ok (.if_icmp .ge 93, 3) := by decide +kernel
theorem dX10_findsLive_25 : decode cX10_findsLive 25 = .ok (.aload_n 0, 1) := by decide +kernel
theorem dX10_findsLive_26 : decode cX10_findsLive 26 = .ok (.getfield 101, 3) := by decide +kernel
theorem dX10_findsLive_29 : decode cX10_findsLive 29 = .ok (.iconst 1, 1) := by decide +kernel
theorem dX10_findsLive_30 : decode cX10_findsLive 30 = .ok (.isub, 1) := by decide +kernel
theorem dX10_findsLive_31 : decode cX10_findsLive 31 = .ok (.istore_n 3, 1) := by decide +kernel
theorem dX10_findsLive_32 : decode cX10_findsLive 32 = .ok (.iload_n 3, 1) := by decide +kernel
theorem dX10_findsLive_33 : decode cX10_findsLive 33 = .ok (.ifCond .lt 76, 3) := by decide +kernel
theorem dX10_findsLive_36 : decode cX10_findsLive 36 = .ok (.aload_n 0, 1) := by decide +kernel
theorem dX10_findsLive_37 : decode cX10_findsLive 37 = .ok (.iload_n 3, 1) := by decide +kernel
theorem dX10_findsLive_38 : decode cX10_findsLive 38 = .ok (.invokevirtual 152, 3) := by decide +kernel
theorem dX10_findsLive_41 : decode cX10_findsLive 41 = .ok (.iload_n 1, 1) := by decide +kernel
theorem dX10_findsLive_42 : decode cX10_findsLive 42 = .ok (.invokestatic 89, 3) := by decide +kernel
theorem dX10_findsLive_45 : decode cX10_findsLive 45 = .ok (.ifCond .ne 30, 3) := by decide +kernel
theorem dX10_findsLive_48 : decode cX10_findsLive 48 = .ok (.aload_n 0, 1) := by decide +kernel
theorem dX10_findsLive_49 : decode cX10_findsLive 49 = .ok (.iload_n 3, 1) := by decide +kernel
theorem dX10_findsLive_50 : decode cX10_findsLive 50 = .ok (.invokevirtual 155, 3) := by decide +kernel
theorem dX10_findsLive_53 : decode cX10_findsLive 53 = .ok (.iload_n 1, 1) := by decide +kernel
theorem dX10_findsLive_54 : decode cX10_findsLive 54 = .ok (.invokestatic 89, 3) := by decide +kernel
theorem dX10_findsLive_57 : decode cX10_findsLive 57 = .ok (.ifCond .ne 22, 3) := by decide +kernel
theorem dX10_findsLive_60 : decode cX10_findsLive 60 = .ok (.aload_n 0, 1) := by decide +kernel
theorem dX10_findsLive_61 : decode cX10_findsLive 61 = .ok (.iload_n 3, 1) := by decide +kernel
theorem dX10_findsLive_62 : decode cX10_findsLive 62 = .ok (.invokevirtual 140, 3) := by decide +kernel
theorem dX10_findsLive_65 : decode cX10_findsLive 65 = .ok (.aload_n 0, 1) := by decide +kernel
theorem dX10_findsLive_66 : decode cX10_findsLive 66 = .ok (.getfield 22, 3) := by decide +kernel
theorem dX10_findsLive_69 : decode cX10_findsLive 69 = .ok (.iload_n 1, 1) := by decide +kernel
theorem dX10_findsLive_70 : decode cX10_findsLive 70 = .ok (.iaload, 1) := by decide +kernel
theorem dX10_findsLive_71 : decode cX10_findsLive 71 = .ok (.iand, 1) := by decide +kernel
theorem dX10_findsLive_72 : decode cX10_findsLive 72 = .ok (.ifCond .eq 7, 3) := by decide +kernel
theorem dX10_findsLive_75 : decode cX10_findsLive 75 = .ok (.iconst 1, 1) := by decide +kernel
theorem dX10_findsLive_76 : decode cX10_findsLive 76 = .ok (.goto 4, 3) := by decide +kernel
theorem dX10_findsLive_79 : decode cX10_findsLive 79 = .ok (.iconst 0, 1) := by decide +kernel
theorem dX10_findsLive_80 : decode cX10_findsLive 80 = .ok (.istore 4, 2) := by decide +kernel
theorem dX10_findsLive_82 : decode cX10_findsLive 82 = .ok (.aload_n 0, 1) := by decide +kernel
theorem dX10_findsLive_83 : decode cX10_findsLive 83 = .ok (.getfield 22, 3) := by decide +kernel
theorem dX10_findsLive_86 : decode cX10_findsLive 86 = .ok (.iload_n 1, 1) := by decide +kernel
theorem dX10_findsLive_87 : decode cX10_findsLive 87 = .ok (.dup2, 1) := by decide +kernel
theorem dX10_findsLive_88 : decode cX10_findsLive 88 = .ok (.iaload, 1) := by decide +kernel
theorem dX10_findsLive_89 : decode cX10_findsLive 89 = .ok (.iload 4, 2) := by decide +kernel
theorem dX10_findsLive_91 : decode cX10_findsLive 91 = .ok (.ifCond .eq 9, 3) := by decide +kernel
theorem dX10_findsLive_94 : decode cX10_findsLive 94 = .ok (.iconst 1, 1) := by decide +kernel
theorem dX10_findsLive_95 : decode cX10_findsLive 95 = .ok (.iload_n 3, 1) := by decide +kernel
theorem dX10_findsLive_96 : decode cX10_findsLive 96 = .ok (.ishl, 1) := by decide +kernel
theorem dX10_findsLive_97 : decode cX10_findsLive 97 = .ok (.goto 4, 3) := by decide +kernel
theorem dX10_findsLive_100 : decode cX10_findsLive 100 = .ok (.iconst 0, 1) := by decide +kernel
theorem dX10_findsLive_101 : decode cX10_findsLive 101 = .ok (.ior, 1) := by decide +kernel
theorem dX10_findsLive_102 : decode cX10_findsLive 102 = .ok (.iastore, 1) := by decide +kernel
theorem dX10_findsLive_103 : decode cX10_findsLive 103 = .ok (.iinc 3 (-1), 3) := by decide +kernel
theorem dX10_findsLive_106 : decode cX10_findsLive 106 = .ok (.goto (-74), 3) := by decide +kernel
theorem dX10_findsLive_109 : decode cX10_findsLive 109 = .ok (.iinc 2 1, 3) := by decide +kernel
theorem dX10_findsLive_112 : decode cX10_findsLive 112 = .ok (.goto (-95), 3) := by decide +kernel
theorem dX10_findsLive_115 : decode cX10_findsLive 115 = .ok (.iinc 1 1, 3) := by decide +kernel
theorem dX10_findsLive_118 : decode cX10_findsLive 118 = .ok (.goto (-116), 3) := by decide +kernel
theorem dX10_findsLive_121 : decode cX10_findsLive 121 = .ok (.return_, 1) := by decide +kernel
def f_X10_findsLive_L32 (v1 : Int32) (v10 : Int32) (s11 : sh_S) : Option ((Int32 × sh_S) ⊕ (sh_S)) := (if v10 < 0 then some (.inr s11) else ob (f_X10_readsOf v10 s11) (fun v13 => ob (f_X10_isIn v13 v1) (fun v14 => ob (if v14 = 0 then ob (f_X10_writesOf v10 s11) (fun v16 => ob (f_X10_isIn v16 v1) (fun v17 => (if v17 = 0 then ob (f_X10_nextOf v10 s11) (fun v18 => gu (inb v1 8) ((if (v18 &&& (s11 5 (ix v1))) = 0 then some (0 : Int32) else some (1 : Int32)))) else some (0 : Int32)))) else some (1 : Int32)) (fun v15 => gu (inb v1 8) (ob (if v15 = 0 then some (0 : Int32) else some ((1 : Int32) <<< (v10 &&& 31))) (fun v21 => gu (inb v1 8) (lb (ur s11 5 (upd (s11 5) (ix v1) ((s11 5 (ix v1)) ||| v21))) (fun s23 => lb (v10 + (-1 : Int32)) (fun v24 => some (.inl (v24, s23)))))))))))
def f_X10_findsLive_L17 (v1 : Int32) (v6 : Int32) (s7 : sh_S) : Option ((Int32 × sh_S) ⊕ (sh_S)) := (if (s7 0 0) ≤ v6 then some (.inr s7) else lb (((s7 0 0) - (1 : Int32))) (fun v9 => ob (lp (fun q => f_X10_findsLive_L32 v1 q.1 q.2) FU (v9, s7)) (fun s12 => lb (v6 + (1 : Int32)) (fun v25 => some (.inl (v25, s12))))))
def f_X10_findsLive_L2 (v1 : Int32) (s2 : sh_S) : Option ((Int32 × sh_S) ⊕ (sh_S)) := (if (8 : Int32) ≤ v1 then some (.inr s2) else gu (inb v1 8) (lb (ur s2 5 (upd (s2 5) (ix v1) (0 : Int32))) (fun s5 => ob (lp (fun q => f_X10_findsLive_L17 v1 q.1 q.2) FU ((0 : Int32), s5)) (fun s8 => lb (v1 + (1 : Int32)) (fun v26 => some (.inl (v26, s8)))))))
def f_X10_findsLive  (s0 : sh_S) : Option (sh_S) := ob (lp (fun q => f_X10_findsLive_L2 q.1 q.2) FU ((0 : Int32), s0)) (fun s3 => some s3)
set_option maxRecDepth 100000 in
set_option maxHeartbeats 4000000 in
theorem c_X10_findsLive  (s0 : sh_S) (s9x : sh_S) (hf : f_X10_findsLive  s0 = some s9x) : Ctr yX10_findsLive cX10_findsLive 5 none ({ frames := 4, cells := 0, slots := 0, locals := 87 } : Room) shM [.ref 0] s0 none s9x := by
  refine Ctr.mk (ri := .return_) (by decide) (Nat.le_of_ble_eq_true rfl) (Rt_v) ?_
  intro G h hL hR hret
  refine k_drop (lv' := [(0, .ref 0)]) [0] rfl ?_
  unfold f_X10_findsLive at hf
  refine k_iconst (pc := 0) h dX10_findsLive_0 kc_iconst_0 ?_
  refine k_istore_n (pc := 1) h dX10_findsLive_1 rfl (nk hL (by decide)) (lv' := [(0, .ref 0), (1, .int (0 : Int32))]) rfl ?_
  obtain ⟨s3, hl, hf⟩ := ob_s hf
  refine k_drop (lv' := [(0, .ref 0), (1, .int (0 : Int32))]) [0, 1] rfl ?_
  refine lp_s (P := (fun q : Int32 × sh_S => sh_K G shM 2 [(0, .ref 0), (1, .int q.1)] [] q.2)) (Q := (fun q : sh_S => sh_K G shM 121 [] [] q)) (s := ((0 : Int32), s0)) ?_ hl ?_
  · clear hf hl
    intro q rr hf kc2
    obtain ⟨v1, s2⟩ := q
    have hf : f_X10_findsLive_L2 v1 s2 = some rr := hf
    unfold f_X10_findsLive_L2 at hf
    refine k_iload_n (pc := 2) h dX10_findsLive_2 rfl 1 rfl ?_
    refine k_bipush (pc := 3) h dX10_findsLive_3 kc_bipush_8 ?_
    refine k_icmp_ge (pc := 5) (tgt := 121) h dX10_findsLive_5 rfl (fun hc => ?_) (fun hc => ?_)
    · have hf := it_p hc hf
      obtain rfl := so1 hf
      exact k_drop [] rfl kc2
    · have hf := it_n hc hf
      refine k_aload_n (pc := 8) h dX10_findsLive_8 rfl 0 rfl ?_
      refine k_getR (pc := 9) h fl_RX10_22 rfl rfl dX10_findsLive_9 ?_
      refine k_iload_n (pc := 12) h dX10_findsLive_12 rfl 1 rfl ?_
      refine k_iconst (pc := 13) h dX10_findsLive_13 kc_iconst_0 ?_
      obtain ⟨g4, hf⟩ := gu_s hf
      obtain ⟨s5, es5, hf⟩ := lb_s hf
      refine k_iast (pc := 14) (n := 8) h rfl g4 dX10_findsLive_14 ?_
      refine k_heap es5 ?_
      refine k_iconst (pc := 15) h dX10_findsLive_15 kc_iconst_0 ?_
      refine k_istore_n (pc := 16) h dX10_findsLive_16 rfl (nk hL (by decide)) (lv' := [(0, .ref 0), (1, .int v1), (2, .int (0 : Int32))]) rfl ?_
      obtain ⟨s8, hl, hf⟩ := ob_s hf
      refine k_drop (lv' := [(0, .ref 0), (1, .int v1), (2, .int (0 : Int32))]) [0, 1, 2] rfl ?_
      refine lp_s (P := (fun q : Int32 × sh_S => sh_K G shM 17 [(0, .ref 0), (1, .int v1), (2, .int q.1)] [] q.2)) (Q := (fun q : sh_S => sh_K G shM 115 [(0, .ref 0), (1, .int v1)] [] q)) (s := ((0 : Int32), s5)) ?_ hl ?_
      · clear hf hl
        intro q rr hf kc17
        obtain ⟨v6, s7⟩ := q
        have hf : f_X10_findsLive_L17 v1 v6 s7 = some rr := hf
        unfold f_X10_findsLive_L17 at hf
        refine k_iload_n (pc := 17) h dX10_findsLive_17 rfl 2 rfl ?_
        refine k_aload_n (pc := 18) h dX10_findsLive_18 rfl 0 rfl ?_
        refine k_getI (pc := 19) h fl_RX10_101 rfl rfl dX10_findsLive_19 ?_
        refine k_icmp_ge (pc := 22) (tgt := 115) h dX10_findsLive_22 rfl (fun hc => ?_) (fun hc => ?_)
        · have hf := it_p hc hf
          obtain rfl := so1 hf
          exact k_drop [0, 1] rfl kc17
        · have hf := it_n hc hf
          refine k_aload_n (pc := 25) h dX10_findsLive_25 rfl 0 rfl ?_
          refine k_getI (pc := 26) h fl_RX10_101 rfl rfl dX10_findsLive_26 ?_
          refine k_iconst (pc := 29) h dX10_findsLive_29 kc_iconst_1 ?_
          refine k_isub (pc := 30) h dX10_findsLive_30 ?_
          obtain ⟨v9, ev9, hf⟩ := lb_s hf
          refine k_top ev9 ?_
          refine k_istore_n (pc := 31) h dX10_findsLive_31 rfl (nk hL (by decide)) (lv' := [(0, .ref 0), (1, .int v1), (2, .int v6), (3, .int v9)]) rfl ?_
          obtain ⟨s12, hl, hf⟩ := ob_s hf
          refine k_drop (lv' := [(0, .ref 0), (1, .int v1), (2, .int v6), (3, .int v9)]) [0, 1, 2, 3] rfl ?_
          refine lp_s (P := (fun q : Int32 × sh_S => sh_K G shM 32 [(0, .ref 0), (1, .int v1), (2, .int v6), (3, .int q.1)] [] q.2)) (Q := (fun q : sh_S => sh_K G shM 109 [(0, .ref 0), (1, .int v1), (2, .int v6)] [] q)) (s := (v9, s7)) ?_ hl ?_
          · clear hf hl
            intro q rr hf kc32
            obtain ⟨v10, s11⟩ := q
            have hf : f_X10_findsLive_L32 v1 v10 s11 = some rr := hf
            unfold f_X10_findsLive_L32 at hf
            refine k_iload_n (pc := 32) h dX10_findsLive_32 rfl 3 rfl ?_
            refine k_if_lt (pc := 33) (tgt := 109) h dX10_findsLive_33 rfl (fun hc => ?_) (fun hc => ?_)
            · have hf := it_p hc hf
              obtain rfl := so1 hf
              exact k_drop [0, 1, 2] rfl kc32
            · have hf := it_n hc hf
              refine k_aload_n (pc := 36) h dX10_findsLive_36 rfl 0 rfl ?_
              refine k_iload_n (pc := 37) h dX10_findsLive_37 rfl 3 rfl ?_
              obtain ⟨v13, cv13, hf⟩ := ob_s hf
              refine k_callV0 (pc := 38) h cv_RX10_152 (c_X10_readsOf v10 s11 v13 cv13) rfl rfl rfl (st1 := [.int v13]) rfl ⟨rfl, rfl⟩ (rk hR (Nat.le_of_ble_eq_true rfl) (Nat.le_of_ble_eq_true rfl)) (Nat.le_of_ble_eq_true rfl) dX10_findsLive_38 ?_
              refine k_iload_n (pc := 41) h dX10_findsLive_41 rfl 1 rfl ?_
              obtain ⟨v14, cv14, hf⟩ := ob_s hf
              refine k_callSp (pc := 42) h cs_RX10_89 (c_X10_isIn v13 v1 _ v14 cv14) rfl rfl (st1 := [.int v14]) rfl ⟨rfl, rfl⟩ (rk hR (Nat.le_of_ble_eq_true rfl) (Nat.le_of_ble_eq_true rfl)) (Nat.le_of_ble_eq_true rfl) dX10_findsLive_42 ?_
              obtain ⟨v15, hj, hf⟩ := ob_s hf
              have kj45 : sh_K G shM 80 [(0, .ref 0), (1, .int v1), (2, .int v6), (3, .int v10)] [.int v15] s11 := by
                refine k_istore (pc := 80) h dX10_findsLive_80 (nk hL (by decide)) (lv' := [(0, .ref 0), (1, .int v1), (2, .int v6), (3, .int v10), (4, .int v15)]) rfl ?_
                refine k_aload_n (pc := 82) h dX10_findsLive_82 rfl 0 rfl ?_
                refine k_getR (pc := 83) h fl_RX10_22 rfl rfl dX10_findsLive_83 ?_
                refine k_iload_n (pc := 86) h dX10_findsLive_86 rfl 1 rfl ?_
                refine k_dup2 (pc := 87) h dX10_findsLive_87 rfl rfl ?_
                obtain ⟨g20, hf⟩ := gu_s hf
                refine k_iald (pc := 88) (n := 8) h rfl g20 dX10_findsLive_88 ?_
                refine k_iload (pc := 89) h dX10_findsLive_89 4 rfl ?_
                obtain ⟨v21, hj, hf⟩ := ob_s hf
                have kj91 : sh_K G shM 101 [(0, .ref 0), (1, .int v1), (2, .int v6), (3, .int v10)] [.int v21, .int (s11 5 (ix v1)), .int v1, .ref 5] s11 := by
                  refine k_ior (pc := 101) h dX10_findsLive_101 ?_
                  obtain ⟨g22, hf⟩ := gu_s hf
                  obtain ⟨s23, es23, hf⟩ := lb_s hf
                  refine k_iast (pc := 102) (n := 8) h rfl g22 dX10_findsLive_102 ?_
                  refine k_heap es23 ?_
                  obtain ⟨v24, ev24, hf⟩ := lb_s hf
                  refine k_iinc (pc := 103) h dX10_findsLive_103 3 rfl ((congrArg (_ + ·) kc_iconst_m1).trans ev24.symm) (nk hL (by decide)) (lv' := [(0, .ref 0), (1, .int v1), (2, .int v6), (3, .int v24)]) rfl ?_
                  refine k_goto (pc := 106) (tgt := 32) h dX10_findsLive_106 rfl ?_
                  obtain rfl := so1 hf
                  exact k_drop [0, 1, 2, 3] rfl kc32
                clear hf
                have hf := hj
                clear hj
                refine k_if_eq (pc := 91) (tgt := 100) h dX10_findsLive_91 rfl (fun hc => ?_) (fun hc => ?_)
                · have hf := it_p hc hf
                  refine k_iconst (pc := 100) h dX10_findsLive_100 kc_iconst_0 ?_
                  obtain rfl := so1 hf
                  exact k_drop [0, 1, 2, 3] rfl kj91
                · have hf := it_n hc hf
                  refine k_iconst (pc := 94) h dX10_findsLive_94 kc_iconst_1 ?_
                  refine k_iload_n (pc := 95) h dX10_findsLive_95 rfl 3 rfl ?_
                  refine k_ishl (pc := 96) h dX10_findsLive_96 ?_
                  refine k_goto (pc := 97) (tgt := 101) h dX10_findsLive_97 rfl ?_
                  obtain rfl := so1 hf
                  exact k_drop [0, 1, 2, 3] rfl kj91
              clear hf
              have hf := hj
              clear hj
              refine k_if_ne (pc := 45) (tgt := 75) h dX10_findsLive_45 rfl (fun hc => ?_) (fun hc => ?_)
              · have hf := it_n hc hf
                refine k_iconst (pc := 75) h dX10_findsLive_75 kc_iconst_1 ?_
                refine k_goto (pc := 76) (tgt := 80) h dX10_findsLive_76 rfl ?_
                obtain rfl := so1 hf
                exact k_drop [0, 1, 2, 3] rfl kj45
              · have hf := it_p hc hf
                refine k_aload_n (pc := 48) h dX10_findsLive_48 rfl 0 rfl ?_
                refine k_iload_n (pc := 49) h dX10_findsLive_49 rfl 3 rfl ?_
                obtain ⟨v16, cv16, hf⟩ := ob_s hf
                refine k_callV0 (pc := 50) h cv_RX10_155 (c_X10_writesOf v10 s11 v16 cv16) rfl rfl rfl (st1 := [.int v16]) rfl ⟨rfl, rfl⟩ (rk hR (Nat.le_of_ble_eq_true rfl) (Nat.le_of_ble_eq_true rfl)) (Nat.le_of_ble_eq_true rfl) dX10_findsLive_50 ?_
                refine k_iload_n (pc := 53) h dX10_findsLive_53 rfl 1 rfl ?_
                obtain ⟨v17, cv17, hf⟩ := ob_s hf
                refine k_callSp (pc := 54) h cs_RX10_89 (c_X10_isIn v16 v1 _ v17 cv17) rfl rfl (st1 := [.int v17]) rfl ⟨rfl, rfl⟩ (rk hR (Nat.le_of_ble_eq_true rfl) (Nat.le_of_ble_eq_true rfl)) (Nat.le_of_ble_eq_true rfl) dX10_findsLive_54 ?_
                refine k_if_ne (pc := 57) (tgt := 79) h dX10_findsLive_57 rfl (fun hc => ?_) (fun hc => ?_)
                · have hf := it_n hc hf
                  refine k_iconst (pc := 79) h dX10_findsLive_79 kc_iconst_0 ?_
                  obtain rfl := so1 hf
                  exact k_drop [0, 1, 2, 3] rfl kj45
                · have hf := it_p hc hf
                  refine k_aload_n (pc := 60) h dX10_findsLive_60 rfl 0 rfl ?_
                  refine k_iload_n (pc := 61) h dX10_findsLive_61 rfl 3 rfl ?_
                  obtain ⟨v18, cv18, hf⟩ := ob_s hf
                  refine k_callV0 (pc := 62) h cv_RX10_140 (c_X10_nextOf v10 s11 v18 cv18) rfl rfl rfl (st1 := [.int v18]) rfl ⟨rfl, rfl⟩ (rk hR (Nat.le_of_ble_eq_true rfl) (Nat.le_of_ble_eq_true rfl)) (Nat.le_of_ble_eq_true rfl) dX10_findsLive_62 ?_
                  refine k_aload_n (pc := 65) h dX10_findsLive_65 rfl 0 rfl ?_
                  refine k_getR (pc := 66) h fl_RX10_22 rfl rfl dX10_findsLive_66 ?_
                  refine k_iload_n (pc := 69) h dX10_findsLive_69 rfl 1 rfl ?_
                  obtain ⟨g19, hf⟩ := gu_s hf
                  refine k_iald (pc := 70) (n := 8) h rfl g19 dX10_findsLive_70 ?_
                  refine k_iand (pc := 71) h dX10_findsLive_71 ?_
                  refine k_if_eq (pc := 72) (tgt := 79) h dX10_findsLive_72 rfl (fun hc => ?_) (fun hc => ?_)
                  · have hf := it_p hc hf
                    refine k_iconst (pc := 79) h dX10_findsLive_79 kc_iconst_0 ?_
                    obtain rfl := so1 hf
                    exact k_drop [0, 1, 2, 3] rfl kj45
                  · have hf := it_n hc hf
                    refine k_iconst (pc := 75) h dX10_findsLive_75 kc_iconst_1 ?_
                    refine k_goto (pc := 76) (tgt := 80) h dX10_findsLive_76 rfl ?_
                    obtain rfl := so1 hf
                    exact k_drop [0, 1, 2, 3] rfl kj45
          · obtain ⟨v25, ev25, hf⟩ := lb_s hf
            refine k_iinc (pc := 109) h dX10_findsLive_109 2 rfl ((congrArg (_ + ·) kc_iconst_1).trans ev25.symm) (nk hL (by decide)) (lv' := [(0, .ref 0), (1, .int v1), (2, .int v25)]) rfl ?_
            refine k_goto (pc := 112) (tgt := 17) h dX10_findsLive_112 rfl ?_
            obtain rfl := so1 hf
            exact k_drop [0, 1, 2] rfl kc17
      · obtain ⟨v26, ev26, hf⟩ := lb_s hf
        refine k_iinc (pc := 115) h dX10_findsLive_115 1 rfl ((congrArg (_ + ·) kc_iconst_1).trans ev26.symm) (nk hL (by decide)) (lv' := [(0, .ref 0), (1, .int v26)]) rfl ?_
        refine k_goto (pc := 118) (tgt := 2) h dX10_findsLive_118 rfl ?_
        obtain rfl := so1 hf
        exact k_drop [0, 1] rfl kc2
  · obtain rfl := so1 hf
    exact hret 121 _ dX10_findsLive_121 trivial
theorem dX10_findsRegions_0 : decode cX10_findsRegions 0 = .ok (.iconst 0, 1) := by decide +kernel
theorem dX10_findsRegions_1 : decode cX10_findsRegions 1 = .ok (.istore_n 1, 1) := by decide +kernel
theorem dX10_findsRegions_2 : decode cX10_findsRegions 2 = .ok (.iload_n 1, 1) := by decide +kernel
theorem dX10_findsRegions_3 : decode cX10_findsRegions 3 = .ok (.bipush 8, 2) := by decide +kernel
theorem dX10_findsRegions_5 : decode cX10_findsRegions 5 = .ok (.if_icmp .ge 26, 3) := by decide +kernel
theorem dX10_findsRegions_8 : decode cX10_findsRegions 8 = .ok (.aload_n 0, 1) := by decide +kernel
theorem dX10_findsRegions_9 : decode cX10_findsRegions 9 = .ok (.getfield 25, 3) := by decide +kernel
theorem dX10_findsRegions_12 : decode cX10_findsRegions 12 = .ok (.iload_n 1, 1) := by decide +kernel
theorem dX10_findsRegions_13 : decode cX10_findsRegions 13 = .ok (.aload_n 0, 1) := by decide +kernel
theorem dX10_findsRegions_14 : decode cX10_findsRegions 14 = .ok (.getfield 22, 3) := by decide +kernel
theorem dX10_findsRegions_17 : decode cX10_findsRegions 17 = .ok (.iload_n 1, 1) := by decide +kernel
theorem dX10_findsRegions_18 : decode cX10_findsRegions 18 = .ok (.iaload, 1) := by decide +kernel
theorem dX10_findsRegions_19 : decode cX10_findsRegions 19 = .ok (.aload_n 0, 1) := by decide +kernel
theorem dX10_findsRegions_20 : decode cX10_findsRegions 20 = .ok (.getfield 146, 3) := by decide +kernel
theorem dX10_findsRegions_23 : decode cX10_findsRegions 23 = .ok (.iand, 1) := by decide +kernel
theorem dX10_findsRegions_24 : decode cX10_findsRegions 24 = .ok (.iastore, 1) := by decide +kernel
theorem dX10_findsRegions_25 : decode cX10_findsRegions 25 = .ok (.iinc 1 1, 3) := by decide +kernel
theorem dX10_findsRegions_28 : decode cX10_findsRegions 28 = .ok (.goto (-26), 3) := by decide +kernel
theorem dX10_findsRegions_31 : decode cX10_findsRegions 31 = .ok (.iconst 0, 1) := by decide +kernel
theorem dX10_findsRegions_32 : decode cX10_findsRegions 32 = .ok (.istore_n 1, 1) := by decide +kernel
theorem dX10_findsRegions_33 : decode cX10_findsRegions 33 = .ok (.iload_n 1, 1) := by decide +kernel
theorem dX10_findsRegions_34 : decode cX10_findsRegions 34 = .ok (.bipush 8, 2) := by decide +kernel
theorem dX10_findsRegions_36 : decode cX10_findsRegions 36 = .ok (.if_icmp .ge 109, 3) := by decide +kernel
theorem dX10_findsRegions_39 : decode cX10_findsRegions 39 = .ok (.iconst 0, 1) := by decide +kernel
theorem dX10_findsRegions_40 : decode cX10_findsRegions 40 = .ok (.istore_n 2, 1) := by decide +kernel
theorem dX10_findsRegions_41 : decode cX10_findsRegions 41 = .ok (.iload_n 2, 1) := by decide +kernel
theorem dX10_findsRegions_42 : decode cX10_findsRegions 42 = .ok (.aload_n 0, 1) := by decide +kernel
theorem dX10_findsRegions_43 : decode cX10_findsRegions 43 = .ok (.getfield 101, 3) := by decide +kernel
theorem dX10_findsRegions_46 : decode cX10_findsRegions 46 = .ok (.if_icmp .ge 93, 3) := by decide +kernel
theorem dX10_findsRegions_49 : decode cX10_findsRegions 49 = .ok (.aload_n 0, 1) := by decide +kernel
theorem dX10_findsRegions_50 : decode cX10_findsRegions 50 = .ok (.getfield 7, 3) := by decide +kernel
theorem dX10_findsRegions_53 : decode cX10_findsRegions 53 = .ok (.iload_n 2, 1) := by decide +kernel
theorem dX10_findsRegions_54 : decode cX10_findsRegions 54 = .ok (.iaload, 1) := by decide +kernel
theorem dX10_findsRegions_55 : decode cX10_findsRegions 55 = .ok (.bipush 6, 2) := by decide +kernel
theorem dX10_findsRegions_57 : decode cX10_findsRegions 57 = .ok (.if_icmp .eq 23, 3) := by decide +kernel
theorem dX10_findsRegions_60 : decode cX10_findsRegions 60 = .ok (.aload_n 0, 1) := by decide +kernel
theorem dX10_findsRegions_61 : decode cX10_findsRegions 61 = .ok (.iload_n 2, 1) := by decide +kernel
theorem dX10_findsRegions_62 : decode cX10_findsRegions 62 = .ok (.invokevirtual 143, 3) := by decide +kernel
theorem dX10_findsRegions_65 : decode cX10_findsRegions 65 = .ok (.ifCond .eq 19, 3) := by decide +kernel
theorem dX10_findsRegions_68 : decode cX10_findsRegions 68 = .ok (.aload_n 0, 1) := by decide +kernel
theorem dX10_findsRegions_69 : decode cX10_findsRegions 69 = .ok (.getfield 16, 3) := by decide +kernel
theorem dX10_findsRegions_72 : decode cX10_findsRegions 72 = .ok (.iload_n 2, 1) := by decide +kernel
theorem dX10_findsRegions_73 : decode cX10_findsRegions 73 = .ok (.iaload, 1) := by decide +kernel
theorem dX10_findsRegions_74 : decode cX10_findsRegions 74 = .ok (.invokestatic 134, 3) := by decide +kernel
theorem dX10_findsRegions_77 : decode cX10_findsRegions 77 = .ok (.ifCond .eq 7, 3) := by decide +kernel
theorem dX10_findsRegions_80 : decode cX10_findsRegions 80 = .ok (.iconst 1, 1) := by decide +kernel
theorem dX10_findsRegions_81 : decode cX10_findsRegions 81 = .ok (.goto 4, 3) := by decide +kernel
theorem dX10_findsRegions_84 : decode cX10_findsRegions 84 = .ok (.iconst 0, 1) := by decide +kernel
theorem dX10_findsRegions_85 : decode cX10_findsRegions 85 = .ok (.istore_n 3, 1) := by decide +kernel
theorem dX10_findsRegions_86 : decode cX10_findsRegions 86 = .ok (.aload_n 0, 1) := by decide +kernel
theorem dX10_findsRegions_87 : decode cX10_findsRegions 87 = .ok (.getfield 25, 3) := by decide +kernel
theorem dX10_findsRegions_90 : decode cX10_findsRegions 90 = .ok (.aload_n 0, 1) := by decide +kernel
theorem dX10_findsRegions_91 : decode cX10_findsRegions 91 = .ok (.getfield 16, 3) := by decide +kernel
theorem dX10_findsRegions_94 : decode cX10_findsRegions 94 = .ok (.iload_n 2, 1) := by decide +kernel
theorem dX10_findsRegions_95 : decode cX10_findsRegions 95 = .ok (.iaload, 1) := by decide +kernel
theorem dX10_findsRegions_96 : decode cX10_findsRegions 96 = .ok (.invokestatic 128, 3) := by decide +kernel
theorem dX10_findsRegions_99 : decode cX10_findsRegions 99 = .ok (.dup2, 1) := by decide +kernel
theorem dX10_findsRegions_100 : decode cX10_findsRegions 100 = .ok (.iaload, 1) := by decide +kernel
theorem dX10_findsRegions_101 : decode cX10_findsRegions 101 = .ok (.iload_n 3, 1) := by decide +kernel
theorem dX10_findsRegions_102 : decode cX10_findsRegions 102 = .ok (.ifCond .eq 28, 3) := by decide +kernel
theorem dX10_findsRegions_105 : decode cX10_findsRegions 105 = .ok (.aload_n 0, 1) := by decide +kernel
theorem dX10_findsRegions_106 : decode cX10_findsRegions 106 = .ok (.getfield 146, 3) := by decide +kernel
theorem dX10_findsRegions_109 : decode cX10_findsRegions 109 = .ok (.iload_n 2, 1) := by decide +kernel
theorem dX10_findsRegions_110 : decode cX10_findsRegions 110 = .ok (.invokestatic 89, 3) := by decide +kernel
theorem dX10_findsRegions_113 : decode cX10_findsRegions 113 = .ok (.ifCond .eq 17, 3) := by decide +kernel
theorem dX10_findsRegions_116 : decode cX10_findsRegions 116 = .ok (.aload_n 0, 1) := by decide +kernel
theorem dX10_findsRegions_117 : decode cX10_findsRegions 117 = .ok (.getfield 25, 3) := by decide +kernel
theorem dX10_findsRegions_120 : decode cX10_findsRegions 120 = .ok (.aload_n 0, 1) := by decide +kernel
theorem dX10_findsRegions_121 : decode cX10_findsRegions 121 = .ok (.getfield 13, 3) := by decide +kernel
theorem dX10_findsRegions_124 : decode cX10_findsRegions 124 = .ok (.iload_n 2, 1) := by decide +kernel
theorem dX10_findsRegions_125 : decode cX10_findsRegions 125 = .ok (.iaload, 1) := by decide +kernel
theorem dX10_findsRegions_126 : decode cX10_findsRegions 126 = .ok (.iaload, 1) := by decide +kernel
theorem dX10_findsRegions_127 : decode cX10_findsRegions 127 = .ok (.goto 4, 3) := by decide +kernel
theorem dX10_findsRegions_130 : decode cX10_findsRegions 130 = .ok (.iconst 0, 1) := by decide +kernel
theorem dX10_findsRegions_131 : decode cX10_findsRegions 131 = .ok (.ior, 1) := by decide +kernel
theorem dX10_findsRegions_132 : decode cX10_findsRegions 132 = .ok (.iastore, 1) := by decide +kernel
theorem dX10_findsRegions_133 : decode cX10_findsRegions 133 = .ok (.iinc 2 1, 3) := by decide +kernel
theorem dX10_findsRegions_136 : decode cX10_findsRegions 136 = .ok (.goto (-95), 3) := by decide +kernel
theorem dX10_findsRegions_139 : decode cX10_findsRegions 139 = .ok (.iinc 1 1, 3) := by decide +kernel
theorem dX10_findsRegions_142 : decode cX10_findsRegions 142 = .ok (.goto (-109), 3) := by decide +kernel
theorem dX10_findsRegions_145 : decode cX10_findsRegions 145 = .ok (.return_, 1) := by decide +kernel
def f_X10_findsRegions_L2 (v1 : Int32) (s2 : sh_S) : Option ((Int32 × sh_S) ⊕ (sh_S)) := (if (8 : Int32) ≤ v1 then some (.inr s2) else gu (inb v1 8) (gu (inb v1 8) (lb (ur s2 6 (upd (s2 6) (ix v1) ((s2 5 (ix v1)) &&& (s2 0 5)))) (fun s6 => lb (v1 + (1 : Int32)) (fun v7 => some (.inl (v7, s6)))))))
def f_X10_findsRegions_L41 (v11 : Int32) (s12 : sh_S) : Option ((Int32 × sh_S) ⊕ (sh_S)) := (if (s12 0 0) ≤ v11 then some (.inr s12) else gu (inb v11 24) (ob (if (s12 1 (ix v11)) = (6 : Int32) then some (1 : Int32) else ob (f_X10_lends v11 s12) (fun v16 => (if v16 = 0 then some (0 : Int32) else gu (inb v11 24) (ob (f_X10_through (s12 3 (ix v11))) (fun v18 => (if v18 = 0 then some (0 : Int32) else some (1 : Int32))))))) (fun v15 => gu (inb v11 24) (ob (f_X10_variable (s12 3 (ix v11))) (fun v20 => gu (inb v20 8) (ob (if v15 = 0 then some (0 : Int32) else ob (f_X10_isIn (s12 0 5) v11) (fun v23 => (if v23 = 0 then some (0 : Int32) else gu (inb v11 24) (gu (inb (s12 2 (ix v11)) 8) (some (s12 6 (ix (s12 2 (ix v11))))))))) (fun v22 => gu (inb v20 8) (lb (ur s12 6 (upd (s12 6) (ix v20) ((s12 6 (ix v20)) ||| v22))) (fun s27 => lb (v11 + (1 : Int32)) (fun v28 => some (.inl (v28, s27))))))))))))
def f_X10_findsRegions_L33 (v8 : Int32) (s9 : sh_S) : Option ((Int32 × sh_S) ⊕ (sh_S)) := (if (8 : Int32) ≤ v8 then some (.inr s9) else ob (lp (fun q => f_X10_findsRegions_L41 q.1 q.2) FU ((0 : Int32), s9)) (fun s13 => lb (v8 + (1 : Int32)) (fun v29 => some (.inl (v29, s13)))))
def f_X10_findsRegions  (s0 : sh_S) : Option (sh_S) := ob (lp (fun q => f_X10_findsRegions_L2 q.1 q.2) FU ((0 : Int32), s0)) (fun s3 => ob (lp (fun q => f_X10_findsRegions_L33 q.1 q.2) FU ((0 : Int32), s3)) (fun s10 => some s10))
set_option maxRecDepth 100000 in
set_option maxHeartbeats 4000000 in
theorem c_X10_findsRegions  (s0 : sh_S) (s9x : sh_S) (hf : f_X10_findsRegions  s0 = some s9x) : Ctr yX10_findsRegions cX10_findsRegions 4 none ({ frames := 2, cells := 0, slots := 0, locals := 43 } : Room) shM [.ref 0] s0 none s9x := by
  refine Ctr.mk (ri := .return_) (by decide) (Nat.le_of_ble_eq_true rfl) (Rt_v) ?_
  intro G h hL hR hret
  refine k_drop (lv' := [(0, .ref 0)]) [0] rfl ?_
  unfold f_X10_findsRegions at hf
  refine k_iconst (pc := 0) h dX10_findsRegions_0 kc_iconst_0 ?_
  refine k_istore_n (pc := 1) h dX10_findsRegions_1 rfl (nk hL (by decide)) (lv' := [(0, .ref 0), (1, .int (0 : Int32))]) rfl ?_
  obtain ⟨s3, hl, hf⟩ := ob_s hf
  refine k_drop (lv' := [(0, .ref 0), (1, .int (0 : Int32))]) [0, 1] rfl ?_
  refine lp_s (P := (fun q : Int32 × sh_S => sh_K G shM 2 [(0, .ref 0), (1, .int q.1)] [] q.2)) (Q := (fun q : sh_S => sh_K G shM 31 [(0, .ref 0)] [] q)) (s := ((0 : Int32), s0)) ?_ hl ?_
  · clear hf hl
    intro q rr hf kc2
    obtain ⟨v1, s2⟩ := q
    have hf : f_X10_findsRegions_L2 v1 s2 = some rr := hf
    unfold f_X10_findsRegions_L2 at hf
    refine k_iload_n (pc := 2) h dX10_findsRegions_2 rfl 1 rfl ?_
    refine k_bipush (pc := 3) h dX10_findsRegions_3 kc_bipush_8 ?_
    refine k_icmp_ge (pc := 5) (tgt := 31) h dX10_findsRegions_5 rfl (fun hc => ?_) (fun hc => ?_)
    · have hf := it_p hc hf
      obtain rfl := so1 hf
      exact k_drop [0] rfl kc2
    · have hf := it_n hc hf
      refine k_aload_n (pc := 8) h dX10_findsRegions_8 rfl 0 rfl ?_
      refine k_getR (pc := 9) h fl_RX10_25 rfl rfl dX10_findsRegions_9 ?_
      refine k_iload_n (pc := 12) h dX10_findsRegions_12 rfl 1 rfl ?_
      refine k_aload_n (pc := 13) h dX10_findsRegions_13 rfl 0 rfl ?_
      refine k_getR (pc := 14) h fl_RX10_22 rfl rfl dX10_findsRegions_14 ?_
      refine k_iload_n (pc := 17) h dX10_findsRegions_17 rfl 1 rfl ?_
      obtain ⟨g4, hf⟩ := gu_s hf
      refine k_iald (pc := 18) (n := 8) h rfl g4 dX10_findsRegions_18 ?_
      refine k_aload_n (pc := 19) h dX10_findsRegions_19 rfl 0 rfl ?_
      refine k_getI (pc := 20) h fl_RX10_146 rfl rfl dX10_findsRegions_20 ?_
      refine k_iand (pc := 23) h dX10_findsRegions_23 ?_
      obtain ⟨g5, hf⟩ := gu_s hf
      obtain ⟨s6, es6, hf⟩ := lb_s hf
      refine k_iast (pc := 24) (n := 8) h rfl g5 dX10_findsRegions_24 ?_
      refine k_heap es6 ?_
      obtain ⟨v7, ev7, hf⟩ := lb_s hf
      refine k_iinc (pc := 25) h dX10_findsRegions_25 1 rfl ((congrArg (_ + ·) kc_iconst_1).trans ev7.symm) (nk hL (by decide)) (lv' := [(0, .ref 0), (1, .int v7)]) rfl ?_
      refine k_goto (pc := 28) (tgt := 2) h dX10_findsRegions_28 rfl ?_
      obtain rfl := so1 hf
      exact k_drop [0, 1] rfl kc2
  · refine k_iconst (pc := 31) h dX10_findsRegions_31 kc_iconst_0 ?_
    refine k_istore_n (pc := 32) h dX10_findsRegions_32 rfl (nk hL (by decide)) (lv' := [(0, .ref 0), (1, .int (0 : Int32))]) rfl ?_
    obtain ⟨s10, hl, hf⟩ := ob_s hf
    refine k_drop (lv' := [(0, .ref 0), (1, .int (0 : Int32))]) [0, 1] rfl ?_
    refine lp_s (P := (fun q : Int32 × sh_S => sh_K G shM 33 [(0, .ref 0), (1, .int q.1)] [] q.2)) (Q := (fun q : sh_S => sh_K G shM 145 [] [] q)) (s := ((0 : Int32), s3)) ?_ hl ?_
    · clear hf hl
      intro q rr hf kc33
      obtain ⟨v8, s9⟩ := q
      have hf : f_X10_findsRegions_L33 v8 s9 = some rr := hf
      unfold f_X10_findsRegions_L33 at hf
      refine k_iload_n (pc := 33) h dX10_findsRegions_33 rfl 1 rfl ?_
      refine k_bipush (pc := 34) h dX10_findsRegions_34 kc_bipush_8 ?_
      refine k_icmp_ge (pc := 36) (tgt := 145) h dX10_findsRegions_36 rfl (fun hc => ?_) (fun hc => ?_)
      · have hf := it_p hc hf
        obtain rfl := so1 hf
        exact k_drop [] rfl kc33
      · have hf := it_n hc hf
        refine k_iconst (pc := 39) h dX10_findsRegions_39 kc_iconst_0 ?_
        refine k_istore_n (pc := 40) h dX10_findsRegions_40 rfl (nk hL (by decide)) (lv' := [(0, .ref 0), (1, .int v8), (2, .int (0 : Int32))]) rfl ?_
        obtain ⟨s13, hl, hf⟩ := ob_s hf
        refine k_drop (lv' := [(0, .ref 0), (1, .int v8), (2, .int (0 : Int32))]) [0, 1, 2] rfl ?_
        refine lp_s (P := (fun q : Int32 × sh_S => sh_K G shM 41 [(0, .ref 0), (1, .int v8), (2, .int q.1)] [] q.2)) (Q := (fun q : sh_S => sh_K G shM 139 [(0, .ref 0), (1, .int v8)] [] q)) (s := ((0 : Int32), s9)) ?_ hl ?_
        · clear hf hl
          intro q rr hf kc41
          obtain ⟨v11, s12⟩ := q
          have hf : f_X10_findsRegions_L41 v11 s12 = some rr := hf
          unfold f_X10_findsRegions_L41 at hf
          refine k_iload_n (pc := 41) h dX10_findsRegions_41 rfl 2 rfl ?_
          refine k_aload_n (pc := 42) h dX10_findsRegions_42 rfl 0 rfl ?_
          refine k_getI (pc := 43) h fl_RX10_101 rfl rfl dX10_findsRegions_43 ?_
          refine k_icmp_ge (pc := 46) (tgt := 139) h dX10_findsRegions_46 rfl (fun hc => ?_) (fun hc => ?_)
          · have hf := it_p hc hf
            obtain rfl := so1 hf
            exact k_drop [0, 1] rfl kc41
          · have hf := it_n hc hf
            refine k_aload_n (pc := 49) h dX10_findsRegions_49 rfl 0 rfl ?_
            refine k_getR (pc := 50) h fl_RX10_7 rfl rfl dX10_findsRegions_50 ?_
            refine k_iload_n (pc := 53) h dX10_findsRegions_53 rfl 2 rfl ?_
            obtain ⟨g14, hf⟩ := gu_s hf
            refine k_iald (pc := 54) (n := 24) h rfl g14 dX10_findsRegions_54 ?_
            refine k_bipush (pc := 55) h dX10_findsRegions_55 kc_bipush_6 ?_
            obtain ⟨v15, hj, hf⟩ := ob_s hf
            have kj57 : sh_K G shM 85 [(0, .ref 0), (1, .int v8), (2, .int v11)] [.int v15] s12 := by
              refine k_istore_n (pc := 85) h dX10_findsRegions_85 rfl (nk hL (by decide)) (lv' := [(0, .ref 0), (1, .int v8), (2, .int v11), (3, .int v15)]) rfl ?_
              refine k_aload_n (pc := 86) h dX10_findsRegions_86 rfl 0 rfl ?_
              refine k_getR (pc := 87) h fl_RX10_25 rfl rfl dX10_findsRegions_87 ?_
              refine k_aload_n (pc := 90) h dX10_findsRegions_90 rfl 0 rfl ?_
              refine k_getR (pc := 91) h fl_RX10_16 rfl rfl dX10_findsRegions_91 ?_
              refine k_iload_n (pc := 94) h dX10_findsRegions_94 rfl 2 rfl ?_
              obtain ⟨g19, hf⟩ := gu_s hf
              refine k_iald (pc := 95) (n := 24) h rfl g19 dX10_findsRegions_95 ?_
              obtain ⟨v20, cv20, hf⟩ := ob_s hf
              refine k_callSp (pc := 96) h cs_RX10_128 (c_X10_variable (s12 3 (ix v11)) _ v20 cv20) rfl rfl (st1 := [.int v20, .ref 6]) rfl ⟨rfl, rfl⟩ (rk hR (Nat.le_of_ble_eq_true rfl) (Nat.le_of_ble_eq_true rfl)) (Nat.le_of_ble_eq_true rfl) dX10_findsRegions_96 ?_
              refine k_dup2 (pc := 99) h dX10_findsRegions_99 rfl rfl ?_
              obtain ⟨g21, hf⟩ := gu_s hf
              refine k_iald (pc := 100) (n := 8) h rfl g21 dX10_findsRegions_100 ?_
              refine k_iload_n (pc := 101) h dX10_findsRegions_101 rfl 3 rfl ?_
              obtain ⟨v22, hj, hf⟩ := ob_s hf
              have kj102 : sh_K G shM 131 [(0, .ref 0), (1, .int v8), (2, .int v11)] [.int v22, .int (s12 6 (ix v20)), .int v20, .ref 6] s12 := by
                refine k_ior (pc := 131) h dX10_findsRegions_131 ?_
                obtain ⟨g26, hf⟩ := gu_s hf
                obtain ⟨s27, es27, hf⟩ := lb_s hf
                refine k_iast (pc := 132) (n := 8) h rfl g26 dX10_findsRegions_132 ?_
                refine k_heap es27 ?_
                obtain ⟨v28, ev28, hf⟩ := lb_s hf
                refine k_iinc (pc := 133) h dX10_findsRegions_133 2 rfl ((congrArg (_ + ·) kc_iconst_1).trans ev28.symm) (nk hL (by decide)) (lv' := [(0, .ref 0), (1, .int v8), (2, .int v28)]) rfl ?_
                refine k_goto (pc := 136) (tgt := 41) h dX10_findsRegions_136 rfl ?_
                obtain rfl := so1 hf
                exact k_drop [0, 1, 2] rfl kc41
              clear hf
              have hf := hj
              clear hj
              refine k_if_eq (pc := 102) (tgt := 130) h dX10_findsRegions_102 rfl (fun hc => ?_) (fun hc => ?_)
              · have hf := it_p hc hf
                refine k_iconst (pc := 130) h dX10_findsRegions_130 kc_iconst_0 ?_
                obtain rfl := so1 hf
                exact k_drop [0, 1, 2] rfl kj102
              · have hf := it_n hc hf
                refine k_aload_n (pc := 105) h dX10_findsRegions_105 rfl 0 rfl ?_
                refine k_getI (pc := 106) h fl_RX10_146 rfl rfl dX10_findsRegions_106 ?_
                refine k_iload_n (pc := 109) h dX10_findsRegions_109 rfl 2 rfl ?_
                obtain ⟨v23, cv23, hf⟩ := ob_s hf
                refine k_callSp (pc := 110) h cs_RX10_89 (c_X10_isIn (s12 0 5) v11 _ v23 cv23) rfl rfl (st1 := [.int v23, .int (s12 6 (ix v20)), .int v20, .ref 6]) rfl ⟨rfl, rfl⟩ (rk hR (Nat.le_of_ble_eq_true rfl) (Nat.le_of_ble_eq_true rfl)) (Nat.le_of_ble_eq_true rfl) dX10_findsRegions_110 ?_
                refine k_if_eq (pc := 113) (tgt := 130) h dX10_findsRegions_113 rfl (fun hc => ?_) (fun hc => ?_)
                · have hf := it_p hc hf
                  refine k_iconst (pc := 130) h dX10_findsRegions_130 kc_iconst_0 ?_
                  obtain rfl := so1 hf
                  exact k_drop [0, 1, 2] rfl kj102
                · have hf := it_n hc hf
                  refine k_aload_n (pc := 116) h dX10_findsRegions_116 rfl 0 rfl ?_
                  refine k_getR (pc := 117) h fl_RX10_25 rfl rfl dX10_findsRegions_117 ?_
                  refine k_aload_n (pc := 120) h dX10_findsRegions_120 rfl 0 rfl ?_
                  refine k_getR (pc := 121) h fl_RX10_13 rfl rfl dX10_findsRegions_121 ?_
                  refine k_iload_n (pc := 124) h dX10_findsRegions_124 rfl 2 rfl ?_
                  obtain ⟨g24, hf⟩ := gu_s hf
                  refine k_iald (pc := 125) (n := 24) h rfl g24 dX10_findsRegions_125 ?_
                  obtain ⟨g25, hf⟩ := gu_s hf
                  refine k_iald (pc := 126) (n := 8) h rfl g25 dX10_findsRegions_126 ?_
                  refine k_goto (pc := 127) (tgt := 131) h dX10_findsRegions_127 rfl ?_
                  obtain rfl := so1 hf
                  exact k_drop [0, 1, 2] rfl kj102
            clear hf
            have hf := hj
            clear hj
            refine k_icmp_eq (pc := 57) (tgt := 80) h dX10_findsRegions_57 rfl (fun hc => ?_) (fun hc => ?_)
            · have hf := it_p hc hf
              refine k_iconst (pc := 80) h dX10_findsRegions_80 kc_iconst_1 ?_
              refine k_goto (pc := 81) (tgt := 85) h dX10_findsRegions_81 rfl ?_
              obtain rfl := so1 hf
              exact k_drop [0, 1, 2] rfl kj57
            · have hf := it_n hc hf
              refine k_aload_n (pc := 60) h dX10_findsRegions_60 rfl 0 rfl ?_
              refine k_iload_n (pc := 61) h dX10_findsRegions_61 rfl 2 rfl ?_
              obtain ⟨v16, cv16, hf⟩ := ob_s hf
              refine k_callV0 (pc := 62) h cv_RX10_143 (c_X10_lends v11 s12 v16 cv16) rfl rfl rfl (st1 := [.int v16]) rfl ⟨rfl, rfl⟩ (rk hR (Nat.le_of_ble_eq_true rfl) (Nat.le_of_ble_eq_true rfl)) (Nat.le_of_ble_eq_true rfl) dX10_findsRegions_62 ?_
              refine k_if_eq (pc := 65) (tgt := 84) h dX10_findsRegions_65 rfl (fun hc => ?_) (fun hc => ?_)
              · have hf := it_p hc hf
                refine k_iconst (pc := 84) h dX10_findsRegions_84 kc_iconst_0 ?_
                obtain rfl := so1 hf
                exact k_drop [0, 1, 2] rfl kj57
              · have hf := it_n hc hf
                refine k_aload_n (pc := 68) h dX10_findsRegions_68 rfl 0 rfl ?_
                refine k_getR (pc := 69) h fl_RX10_16 rfl rfl dX10_findsRegions_69 ?_
                refine k_iload_n (pc := 72) h dX10_findsRegions_72 rfl 2 rfl ?_
                obtain ⟨g17, hf⟩ := gu_s hf
                refine k_iald (pc := 73) (n := 24) h rfl g17 dX10_findsRegions_73 ?_
                obtain ⟨v18, cv18, hf⟩ := ob_s hf
                refine k_callSp (pc := 74) h cs_RX10_134 (c_X10_through (s12 3 (ix v11)) _ v18 cv18) rfl rfl (st1 := [.int v18]) rfl ⟨rfl, rfl⟩ (rk hR (Nat.le_of_ble_eq_true rfl) (Nat.le_of_ble_eq_true rfl)) (Nat.le_of_ble_eq_true rfl) dX10_findsRegions_74 ?_
                refine k_if_eq (pc := 77) (tgt := 84) h dX10_findsRegions_77 rfl (fun hc => ?_) (fun hc => ?_)
                · have hf := it_p hc hf
                  refine k_iconst (pc := 84) h dX10_findsRegions_84 kc_iconst_0 ?_
                  obtain rfl := so1 hf
                  exact k_drop [0, 1, 2] rfl kj57
                · have hf := it_n hc hf
                  refine k_iconst (pc := 80) h dX10_findsRegions_80 kc_iconst_1 ?_
                  refine k_goto (pc := 81) (tgt := 85) h dX10_findsRegions_81 rfl ?_
                  obtain rfl := so1 hf
                  exact k_drop [0, 1, 2] rfl kj57
        · obtain ⟨v29, ev29, hf⟩ := lb_s hf
          refine k_iinc (pc := 139) h dX10_findsRegions_139 1 rfl ((congrArg (_ + ·) kc_iconst_1).trans ev29.symm) (nk hL (by decide)) (lv' := [(0, .ref 0), (1, .int v29)]) rfl ?_
          refine k_goto (pc := 142) (tgt := 33) h dX10_findsRegions_142 rfl ?_
          obtain rfl := so1 hf
          exact k_drop [0, 1] rfl kc33
    · obtain rfl := so1 hf
      exact hret 145 _ dX10_findsRegions_145 trivial
