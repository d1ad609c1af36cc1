theorem dX6_isLost_0 : decode cX6_isLost 0 = .ok (.aload_n 0, 1) := by decide +kernel
theorem dX6_isLost_1 : decode cX6_isLost 1 = .ok (.getfield 15, 3) := by decide +kernel
theorem dX6_isLost_4 : decode cX6_isLost 4 = .ok (.iconst (-1), 1) := by decide +kernel
theorem dX6_isLost_5 : decode cX6_isLost 5 = .ok (.if_icmp .ne 7, 3) := by decide +kernel
theorem dX6_isLost_8 : decode cX6_isLost 8 = .ok (.iconst 1, 1) := by decide +kernel
theorem dX6_isLost_9 : decode cX6_isLost 9 = .ok (.goto 4, 3) := by decide +kernel
theorem dX6_isLost_12 : decode cX6_isLost 12 = .ok (.iconst 0, 1) := by decide +kernel
theorem dX6_isLost_13 : decode cX6_isLost 13 = .ok (.ireturn, 1) := by decide +kernel
def f_X6_isLost  (s0 : sh_S) : Option (Int32) := ob (if (s0 0 1) = (-1 : Int32) then some (1 : Int32) else some (0 : Int32)) (fun v1 => gu (v1 = 0 ∨ v1 = 1) (some v1))
set_option maxRecDepth 100000 in
set_option maxHeartbeats 4000000 in
theorem c_X6_isLost  (s0 : sh_S) (r : Int32) (hf : f_X6_isLost  s0 = some r) : Ctr yX6_isLost cX6_isLost 1 (some .boolean) ({ frames := 0, cells := 0, slots := 0, locals := 0 } : Room) shSH [.ref 0] s0 (some (.int r)) s0 := by
  refine Ctr.mk (ri := .ireturn) (by decide) (Nat.le_of_ble_eq_true rfl) (Rt_z r) ?_
  intro G h hL hR hret
  refine k_drop (lv' := [(0, .ref 0)]) [0] rfl ?_
  unfold f_X6_isLost at hf
  refine k_aload_n (pc := 0) h dX6_isLost_0 rfl 0 rfl ?_
  refine k_getI (pc := 1) h fl_RX6_15 rfl rfl dX6_isLost_1 ?_
  refine k_iconst (pc := 4) h dX6_isLost_4 kc_iconst_m1 ?_
  obtain ⟨v1, hj, hf⟩ := ob_s hf
  have kj5 : sh_K G shSH 13 [] [.int v1] s0 := by
    obtain ⟨g2, hf⟩ := gu_s hf
    obtain rfl := so1 hf
    exact hret 13 _ dX6_isLost_13 g2
  clear hf
  have hf := hj
  clear hj
  refine k_icmp_ne (pc := 5) (tgt := 12) h dX6_isLost_5 rfl (fun hc => ?_) (fun hc => ?_)
  · have hf := it_n hc hf
    refine k_iconst (pc := 12) h dX6_isLost_12 kc_iconst_0 ?_
    obtain rfl := so1 hf
    exact k_drop [] rfl kj5
  · have hf := it_p hc hf
    refine k_iconst (pc := 8) h dX6_isLost_8 kc_iconst_1 ?_
    refine k_goto (pc := 9) (tgt := 13) h dX6_isLost_9 rfl ?_
    obtain rfl := so1 hf
    exact k_drop [] rfl kj5
theorem dX6_renew_0 : decode cX6_renew 0 = .ok (.aload_n 0, 1) := by decide +kernel
theorem dX6_renew_1 : decode cX6_renew 1 = .ok (.iload_n 1, 1) := by decide +kernel
theorem dX6_renew_2 : decode cX6_renew 2 = .ok (.putfield 15, 3) := by decide +kernel
theorem dX6_renew_5 : decode cX6_renew 5 = .ok (.aload_n 0, 1) := by decide +kernel
theorem dX6_renew_6 : decode cX6_renew 6 = .ok (.iload_n 2, 1) := by decide +kernel
theorem dX6_renew_7 : decode cX6_renew 7 = .ok (.putfield 19, 3) := by decide +kernel
theorem dX6_renew_10 : decode cX6_renew 10 = .ok (.iconst 0, 1) := by decide +kernel
theorem dX6_renew_11 : decode cX6_renew 11 = .ok (.istore_n 3, 1) := by decide +kernel
theorem dX6_renew_12 : decode cX6_renew 12 = .ok (.iload_n 3, 1) := by decide +kernel
theorem dX6_renew_13 : decode cX6_renew 13 = .ok (.bipush 60, 2) := by decide +kernel
theorem dX6_renew_15 : decode cX6_renew 15 = .ok (.if_icmp .ge 16, 3) := by decide +kernel
theorem dX6_renew_18 : decode cX6_renew 18 = .ok (.aload_n 0, 1) := by decide +kernel
theorem dX6_renew_19 : decode cX6_renew 19 = .ok (.getfield 9, 3) := by decide +kernel
theorem dX6_renew_22 : decode cX6_renew 22 = .ok (.iload_n 3, 1) := by decide +kernel
theorem dX6_renew_23 : decode cX6_renew 23 = .ok (.iconst 0, 1) := by decide +kernel
theorem dX6_renew_24 : decode cX6_renew 24 = .ok (.iastore, 1) := by decide +kernel
theorem dX6_renew_25 : decode cX6_renew 25 = .ok (.iinc 3 1, 3) := by decide +kernel
theorem dX6_renew_28 : decode cX6_renew 28 = .ok (.goto (-16), 3) := by decide +kernel
theorem dX6_renew_31 : decode cX6_renew 31 = .ok (.return_, 1) := by decide +kernel
def f_X6_renew_L12 (v3 : Int32) (s4 : sh_S) : Option ((Int32 × sh_S) ⊕ (sh_S)) := (if (60 : Int32) ≤ v3 then some (.inr s4) else gu (inb v3 60) (lb (ur s4 1 (upd (s4 1) (ix v3) (0 : Int32))) (fun s7 => lb (v3 + (1 : Int32)) (fun v8 => some (.inl (v8, s7))))))
def f_X6_renew (p1 : Int32) (p2 : Int32) (s0 : sh_S) : Option (sh_S) := lb (ur s0 0 (upd (s0 0) 1 p1)) (fun s1 => lb (ur s1 0 (upd (s1 0) 2 p2)) (fun s2 => ob (lp (fun q => f_X6_renew_L12 q.1 q.2) FU ((0 : Int32), s2)) (fun s5 => some s5)))
set_option maxRecDepth 100000 in
set_option maxHeartbeats 4000000 in
theorem c_X6_renew (p1 : Int32) (p2 : Int32) (s0 : sh_S) (s9x : sh_S) (hf : f_X6_renew p1 p2 s0 = some s9x) : Ctr yX6_renew cX6_renew 4 none ({ frames := 0, cells := 0, slots := 0, locals := 0 } : Room) shSH [.ref 0, .int p1, .int p2] s0 none s9x := by
  refine Ctr.mk (ri := .return_) (by decide) (Nat.le_of_ble_eq_true rfl) (Rt_v) ?_
  intro G h hL hR hret
  refine k_drop (lv' := [(0, .ref 0), (1, .int p1), (2, .int p2)]) [0, 1, 2] rfl ?_
  unfold f_X6_renew at hf
  refine k_aload_n (pc := 0) h dX6_renew_0 rfl 0 rfl ?_
  refine k_iload_n (pc := 1) h dX6_renew_1 rfl 1 rfl ?_
  obtain ⟨s1, es1, hf⟩ := lb_s hf
  refine k_put (pc := 2) h fl_RX6_15 fp_X6_1 rfl rfl rfl rfl dX6_renew_2 ?_
  refine k_heap es1 ?_
  refine k_aload_n (pc := 5) h dX6_renew_5 rfl 0 rfl ?_
  refine k_iload_n (pc := 6) h dX6_renew_6 rfl 2 rfl ?_
  obtain ⟨s2, es2, hf⟩ := lb_s hf
  refine k_put (pc := 7) h fl_RX6_19 fp_X6_2 rfl rfl rfl rfl dX6_renew_7 ?_
  refine k_heap es2 ?_
  refine k_iconst (pc := 10) h dX6_renew_10 kc_iconst_0 ?_
  refine k_istore_n (pc := 11) h dX6_renew_11 rfl (nk hL (by decide)) (lv' := [(0, .ref 0), (1, .int p1), (2, .int p2), (3, .int (0 : Int32))]) rfl ?_
  obtain ⟨s5, hl, hf⟩ := ob_s hf
  refine k_drop (lv' := [(0, .ref 0), (3, .int (0 : Int32))]) [0, 3] rfl ?_
  refine lp_s (P := (fun q : Int32 × sh_S => sh_K G shSH 12 [(0, .ref 0), (3, .int q.1)] [] q.2)) (Q := (fun q : sh_S => sh_K G shSH 31 [] [] q)) (s := ((0 : Int32), s2)) ?_ hl ?_
  · clear hf hl
    intro q rr hf kc12
    obtain ⟨v3, s4⟩ := q
    have hf : f_X6_renew_L12 v3 s4 = some rr := hf
    unfold f_X6_renew_L12 at hf
    refine k_iload_n (pc := 12) h dX6_renew_12 rfl 1 rfl ?_
    refine k_bipush (pc := 13) h dX6_renew_13 kc_bipush_60 ?_
    refine k_icmp_ge (pc := 15) (tgt := 31) h dX6_renew_15 rfl (fun hc => ?_) (fun hc => ?_)
    · have hf := it_p hc hf
      obtain rfl := so1 hf
      exact k_drop [] rfl kc12
    · have hf := it_n hc hf
      refine k_aload_n (pc := 18) h dX6_renew_18 rfl 0 rfl ?_
      refine k_getR (pc := 19) h fl_RX6_9 rfl rfl dX6_renew_19 ?_
      refine k_iload_n (pc := 22) h dX6_renew_22 rfl 1 rfl ?_
      refine k_iconst (pc := 23) h dX6_renew_23 kc_iconst_0 ?_
      obtain ⟨g6, hf⟩ := gu_s hf
      obtain ⟨s7, es7, hf⟩ := lb_s hf
      refine k_iast (pc := 24) (n := 60) h rfl g6 dX6_renew_24 ?_
      refine k_heap es7 ?_
      obtain ⟨v8, ev8, hf⟩ := lb_s hf
      refine k_iinc (pc := 25) h dX6_renew_25 1 rfl ((congrArg (_ + ·) kc_iconst_1).trans ev8.symm) (nk hL (by decide)) (lv' := [(0, .ref 0), (3, .int v8)]) rfl ?_
      refine k_goto (pc := 28) (tgt := 12) h dX6_renew_28 rfl ?_
      obtain rfl := so1 hf
      exact k_drop [0, 1] rfl kc12
  · obtain rfl := so1 hf
    exact hret 31 _ dX6_renew_31 trivial
theorem dX6_drop_0 : decode cX6_drop 0 = .ok (.aload_n 0, 1) := by decide +kernel
theorem dX6_drop_1 : decode cX6_drop 1 = .ok (.iconst (-1), 1) := by decide +kernel
theorem dX6_drop_2 : decode cX6_drop 2 = .ok (.putfield 15, 3) := by decide +kernel
theorem dX6_drop_5 : decode cX6_drop 5 = .ok (.aload_n 0, 1) := by decide +kernel
theorem dX6_drop_6 : decode cX6_drop 6 = .ok (.iconst 0, 1) := by decide +kernel
theorem dX6_drop_7 : decode cX6_drop 7 = .ok (.putfield 19, 3) := by decide +kernel
theorem dX6_drop_10 : decode cX6_drop 10 = .ok (.return_, 1) := by decide +kernel
def f_X6_drop  (s0 : sh_S) : Option (sh_S) := lb (ur s0 0 (upd (s0 0) 1 (-1 : Int32))) (fun s1 => lb (ur s1 0 (upd (s1 0) 2 (0 : Int32))) (fun s2 => some s2))
set_option maxRecDepth 100000 in
set_option maxHeartbeats 4000000 in
theorem c_X6_drop  (s0 : sh_S) (s9x : sh_S) (hf : f_X6_drop  s0 = some s9x) : Ctr yX6_drop cX6_drop 1 none ({ frames := 0, cells := 0, slots := 0, locals := 0 } : Room) shSH [.ref 0] s0 none s9x := by
  refine Ctr.mk (ri := .return_) (by decide) (Nat.le_of_ble_eq_true rfl) (Rt_v) ?_
  intro G h hL hR hret
  refine k_drop (lv' := [(0, .ref 0)]) [0] rfl ?_
  unfold f_X6_drop at hf
  refine k_aload_n (pc := 0) h dX6_drop_0 rfl 0 rfl ?_
  refine k_iconst (pc := 1) h dX6_drop_1 kc_iconst_m1 ?_
  obtain ⟨s1, es1, hf⟩ := lb_s hf
  refine k_put (pc := 2) h fl_RX6_15 fp_X6_1 rfl rfl rfl rfl dX6_drop_2 ?_
  refine k_heap es1 ?_
  refine k_aload_n (pc := 5) h dX6_drop_5 rfl 0 rfl ?_
  refine k_iconst (pc := 6) h dX6_drop_6 kc_iconst_0 ?_
  obtain ⟨s2, es2, hf⟩ := lb_s hf
  refine k_put (pc := 7) h fl_RX6_19 fp_X6_2 rfl rfl rfl rfl dX6_drop_7 ?_
  refine k_heap es2 ?_
  obtain rfl := so1 hf
  exact hret 10 _ dX6_drop_10 trivial
theorem dX6_hindrance_0 : decode cX6_hindrance 0 = .ok (.aload_n 0, 1) := by decide +kernel
theorem dX6_hindrance_1 : decode cX6_hindrance 1 = .ok (.invokevirtual 22, 3) := by decide +kernel
theorem dX6_hindrance_4 : decode cX6_hindrance 4 = .ok (.ifCond .eq 5, 3) := by decide +kernel
theorem dX6_hindrance_7 : decode cX6_hindrance 7 = .ok (.iconst 1, 1) := by decide +kernel
theorem dX6_hindrance_8 : decode cX6_hindrance 8 = .ok (.ireturn, 1) := by decide +kernel
theorem dX6_hindrance_9 : decode cX6_hindrance 9 = .ok (.aload_n 0, 1) := by decide +kernel
theorem dX6_hindrance_10 : decode cX6_hindrance 10 = .ok (.getfield 15, 3) := by decide +kernel
theorem dX6_hindrance_13 : decode cX6_hindrance 13 = .ok (.iload_n 1, 1) := by decide +kernel
theorem dX6_hindrance_14 : decode cX6_hindrance 14 = .ok (.if_icmp .eq 5, 3) := by decide +kernel
theorem dX6_hindrance_17 : decode cX6_hindrance 17 = .ok (.iconst 3, 1) := by decide +kernel
theorem dX6_hindrance_18 : decode cX6_hindrance 18 = .ok (.ireturn, 1) := by decide +kernel
theorem dX6_hindrance_19 : decode cX6_hindrance 19 = .ok (.iload_n 2, 1) := by decide +kernel
theorem dX6_hindrance_20 : decode cX6_hindrance 20 = .ok (.ifCond .lt 11, 3) := by decide +kernel
theorem dX6_hindrance_23 : decode cX6_hindrance 23 = .ok (.iload_n 2, 1) := by decide +kernel
theorem dX6_hindrance_24 : decode cX6_hindrance 24 = .ok (.aload_n 0, 1) := by decide +kernel
theorem dX6_hindrance_25 : decode cX6_hindrance 25 = .ok (.getfield 19, 3) := by decide +kernel
theorem dX6_hindrance_28 : decode cX6_hindrance 28 = .ok (.if_icmp .lt 7, 3) := by decide +kernel
theorem dX6_hindrance_31 : decode cX6_hindrance 31 = .ok (.iconst 2, 1) := by decide +kernel
theorem dX6_hindrance_32 : decode cX6_hindrance 32 = .ok (.goto 4, 3) := by decide +kernel
theorem dX6_hindrance_35 : decode cX6_hindrance 35 = .ok (.iconst 0, 1) := by decide +kernel
theorem dX6_hindrance_36 : decode cX6_hindrance 36 = .ok (.ireturn, 1) := by decide +kernel
def f_X6_hindrance (p1 : Int32) (p2 : Int32) (s0 : sh_S) : Option (Int32) := ob (f_X6_isLost  s0) (fun v1 => (if v1 = 0 then (if (s0 0 1) = p1 then ob (if p2 < 0 then some (2 : Int32) else (if p2 < (s0 0 2) then some (0 : Int32) else some (2 : Int32))) (fun v2 => some v2) else some (3 : Int32)) else some (1 : Int32)))
set_option maxRecDepth 100000 in
set_option maxHeartbeats 4000000 in
theorem c_X6_hindrance (p1 : Int32) (p2 : Int32) (s0 : sh_S) (r : Int32) (hf : f_X6_hindrance p1 p2 s0 = some r) : Ctr yX6_hindrance cX6_hindrance 3 (some .int) ({ frames := 1, cells := 0, slots := 0, locals := 20 } : Room) shSH [.ref 0, .int p1, .int p2] s0 (some (.int r)) s0 := by
  refine Ctr.mk (ri := .ireturn) (by decide) (Nat.le_of_ble_eq_true rfl) (Rt_i r) ?_
  intro G h hL hR hret
  refine k_drop (lv' := [(0, .ref 0), (1, .int p1), (2, .int p2)]) [0, 1, 2] rfl ?_
  unfold f_X6_hindrance at hf
  refine k_aload_n (pc := 0) h dX6_hindrance_0 rfl 0 rfl ?_
  obtain ⟨v1, cv1, hf⟩ := ob_s hf
  refine k_callV0 (pc := 1) h cv_RX6_22 (c_X6_isLost  s0 v1 cv1) rfl rfl rfl (st1 := [.int v1]) rfl ⟨rfl, rfl⟩ (rk hR (Nat.le_of_ble_eq_true rfl) (Nat.le_of_ble_eq_true rfl)) (Nat.le_of_ble_eq_true rfl) dX6_hindrance_1 ?_
  refine k_if_eq (pc := 4) (tgt := 9) h dX6_hindrance_4 rfl (fun hc => ?_) (fun hc => ?_)
  · have hf := it_p hc hf
    refine k_aload_n (pc := 9) h dX6_hindrance_9 rfl 0 rfl ?_
    refine k_getI (pc := 10) h fl_RX6_15 rfl rfl dX6_hindrance_10 ?_
    refine k_iload_n (pc := 13) h dX6_hindrance_13 rfl 1 rfl ?_
    refine k_icmp_eq (pc := 14) (tgt := 19) h dX6_hindrance_14 rfl (fun hc => ?_) (fun hc => ?_)
    · have hf := it_p hc hf
      refine k_iload_n (pc := 19) h dX6_hindrance_19 rfl 2 rfl ?_
      obtain ⟨v2, hj, hf⟩ := ob_s hf
      have kj20 : sh_K G shSH 36 [] [.int v2] s0 := by
        obtain rfl := so1 hf
        exact hret 36 _ dX6_hindrance_36 trivial
      clear hf
      have hf := hj
      clear hj
      refine k_if_lt (pc := 20) (tgt := 31) h dX6_hindrance_20 rfl (fun hc => ?_) (fun hc => ?_)
      · have hf := it_p hc hf
        refine k_iconst (pc := 31) h dX6_hindrance_31 kc_iconst_2 ?_
        refine k_goto (pc := 32) (tgt := 36) h dX6_hindrance_32 rfl ?_
        obtain rfl := so1 hf
        exact k_drop [] rfl kj20
      · have hf := it_n hc hf
        refine k_iload_n (pc := 23) h dX6_hindrance_23 rfl 2 rfl ?_
        refine k_aload_n (pc := 24) h dX6_hindrance_24 rfl 0 rfl ?_
        refine k_getI (pc := 25) h fl_RX6_19 rfl rfl dX6_hindrance_25 ?_
        refine k_icmp_lt (pc := 28) (tgt := 35) h dX6_hindrance_28 rfl (fun hc => ?_) (fun hc => ?_)
        · have hf := it_p hc hf
          refine k_iconst (pc := 35) h dX6_hindrance_35 kc_iconst_0 ?_
          obtain rfl := so1 hf
          exact k_drop [] rfl kj20
        · have hf := it_n hc hf
          refine k_iconst (pc := 31) h dX6_hindrance_31 kc_iconst_2 ?_
          refine k_goto (pc := 32) (tgt := 36) h dX6_hindrance_32 rfl ?_
          obtain rfl := so1 hf
          exact k_drop [] rfl kj20
    · have hf := it_n hc hf
      refine k_iconst (pc := 17) h dX6_hindrance_17 kc_iconst_3 ?_
      obtain rfl := so1 hf
      exact hret 18 _ dX6_hindrance_18 trivial
  · have hf := it_n hc hf
    refine k_iconst (pc := 7) h dX6_hindrance_7 kc_iconst_1 ?_
    obtain rfl := so1 hf
    exact hret 8 _ dX6_hindrance_8 trivial
theorem dX6_hasRow_0 : decode cX6_hasRow 0 = .ok (.iload_n 1, 1) := by decide +kernel
theorem dX6_hasRow_1 : decode cX6_hasRow 1 = .ok (.ifCond .lt 29, 3) := by decide +kernel
theorem dX6_hasRow_4 : decode cX6_hasRow 4 = .ok (.iload_n 2, 1) := by decide +kernel
theorem dX6_hasRow_5 : decode cX6_hasRow 5 = .ok (.ifCond .lt 25, 3) := by decide +kernel
theorem dX6_hasRow_8 : decode cX6_hasRow 8 = .ok (.iload_n 1, 1) := by decide +kernel
theorem dX6_hasRow_9 : decode cX6_hasRow 9 = .ok (.aload_n 0, 1) := by decide +kernel
theorem dX6_hasRow_10 : decode cX6_hasRow 10 = .ok (.getfield 19, 3) := by decide +kernel
theorem dX6_hasRow_13 : decode cX6_hasRow 13 = .ok (.if_icmp .gt 17, 3) := by decide +kernel
theorem dX6_hasRow_16 : decode cX6_hasRow 16 = .ok (.iload_n 2, 1) := by decide +kernel
theorem dX6_hasRow_17 : decode cX6_hasRow 17 = .ok (.aload_n 0, 1) := by decide +kernel
theorem dX6_hasRow_18 : decode cX6_hasRow 18 = .ok (.getfield 19, 3) := by decide +kernel
theorem dX6_hasRow_21 : decode cX6_hasRow 21 = .ok (.iload_n 1, 1) := by decide +kernel
theorem dX6_hasRow_22 : decode cX6_hasRow 22 = .ok (.isub, 1) := by decide +kernel
theorem dX6_hasRow_23 : decode cX6_hasRow 23 = .ok (.if_icmp .gt 7, 3) := by decide +kernel
theorem dX6_hasRow_26 : decode cX6_hasRow 26 = .ok (.iconst 1, 1) := by decide +kernel
theorem dX6_hasRow_27 : decode cX6_hasRow 27 = .ok (.goto 4, 3) := by decide +kernel
theorem dX6_hasRow_30 : decode cX6_hasRow 30 = .ok (.iconst 0, 1) := by decide +kernel
theorem dX6_hasRow_31 : decode cX6_hasRow 31 = .ok (.ireturn, 1) := by decide +kernel
def f_X6_hasRow (p1 : Int32) (p2 : Int32) (s0 : sh_S) : Option (Int32) := ob (if p1 < 0 then some (0 : Int32) else (if p2 < 0 then some (0 : Int32) else (if (s0 0 2) < p1 then some (0 : Int32) else (if ((s0 0 2) - p1) < p2 then some (0 : Int32) else some (1 : Int32))))) (fun v1 => gu (v1 = 0 ∨ v1 = 1) (some v1))
set_option maxRecDepth 100000 in
set_option maxHeartbeats 4000000 in
theorem c_X6_hasRow (p1 : Int32) (p2 : Int32) (s0 : sh_S) (r : Int32) (hf : f_X6_hasRow p1 p2 s0 = some r) : Ctr yX6_hasRow cX6_hasRow 3 (some .boolean) ({ frames := 0, cells := 0, slots := 0, locals := 0 } : Room) shSH [.ref 0, .int p1, .int p2] s0 (some (.int r)) s0 := by
  refine Ctr.mk (ri := .ireturn) (by decide) (Nat.le_of_ble_eq_true rfl) (Rt_z r) ?_
  intro G h hL hR hret
  refine k_drop (lv' := [(0, .ref 0), (1, .int p1), (2, .int p2)]) [0, 1, 2] rfl ?_
  unfold f_X6_hasRow at hf
  refine k_iload_n (pc := 0) h dX6_hasRow_0 rfl 1 rfl ?_
  obtain ⟨v1, hj, hf⟩ := ob_s hf
  have kj1 : sh_K G shSH 31 [] [.int v1] s0 := by
    obtain ⟨g2, hf⟩ := gu_s hf
    obtain rfl := so1 hf
    exact hret 31 _ dX6_hasRow_31 g2
  clear hf
  have hf := hj
  clear hj
  refine k_if_lt (pc := 1) (tgt := 30) h dX6_hasRow_1 rfl (fun hc => ?_) (fun hc => ?_)
  · have hf := it_p hc hf
    refine k_iconst (pc := 30) h dX6_hasRow_30 kc_iconst_0 ?_
    obtain rfl := so1 hf
    exact k_drop [] rfl kj1
  · have hf := it_n hc hf
    refine k_iload_n (pc := 4) h dX6_hasRow_4 rfl 2 rfl ?_
    refine k_if_lt (pc := 5) (tgt := 30) h dX6_hasRow_5 rfl (fun hc => ?_) (fun hc => ?_)
    · have hf := it_p hc hf
      refine k_iconst (pc := 30) h dX6_hasRow_30 kc_iconst_0 ?_
      obtain rfl := so1 hf
      exact k_drop [] rfl kj1
    · have hf := it_n hc hf
      refine k_iload_n (pc := 8) h dX6_hasRow_8 rfl 1 rfl ?_
      refine k_aload_n (pc := 9) h dX6_hasRow_9 rfl 0 rfl ?_
      refine k_getI (pc := 10) h fl_RX6_19 rfl rfl dX6_hasRow_10 ?_
      refine k_icmp_gt (pc := 13) (tgt := 30) h dX6_hasRow_13 rfl (fun hc => ?_) (fun hc => ?_)
      · have hf := it_p hc hf
        refine k_iconst (pc := 30) h dX6_hasRow_30 kc_iconst_0 ?_
        obtain rfl := so1 hf
        exact k_drop [] rfl kj1
      · have hf := it_n hc hf
        refine k_iload_n (pc := 16) h dX6_hasRow_16 rfl 2 rfl ?_
        refine k_aload_n (pc := 17) h dX6_hasRow_17 rfl 0 rfl ?_
        refine k_getI (pc := 18) h fl_RX6_19 rfl rfl dX6_hasRow_18 ?_
        refine k_iload_n (pc := 21) h dX6_hasRow_21 rfl 1 rfl ?_
        refine k_isub (pc := 22) h dX6_hasRow_22 ?_
        refine k_icmp_gt (pc := 23) (tgt := 30) h dX6_hasRow_23 rfl (fun hc => ?_) (fun hc => ?_)
        · have hf := it_p hc hf
          refine k_iconst (pc := 30) h dX6_hasRow_30 kc_iconst_0 ?_
          obtain rfl := so1 hf
          exact k_drop [] rfl kj1
        · have hf := it_n hc hf
          refine k_iconst (pc := 26) h dX6_hasRow_26 kc_iconst_1 ?_
          refine k_goto (pc := 27) (tgt := 31) h dX6_hasRow_27 rfl ?_
          obtain rfl := so1 hf
          exact k_drop [] rfl kj1
theorem dX6_enter_0 : decode cX6_enter 0 = .ok (.aload_n 0, 1) := by decide +kernel
theorem dX6_enter_1 : decode cX6_enter 1 = .ok (.getfield 15, 3) := by decide +kernel
theorem dX6_enter_4 : decode cX6_enter 4 = .ok (.ifCond .ne 14, 3) := by decide +kernel
theorem dX6_enter_7 : decode cX6_enter 7 = .ok (.aload_n 0, 1) := by decide +kernel
theorem dX6_enter_8 : decode cX6_enter 8 = .ok (.getfield 9, 3) := by decide +kernel
theorem dX6_enter_11 : decode cX6_enter 11 = .ok (.iload_n 1, 1) := by decide +kernel
theorem dX6_enter_12 : decode cX6_enter 12 = .ok (.iload_n 2, 1) := by decide +kernel
theorem dX6_enter_13 : decode cX6_enter 13 = .ok (.i2b, 1) := by decide +kernel
theorem dX6_enter_14 : decode cX6_enter 14 = .ok (.iastore, 1) := by decide +kernel
theorem dX6_enter_15 : decode cX6_enter 15 = .ok (.goto 23, 3) := by decide +kernel
theorem dX6_enter_18 : decode cX6_enter 18 = .ok (.aload_n 0, 1) := by decide +kernel
theorem dX6_enter_19 : decode cX6_enter 19 = .ok (.getfield 9, 3) := by decide +kernel
theorem dX6_enter_22 : decode cX6_enter 22 = .ok (.iload_n 1, 1) := by decide +kernel
theorem dX6_enter_23 : decode cX6_enter 23 = .ok (.aload_n 0, 1) := by decide +kernel
theorem dX6_enter_24 : decode cX6_enter 24 = .ok (.getfield 15, 3) := by decide +kernel
theorem dX6_enter_27 : decode cX6_enter 27 = .ok (.iconst 1, 1) := by decide +kernel
theorem dX6_enter_28 : decode cX6_enter 28 = .ok (.if_icmp .ne 8, 3) := by decide +kernel
theorem dX6_enter_31 : decode cX6_enter 31 = .ok (.iload_n 2, 1) := by decide +kernel
theorem dX6_enter_32 : decode cX6_enter 32 = .ok (.i2s, 1) := by decide +kernel
theorem dX6_enter_33 : decode cX6_enter 33 = .ok (.goto 4, 3) := by decide +kernel
theorem dX6_enter_36 : decode cX6_enter 36 = .ok (.iload_n 2, 1) := by decide +kernel
theorem dX6_enter_37 : decode cX6_enter 37 = .ok (.iastore, 1) := by decide +kernel
theorem dX6_enter_38 : decode cX6_enter 38 = .ok (.return_, 1) := by decide +kernel
def f_X6_enter (p1 : Int32) (p2 : Int32) (s0 : sh_S) : Option (sh_S) := ob (if (s0 0 1) = 0 then gu (inb p1 60) (lb (ur s0 1 (upd (s0 1) (ix p1) (p2.toInt8.toInt32))) (fun s6 => some s6)) else ob (if (s0 0 1) = (1 : Int32) then some (p2.toInt16.toInt32) else some p2) (fun v2 => gu (inb p1 60) (lb (ur s0 1 (upd (s0 1) (ix p1) v2)) (fun s4 => some s4)))) (fun s1 => some s1)
set_option maxRecDepth 100000 in
set_option maxHeartbeats 4000000 in
theorem c_X6_enter (p1 : Int32) (p2 : Int32) (s0 : sh_S) (s9x : sh_S) (hf : f_X6_enter p1 p2 s0 = some s9x) : Ctr yX6_enter cX6_enter 3 none ({ frames := 0, cells := 0, slots := 0, locals := 0 } : Room) shSH [.ref 0, .int p1, .int p2] s0 none s9x := by
  refine Ctr.mk (ri := .return_) (by decide) (Nat.le_of_ble_eq_true rfl) (Rt_v) ?_
  intro G h hL hR hret
  refine k_drop (lv' := [(0, .ref 0), (1, .int p1), (2, .int p2)]) [0, 1, 2] rfl ?_
  unfold f_X6_enter at hf
  refine k_aload_n (pc := 0) h dX6_enter_0 rfl 0 rfl ?_
  refine k_getI (pc := 1) h fl_RX6_15 rfl rfl dX6_enter_1 ?_
  obtain ⟨s1, hj, hf⟩ := ob_s hf
  have kj4 : sh_K G shSH 38 [] [] s1 := by
    obtain rfl := so1 hf
    exact hret 38 _ dX6_enter_38 trivial
  clear hf
  have hf := hj
  clear hj
  refine k_if_ne (pc := 4) (tgt := 18) h dX6_enter_4 rfl (fun hc => ?_) (fun hc => ?_)
  · have hf := it_n hc hf
    refine k_aload_n (pc := 18) h dX6_enter_18 rfl 0 rfl ?_
    refine k_getR (pc := 19) h fl_RX6_9 rfl rfl dX6_enter_19 ?_
    refine k_iload_n (pc := 22) h dX6_enter_22 rfl 1 rfl ?_
    refine k_aload_n (pc := 23) h dX6_enter_23 rfl 0 rfl ?_
    refine k_getI (pc := 24) h fl_RX6_15 rfl rfl dX6_enter_24 ?_
    refine k_iconst (pc := 27) h dX6_enter_27 kc_iconst_1 ?_
    obtain ⟨v2, hj, hf⟩ := ob_s hf
    have kj28 : sh_K G shSH 37 [] [.int v2, .int p1, .ref 1] s0 := by
      obtain ⟨g3, hf⟩ := gu_s hf
      obtain ⟨s4, es4, hf⟩ := lb_s hf
      refine k_iast (pc := 37) (n := 60) h rfl g3 dX6_enter_37 ?_
      refine k_heap es4 ?_
      obtain rfl := so1 hf
      exact k_drop [] rfl kj4
    clear hf
    have hf := hj
    clear hj
    refine k_icmp_ne (pc := 28) (tgt := 36) h dX6_enter_28 rfl (fun hc => ?_) (fun hc => ?_)
    · have hf := it_n hc hf
      refine k_iload_n (pc := 36) h dX6_enter_36 rfl 2 rfl ?_
      obtain rfl := so1 hf
      exact k_drop [] rfl kj28
    · have hf := it_p hc hf
      refine k_iload_n (pc := 31) h dX6_enter_31 rfl 2 rfl ?_
      refine k_i2s (pc := 32) h dX6_enter_32 ?_
      refine k_goto (pc := 33) (tgt := 37) h dX6_enter_33 rfl ?_
      obtain rfl := so1 hf
      exact k_drop [] rfl kj28
  · have hf := it_p hc hf
    refine k_aload_n (pc := 7) h dX6_enter_7 rfl 0 rfl ?_
    refine k_getR (pc := 8) h fl_RX6_9 rfl rfl dX6_enter_8 ?_
    refine k_iload_n (pc := 11) h dX6_enter_11 rfl 1 rfl ?_
    refine k_iload_n (pc := 12) h dX6_enter_12 rfl 2 rfl ?_
    refine k_i2b (pc := 13) h dX6_enter_13 ?_
    obtain ⟨g5, hf⟩ := gu_s hf
    obtain ⟨s6, es6, hf⟩ := lb_s hf
    refine k_iast (pc := 14) (n := 60) h rfl g5 dX6_enter_14 ?_
    refine k_heap es6 ?_
    refine k_goto (pc := 15) (tgt := 38) h dX6_enter_15 rfl ?_
    obtain rfl := so1 hf
    exact k_drop [] rfl kj4
