theorem dX9_hasBit_0 : decode cX9_hasBit 0 = .ok (.iload_n 0, 1) := by decide +kernel
theorem dX9_hasBit_1 : decode cX9_hasBit 1 = .ok (.iload_n 1, 1) := by decide +kernel
theorem dX9_hasBit_2 : decode cX9_hasBit 2 = .ok (.ishr, 1) := by decide +kernel
theorem dX9_hasBit_3 : decode cX9_hasBit 3 = .ok (.iconst 1, 1) := by decide +kernel
theorem dX9_hasBit_4 : decode cX9_hasBit 4 = .ok (.iand, 1) := by decide +kernel
theorem dX9_hasBit_5 : decode cX9_hasBit 5 = .ok (.iconst 1, 1) := by decide +kernel
theorem dX9_hasBit_6 : decode cX9_hasBit 6 = .ok (.if_icmp .ne 7, 3) := by decide +kernel
theorem dX9_hasBit_9 : decode cX9_hasBit 9 = .ok (.iconst 1, 1) := by decide +kernel
theorem dX9_hasBit_10 : decode cX9_hasBit 10 = .ok (.goto 4, 3) := by decide +kernel
theorem dX9_hasBit_13 : decode cX9_hasBit 13 = .ok (.iconst 0, 1) := by decide +kernel
theorem dX9_hasBit_14 : decode cX9_hasBit 14 = .ok (.ireturn, 1) := by decide +kernel
def f_X9_hasBit (p0 : Int32) (p1 : Int32) : Option (Int32) := ob (if ((p0 >>> (p1 &&& 31)) &&& (1 : Int32)) = (1 : Int32) then some (1 : Int32) else some (0 : Int32)) (fun v1 => gu (v1 = 0 ∨ v1 = 1) (some v1))
set_option maxRecDepth 100000 in
set_option maxHeartbeats 4000000 in
theorem c_X9_hasBit (p0 : Int32) (p1 : Int32) (s0 : sh_S) (r : Int32) (hf : f_X9_hasBit p0 p1 = some r) : Ctr yX9_hasBit cX9_hasBit 2 (some .boolean) ({ frames := 0, cells := 0, slots := 0, locals := 0 } : Room) shNO [.int p0, .int p1] s0 (some (.int r)) s0 := by
  refine Ctr.mk (ri := .ireturn) (by decide) (Nat.le_of_ble_eq_true rfl) (Rt_z r) ?_
  intro G h hL hR hret
  refine k_drop (lv' := [(0, .int p0), (1, .int p1)]) [0, 1] rfl ?_
  unfold f_X9_hasBit at hf
  refine k_iload_n (pc := 0) h dX9_hasBit_0 rfl 0 rfl ?_
  refine k_iload_n (pc := 1) h dX9_hasBit_1 rfl 1 rfl ?_
  refine k_ishr (pc := 2) h dX9_hasBit_2 ?_
  refine k_iconst (pc := 3) h dX9_hasBit_3 kc_iconst_1 ?_
  refine k_iand (pc := 4) h dX9_hasBit_4 ?_
  refine k_iconst (pc := 5) h dX9_hasBit_5 kc_iconst_1 ?_
  obtain ⟨v1, hj, hf⟩ := ob_s hf
  have kj6 : sh_K G shNO 14 [] [.int v1] s0 := by
    obtain ⟨g2, hf⟩ := gu_s hf
    obtain rfl := so1 hf
    exact hret 14 _ dX9_hasBit_14 g2
  clear hf
  have hf := hj
  clear hj
  refine k_icmp_ne (pc := 6) (tgt := 13) h dX9_hasBit_6 rfl (fun hc => ?_) (fun hc => ?_)
  · have hf := it_n hc hf
    refine k_iconst (pc := 13) h dX9_hasBit_13 kc_iconst_0 ?_
    obtain rfl := so1 hf
    exact k_drop [] rfl kj6
  · have hf := it_p hc hf
    refine k_iconst (pc := 9) h dX9_hasBit_9 kc_iconst_1 ?_
    refine k_goto (pc := 10) (tgt := 14) h dX9_hasBit_10 rfl ?_
    obtain rfl := so1 hf
    exact k_drop [] rfl kj6
theorem dX9_bitOf_0 : decode cX9_bitOf 0 = .ok (.iload_n 0, 1) := by decide +kernel
theorem dX9_bitOf_1 : decode cX9_bitOf 1 = .ok (.iconst (-1), 1) := by decide +kernel
theorem dX9_bitOf_2 : decode cX9_bitOf 2 = .ok (.if_icmp .ne 7, 3) := by decide +kernel
theorem dX9_bitOf_5 : decode cX9_bitOf 5 = .ok (.iconst 0, 1) := by decide +kernel
theorem dX9_bitOf_6 : decode cX9_bitOf 6 = .ok (.goto 6, 3) := by decide +kernel
theorem dX9_bitOf_9 : decode cX9_bitOf 9 = .ok (.iconst 1, 1) := by decide +kernel
theorem dX9_bitOf_10 : decode cX9_bitOf 10 = .ok (.iload_n 0, 1) := by decide +kernel
theorem dX9_bitOf_11 : decode cX9_bitOf 11 = .ok (.ishl, 1) := by decide +kernel
theorem dX9_bitOf_12 : decode cX9_bitOf 12 = .ok (.ireturn, 1) := by decide +kernel
def f_X9_bitOf (p0 : Int32) : Option (Int32) := ob (if p0 = (-1 : Int32) then some (0 : Int32) else some ((1 : Int32) <<< (p0 &&& 31))) (fun v1 => some v1)
set_option maxRecDepth 100000 in
set_option maxHeartbeats 4000000 in
theorem c_X9_bitOf (p0 : Int32) (s0 : sh_S) (r : Int32) (hf : f_X9_bitOf p0 = some r) : Ctr yX9_bitOf cX9_bitOf 1 (some .int) ({ frames := 0, cells := 0, slots := 0, locals := 0 } : Room) shNO [.int p0] s0 (some (.int r)) s0 := by
  refine Ctr.mk (ri := .ireturn) (by decide) (Nat.le_of_ble_eq_true rfl) (Rt_i r) ?_
  intro G h hL hR hret
  refine k_drop (lv' := [(0, .int p0)]) [0] rfl ?_
  unfold f_X9_bitOf at hf
  refine k_iload_n (pc := 0) h dX9_bitOf_0 rfl 0 rfl ?_
  refine k_iconst (pc := 1) h dX9_bitOf_1 kc_iconst_m1 ?_
  obtain ⟨v1, hj, hf⟩ := ob_s hf
  have kj2 : sh_K G shNO 12 [] [.int v1] s0 := by
    obtain rfl := so1 hf
    exact hret 12 _ dX9_bitOf_12 trivial
  clear hf
  have hf := hj
  clear hj
  refine k_icmp_ne (pc := 2) (tgt := 9) h dX9_bitOf_2 rfl (fun hc => ?_) (fun hc => ?_)
  · have hf := it_n hc hf
    refine k_iconst (pc := 9) h dX9_bitOf_9 kc_iconst_1 ?_
    refine k_iload_n (pc := 10) h dX9_bitOf_10 rfl 0 rfl ?_
    refine k_ishl (pc := 11) h dX9_bitOf_11 ?_
    obtain rfl := so1 hf
    exact k_drop [] rfl kj2
  · have hf := it_p hc hf
    refine k_iconst (pc := 5) h dX9_bitOf_5 kc_iconst_0 ?_
    refine k_goto (pc := 6) (tgt := 12) h dX9_bitOf_6 rfl ?_
    obtain rfl := so1 hf
    exact k_drop [] rfl kj2
theorem dJ6_bitCount_0f7a4_0 : decode cJ6_bitCount_0f7a4 0 = .ok (.iload_n 0, 1) := by decide +kernel
theorem dJ6_bitCount_0f7a4_1 : decode cJ6_bitCount_0f7a4 1 = .ok (.iload_n 0, 1) := by decide +kernel
theorem dJ6_bitCount_0f7a4_2 : decode cJ6_bitCount_0f7a4 2 = .ok (.iconst 1, 1) := by decide +kernel
theorem dJ6_bitCount_0f7a4_3 : decode cJ6_bitCount_0f7a4 3 = .ok (.iushr, 1) := by decide +kernel
theorem dJ6_bitCount_0f7a4_4 : decode cJ6_bitCount_0f7a4 4 = .ok (.ldc_w 265, 3) := by decide +kernel
theorem dJ6_bitCount_0f7a4_7 : decode cJ6_bitCount_0f7a4 7 = .ok (.iand, 1) := by decide +kernel
theorem dJ6_bitCount_0f7a4_8 : decode cJ6_bitCount_0f7a4 8 = .ok (.isub, 1) := by decide +kernel
theorem dJ6_bitCount_0f7a4_9 : decode cJ6_bitCount_0f7a4 9 = .ok (.istore_n 0, 1) := by decide +kernel
theorem dJ6_bitCount_0f7a4_10 : decode cJ6_bitCount_0f7a4 10 = .ok (.iload_n 0, 1) := by decide +kernel
theorem dJ6_bitCount_0f7a4_11 : decode cJ6_bitCount_0f7a4 11 = .ok (.ldc_w 266, 3) := by decide +kernel
theorem dJ6_bitCount_0f7a4_14 : decode cJ6_bitCount_0f7a4 14 = .ok (.iand, 1) := by decide +kernel
theorem dJ6_bitCount_0f7a4_15 : decode cJ6_bitCount_0f7a4 15 = .ok (.iload_n 0, 1) := by decide +kernel
theorem dJ6_bitCount_0f7a4_16 : decode cJ6_bitCount_0f7a4 16 = .ok (.iconst 2, 1) := by decide +kernel
theorem dJ6_bitCount_0f7a4_17 : decode cJ6_bitCount_0f7a4 17 = .ok (.iushr, 1) := by decide +kernel
theorem dJ6_bitCount_0f7a4_18 : decode cJ6_bitCount_0f7a4 18 = .ok (.ldc_w 266, 3) := by decide +kernel
theorem dJ6_bitCount_0f7a4_21 : decode cJ6_bitCount_0f7a4 21 = .ok (.iand, 1) := by decide +kernel
theorem dJ6_bitCount_0f7a4_22 : decode cJ6_bitCount_0f7a4 22 = .ok (.iadd, 1) := by decide +kernel
theorem dJ6_bitCount_0f7a4_23 : decode cJ6_bitCount_0f7a4 23 = .ok (.istore_n 0, 1) := by decide +kernel
theorem dJ6_bitCount_0f7a4_24 : decode cJ6_bitCount_0f7a4 24 = .ok (.iload_n 0, 1) := by decide +kernel
theorem dJ6_bitCount_0f7a4_25 : decode cJ6_bitCount_0f7a4 25 = .ok (.iload_n 0, 1) := by decide +kernel
theorem dJ6_bitCount_0f7a4_26 : decode cJ6_bitCount_0f7a4 26 = .ok (.iconst 4, 1) := by decide +kernel
theorem dJ6_bitCount_0f7a4_27 : decode cJ6_bitCount_0f7a4 27 = .ok (.iushr, 1) := by decide +kernel
theorem dJ6_bitCount_0f7a4_28 : decode cJ6_bitCount_0f7a4 28 = .ok (.iadd, 1) := by decide +kernel
theorem dJ6_bitCount_0f7a4_29 : decode cJ6_bitCount_0f7a4 29 = .ok (.ldc_w 267, 3) := by decide +kernel
theorem dJ6_bitCount_0f7a4_32 : decode cJ6_bitCount_0f7a4 32 = .ok (.iand, 1) := by decide +kernel
theorem dJ6_bitCount_0f7a4_33 : decode cJ6_bitCount_0f7a4 33 = .ok (.istore_n 0, 1) := by decide +kernel
theorem dJ6_bitCount_0f7a4_34 : decode cJ6_bitCount_0f7a4 34 = .ok (.iload_n 0, 1) := by decide +kernel
theorem dJ6_bitCount_0f7a4_35 : decode cJ6_bitCount_0f7a4 35 = .ok (.iload_n 0, 1) := by decide +kernel
theorem dJ6_bitCount_0f7a4_36 : decode cJ6_bitCount_0f7a4 36 = .ok (.bipush 8, 2) := by decide +kernel
theorem dJ6_bitCount_0f7a4_38 : decode cJ6_bitCount_0f7a4 38 = .ok (.iushr, 1) := by decide +kernel
theorem dJ6_bitCount_0f7a4_39 : decode cJ6_bitCount_0f7a4 39 = .ok (.iadd, 1) := by decide +kernel
theorem dJ6_bitCount_0f7a4_40 : decode cJ6_bitCount_0f7a4 40 = .ok (.istore_n 0, 1) := by decide +kernel
theorem dJ6_bitCount_0f7a4_41 : decode cJ6_bitCount_0f7a4 41 = .ok (.iload_n 0, 1) := by decide +kernel
theorem dJ6_bitCount_0f7a4_42 : decode cJ6_bitCount_0f7a4 42 = .ok (.iload_n 0, 1) := by decide +kernel
theorem dJ6_bitCount_0f7a4_43 : decode cJ6_bitCount_0f7a4 43 = .ok (.bipush 16, 2) := by decide +kernel
theorem dJ6_bitCount_0f7a4_45 : decode cJ6_bitCount_0f7a4 45 = .ok (.iushr, 1) := by decide +kernel
theorem dJ6_bitCount_0f7a4_46 : decode cJ6_bitCount_0f7a4 46 = .ok (.iadd, 1) := by decide +kernel
theorem dJ6_bitCount_0f7a4_47 : decode cJ6_bitCount_0f7a4 47 = .ok (.istore_n 0, 1) := by decide +kernel
theorem dJ6_bitCount_0f7a4_48 : decode cJ6_bitCount_0f7a4 48 = .ok (.iload_n 0, 1) := by decide +kernel
theorem dJ6_bitCount_0f7a4_49 : decode cJ6_bitCount_0f7a4 49 = .ok (.bipush 63, 2) := by decide +kernel
theorem dJ6_bitCount_0f7a4_51 : decode cJ6_bitCount_0f7a4 51 = .ok (.iand, 1) := by decide +kernel
theorem dJ6_bitCount_0f7a4_52 : decode cJ6_bitCount_0f7a4 52 = .ok (.ireturn, 1) := by decide +kernel
def f_J6_bitCount_0f7a4 (p0 : Int32) : Option (Int32) := lb ((p0 - (((p0.toUInt32 >>> ((1 : Int32).toUInt32 &&& Int32.toUInt32 31)).toInt32) &&& (1431655765 : Int32)))) (fun v1 => lb (((v1 &&& (858993459 : Int32)) + (((v1.toUInt32 >>> ((2 : Int32).toUInt32 &&& Int32.toUInt32 31)).toInt32) &&& (858993459 : Int32)))) (fun v2 => lb (((v2 + ((v2.toUInt32 >>> ((4 : Int32).toUInt32 &&& Int32.toUInt32 31)).toInt32)) &&& (252645135 : Int32))) (fun v3 => lb ((v3 + ((v3.toUInt32 >>> ((8 : Int32).toUInt32 &&& Int32.toUInt32 31)).toInt32))) (fun v4 => lb ((v4 + ((v4.toUInt32 >>> ((16 : Int32).toUInt32 &&& Int32.toUInt32 31)).toInt32))) (fun v5 => some (v5 &&& (63 : Int32)))))))
set_option maxRecDepth 100000 in
set_option maxHeartbeats 4000000 in
theorem c_J6_bitCount_0f7a4 (p0 : Int32) (s0 : sh_S) (r : Int32) (hf : f_J6_bitCount_0f7a4 p0 = some r) : Ctr yJ6_bitCount_0f7a4 cJ6_bitCount_0f7a4 1 (some .int) ({ frames := 0, cells := 0, slots := 0, locals := 0 } : Room) shNO [.int p0] s0 (some (.int r)) s0 := by
  refine Ctr.mk (ri := .ireturn) (by decide) (Nat.le_of_ble_eq_true rfl) (Rt_i r) ?_
  intro G h hL hR hret
  refine k_drop (lv' := [(0, .int p0)]) [0] rfl ?_
  unfold f_J6_bitCount_0f7a4 at hf
  refine k_iload_n (pc := 0) h dJ6_bitCount_0f7a4_0 rfl 0 rfl ?_
  refine k_iload_n (pc := 1) h dJ6_bitCount_0f7a4_1 rfl 0 rfl ?_
  refine k_iconst (pc := 2) h dJ6_bitCount_0f7a4_2 kc_iconst_1 ?_
  refine k_iushr (pc := 3) h dJ6_bitCount_0f7a4_3 ?_
  refine k_ldcw (pc := 4) h dJ6_bitCount_0f7a4_4 wd_689 ?_
  refine k_iand (pc := 7) h dJ6_bitCount_0f7a4_7 ?_
  refine k_isub (pc := 8) h dJ6_bitCount_0f7a4_8 ?_
  obtain ⟨v1, ev1, hf⟩ := lb_s hf
  refine k_top ev1 ?_
  refine k_istore_n (pc := 9) h dJ6_bitCount_0f7a4_9 rfl (nk hL (by decide)) (lv' := [(0, .int v1)]) rfl ?_
  refine k_iload_n (pc := 10) h dJ6_bitCount_0f7a4_10 rfl 0 rfl ?_
  refine k_ldcw (pc := 11) h dJ6_bitCount_0f7a4_11 wd_690 ?_
  refine k_iand (pc := 14) h dJ6_bitCount_0f7a4_14 ?_
  refine k_iload_n (pc := 15) h dJ6_bitCount_0f7a4_15 rfl 0 rfl ?_
  refine k_iconst (pc := 16) h dJ6_bitCount_0f7a4_16 kc_iconst_2 ?_
  refine k_iushr (pc := 17) h dJ6_bitCount_0f7a4_17 ?_
  refine k_ldcw (pc := 18) h dJ6_bitCount_0f7a4_18 wd_690 ?_
  refine k_iand (pc := 21) h dJ6_bitCount_0f7a4_21 ?_
  refine k_iadd (pc := 22) h dJ6_bitCount_0f7a4_22 ?_
  obtain ⟨v2, ev2, hf⟩ := lb_s hf
  refine k_top ev2 ?_
  refine k_istore_n (pc := 23) h dJ6_bitCount_0f7a4_23 rfl (nk hL (by decide)) (lv' := [(0, .int v2)]) rfl ?_
  refine k_iload_n (pc := 24) h dJ6_bitCount_0f7a4_24 rfl 0 rfl ?_
  refine k_iload_n (pc := 25) h dJ6_bitCount_0f7a4_25 rfl 0 rfl ?_
  refine k_iconst (pc := 26) h dJ6_bitCount_0f7a4_26 kc_iconst_4 ?_
  refine k_iushr (pc := 27) h dJ6_bitCount_0f7a4_27 ?_
  refine k_iadd (pc := 28) h dJ6_bitCount_0f7a4_28 ?_
  refine k_ldcw (pc := 29) h dJ6_bitCount_0f7a4_29 wd_691 ?_
  refine k_iand (pc := 32) h dJ6_bitCount_0f7a4_32 ?_
  obtain ⟨v3, ev3, hf⟩ := lb_s hf
  refine k_top ev3 ?_
  refine k_istore_n (pc := 33) h dJ6_bitCount_0f7a4_33 rfl (nk hL (by decide)) (lv' := [(0, .int v3)]) rfl ?_
  refine k_iload_n (pc := 34) h dJ6_bitCount_0f7a4_34 rfl 0 rfl ?_
  refine k_iload_n (pc := 35) h dJ6_bitCount_0f7a4_35 rfl 0 rfl ?_
  refine k_bipush (pc := 36) h dJ6_bitCount_0f7a4_36 kc_bipush_8 ?_
  refine k_iushr (pc := 38) h dJ6_bitCount_0f7a4_38 ?_
  refine k_iadd (pc := 39) h dJ6_bitCount_0f7a4_39 ?_
  obtain ⟨v4, ev4, hf⟩ := lb_s hf
  refine k_top ev4 ?_
  refine k_istore_n (pc := 40) h dJ6_bitCount_0f7a4_40 rfl (nk hL (by decide)) (lv' := [(0, .int v4)]) rfl ?_
  refine k_iload_n (pc := 41) h dJ6_bitCount_0f7a4_41 rfl 0 rfl ?_
  refine k_iload_n (pc := 42) h dJ6_bitCount_0f7a4_42 rfl 0 rfl ?_
  refine k_bipush (pc := 43) h dJ6_bitCount_0f7a4_43 kc_bipush_16 ?_
  refine k_iushr (pc := 45) h dJ6_bitCount_0f7a4_45 ?_
  refine k_iadd (pc := 46) h dJ6_bitCount_0f7a4_46 ?_
  obtain ⟨v5, ev5, hf⟩ := lb_s hf
  refine k_top ev5 ?_
  refine k_istore_n (pc := 47) h dJ6_bitCount_0f7a4_47 rfl (nk hL (by decide)) (lv' := [(0, .int v5)]) rfl ?_
  refine k_iload_n (pc := 48) h dJ6_bitCount_0f7a4_48 rfl 0 rfl ?_
  refine k_bipush (pc := 49) h dJ6_bitCount_0f7a4_49 kc_bipush_63 ?_
  refine k_iand (pc := 51) h dJ6_bitCount_0f7a4_51 ?_
  obtain rfl := so1 hf
  exact hret 52 _ dJ6_bitCount_0f7a4_52 trivial
theorem dX1_numberOfBit_0 : decode cX1_numberOfBit 0 = .ok (.iload_n 1, 1) := by decide +kernel
theorem dX1_numberOfBit_1 : decode cX1_numberOfBit 1 = .ok (.istore_n 2, 1) := by decide +kernel
theorem dX1_numberOfBit_2 : decode cX1_numberOfBit 2 = .ok (.iconst 0, 1) := by decide +kernel
theorem dX1_numberOfBit_3 : decode cX1_numberOfBit 3 = .ok (.istore_n 3, 1) := by decide +kernel
theorem dX1_numberOfBit_4 : decode cX1_numberOfBit 4 = .ok (.iload_n 3, 1) := by decide +kernel
theorem dX1_numberOfBit_5 : decode cX1_numberOfBit 5 = .ok (.bipush 24, 2) := by decide +kernel
theorem dX1_numberOfBit_7 : decode cX1_numberOfBit 7 = .ok (.if_icmp .ge 26, 3) := by decide +kernel
theorem dX1_numberOfBit_10 : decode cX1_numberOfBit 10 = .ok (.iload_n 0, 1) := by decide +kernel
theorem dX1_numberOfBit_11 : decode cX1_numberOfBit 11 = .ok (.iload_n 3, 1) := by decide +kernel
theorem dX1_numberOfBit_12 : decode cX1_numberOfBit 12 = .ok (.invokestatic 91, 3) := by decide +kernel
theorem dX1_numberOfBit_15 : decode cX1_numberOfBit 15 = .ok (.ifCond .eq 12, 3) := by decide +kernel
theorem dX1_numberOfBit_18 : decode cX1_numberOfBit 18 = .ok (.iload_n 2, 1) := by decide +kernel
theorem dX1_numberOfBit_19 : decode cX1_numberOfBit 19 = .ok (.ifCond .ne 5, 3) := by decide +kernel
theorem dX1_numberOfBit_22 : decode cX1_numberOfBit 22 = .ok (.iload_n 3, 1) := by decide +kernel
theorem dX1_numberOfBit_23 : decode cX1_numberOfBit 23 = .ok (.ireturn, 1) := by decide +kernel
theorem dX1_numberOfBit_24 : decode cX1_numberOfBit 24 = .ok (.iinc 2 (-1), 3) := by decide +kernel
theorem dX1_numberOfBit_27 : decode cX1_numberOfBit 27 = .ok (.iinc 3 1, 3) := by decide +kernel
theorem dX1_numberOfBit_30 : decode cX1_numberOfBit 30 = .ok (.goto (-26), 3) := by decide +kernel
theorem dX1_numberOfBit_33 : decode cX1_numberOfBit 33 = .ok (.iconst (-1), 1) := by decide +kernel
theorem dX1_numberOfBit_34 : decode cX1_numberOfBit 34 = .ok (.ireturn, 1) := by decide +kernel
def f_X1_numberOfBit_L4 (p0 : Int32) (v1 : Int32) (v2 : Int32) : Option ((Int32 × Int32) ⊕ ((Unit) ⊕ (Int32))) := (if (24 : Int32) ≤ v2 then some (.inr (.inl ())) else ob (f_X9_hasBit p0 v2) (fun v3 => (if v3 = 0 then lb (v2 + (1 : Int32)) (fun v4 => some (.inl (v1, v4))) else (if v1 = 0 then some (.inr (.inr v2)) else lb (v1 + (-1 : Int32)) (fun v5 => lb (v2 + (1 : Int32)) (fun v6 => some (.inl (v5, v6))))))))
def f_X1_numberOfBit (p0 : Int32) (p1 : Int32) : Option (Int32) := ob (lp (fun q => f_X1_numberOfBit_L4 p0 q.1 q.2) FU (p1, (0 : Int32))) (fun ee => sm ee (fun _ => some (-1 : Int32)) (fun q => some q))
set_option maxRecDepth 100000 in
set_option maxHeartbeats 4000000 in
theorem c_X1_numberOfBit (p0 : Int32) (p1 : Int32) (s0 : sh_S) (r : Int32) (hf : f_X1_numberOfBit p0 p1 = some r) : Ctr yX1_numberOfBit cX1_numberOfBit 4 (some .int) ({ frames := 1, cells := 0, slots := 0, locals := 21 } : Room) shNO [.int p0, .int p1] s0 (some (.int r)) s0 := by
  refine Ctr.mk (ri := .ireturn) (by decide) (Nat.le_of_ble_eq_true rfl) (Rt_i r) ?_
  intro G h hL hR hret
  refine k_drop (lv' := [(0, .int p0), (1, .int p1)]) [0, 1] rfl ?_
  unfold f_X1_numberOfBit at hf
  refine k_iload_n (pc := 0) h dX1_numberOfBit_0 rfl 1 rfl ?_
  refine k_istore_n (pc := 1) h dX1_numberOfBit_1 rfl (nk hL (by decide)) (lv' := [(0, .int p0), (1, .int p1), (2, .int p1)]) rfl ?_
  refine k_iconst (pc := 2) h dX1_numberOfBit_2 kc_iconst_0 ?_
  refine k_istore_n (pc := 3) h dX1_numberOfBit_3 rfl (nk hL (by decide)) (lv' := [(0, .int p0), (1, .int p1), (2, .int p1), (3, .int (0 : Int32))]) rfl ?_
  obtain ⟨ee, hl, hf⟩ := ob_s hf
  refine k_drop (lv' := [(0, .int p0), (2, .int p1), (3, .int (0 : Int32))]) [0, 2, 3] rfl ?_
  refine lp_s (P := (fun q : Int32 × Int32 => sh_K G shNO 4 [(0, .int p0), (2, .int q.1), (3, .int q.2)] [] s0)) (Q := (Sum.elim (fun q : Unit => sh_K G shNO 33 [] [] s0) (fun q : Int32 => q = r))) (s := (p1, (0 : Int32))) ?_ hl ?_
  · clear hf hl
    intro q rr hf kc4
    obtain ⟨v1, v2⟩ := q
    have hf : f_X1_numberOfBit_L4 p0 v1 v2 = some rr := hf
    unfold f_X1_numberOfBit_L4 at hf
    refine k_iload_n (pc := 4) h dX1_numberOfBit_4 rfl 2 rfl ?_
    refine k_bipush (pc := 5) h dX1_numberOfBit_5 kc_bipush_24 ?_
    refine k_icmp_ge (pc := 7) (tgt := 33) h dX1_numberOfBit_7 rfl (fun hc => ?_) (fun hc => ?_)
    · have hf := it_p hc hf
      obtain rfl := so1 hf
      exact k_drop [] rfl kc4
    · have hf := it_n hc hf
      refine k_iload_n (pc := 10) h dX1_numberOfBit_10 rfl 0 rfl ?_
      refine k_iload_n (pc := 11) h dX1_numberOfBit_11 rfl 2 rfl ?_
      obtain ⟨v3, cv3, hf⟩ := ob_s hf
      refine k_callNp (pc := 12) h cn_RX1_91 (c_X9_hasBit p0 v2 _ v3 cv3) rfl rfl (st1 := [.int v3]) rfl ⟨rfl, rfl⟩ (rk hR (Nat.le_of_ble_eq_true rfl) (Nat.le_of_ble_eq_true rfl)) (Nat.le_of_ble_eq_true rfl) dX1_numberOfBit_12 ?_
      refine k_if_eq (pc := 15) (tgt := 27) h dX1_numberOfBit_15 rfl (fun hc => ?_) (fun hc => ?_)
      · have hf := it_p hc hf
        obtain ⟨v4, ev4, hf⟩ := lb_s hf
        refine k_iinc (pc := 27) h dX1_numberOfBit_27 2 rfl ((congrArg (_ + ·) kc_iconst_1).trans ev4.symm) (nk hL (by decide)) (lv' := [(0, .int p0), (2, .int v1), (3, .int v4)]) rfl ?_
        refine k_goto (pc := 30) (tgt := 4) h dX1_numberOfBit_30 rfl ?_
        obtain rfl := so1 hf
        exact k_drop [0, 1, 2] rfl kc4
      · have hf := it_n hc hf
        refine k_iload_n (pc := 18) h dX1_numberOfBit_18 rfl 1 rfl ?_
        refine k_if_ne (pc := 19) (tgt := 24) h dX1_numberOfBit_19 rfl (fun hc => ?_) (fun hc => ?_)
        · have hf := it_n hc hf
          obtain ⟨v5, ev5, hf⟩ := lb_s hf
          refine k_iinc (pc := 24) h dX1_numberOfBit_24 1 rfl ((congrArg (_ + ·) kc_iconst_m1).trans ev5.symm) (nk hL (by decide)) (lv' := [(0, .int p0), (2, .int v5), (3, .int v2)]) rfl ?_
          obtain ⟨v6, ev6, hf⟩ := lb_s hf
          refine k_iinc (pc := 27) h dX1_numberOfBit_27 2 rfl ((congrArg (_ + ·) kc_iconst_1).trans ev6.symm) (nk hL (by decide)) (lv' := [(0, .int p0), (2, .int v5), (3, .int v6)]) rfl ?_
          refine k_goto (pc := 30) (tgt := 4) h dX1_numberOfBit_30 rfl ?_
          obtain rfl := so1 hf
          exact k_drop [0, 1, 2] rfl kc4
        · have hf := it_p hc hf
          refine k_iload_n (pc := 22) h dX1_numberOfBit_22 rfl 2 rfl ?_
          obtain rfl := so1 hf
          obtain rfl := sp1 kc4
          exact hret 23 _ dX1_numberOfBit_23 trivial
  · cases ee with
    | inl qq =>
      refine k_iconst (pc := 33) h dX1_numberOfBit_33 kc_iconst_m1 ?_
      obtain rfl := so1 hf
      exact hret 34 _ dX1_numberOfBit_34 trivial
    | inr qq =>
      exact (Option.some.inj hf)
theorem dX8_meet_0 : decode cX8_meet 0 = .ok (.iload_n 0, 1) := by decide +kernel
theorem dX8_meet_1 : decode cX8_meet 1 = .ok (.iload_n 1, 1) := by decide +kernel
theorem dX8_meet_2 : decode cX8_meet 2 = .ok (.if_icmp .eq 24, 3) := by decide +kernel
theorem dX8_meet_5 : decode cX8_meet 5 = .ok (.iload_n 0, 1) := by decide +kernel
theorem dX8_meet_6 : decode cX8_meet 6 = .ok (.iconst 3, 1) := by decide +kernel
theorem dX8_meet_7 : decode cX8_meet 7 = .ok (.idiv, 1) := by decide +kernel
theorem dX8_meet_8 : decode cX8_meet 8 = .ok (.iload_n 1, 1) := by decide +kernel
theorem dX8_meet_9 : decode cX8_meet 9 = .ok (.iconst 3, 1) := by decide +kernel
theorem dX8_meet_10 : decode cX8_meet 10 = .ok (.idiv, 1) := by decide +kernel
theorem dX8_meet_11 : decode cX8_meet 11 = .ok (.if_icmp .ne 19, 3) := by decide +kernel
theorem dX8_meet_14 : decode cX8_meet 14 = .ok (.iload_n 0, 1) := by decide +kernel
theorem dX8_meet_15 : decode cX8_meet 15 = .ok (.iconst 3, 1) := by decide +kernel
theorem dX8_meet_16 : decode cX8_meet 16 = .ok (.irem, 1) := by decide +kernel
theorem dX8_meet_17 : decode cX8_meet 17 = .ok (.ifCond .eq 9, 3) := by decide +kernel
theorem dX8_meet_20 : decode cX8_meet 20 = .ok (.iload_n 1, 1) := by decide +kernel
theorem dX8_meet_21 : decode cX8_meet 21 = .ok (.iconst 3, 1) := by decide +kernel
theorem dX8_meet_22 : decode cX8_meet 22 = .ok (.irem, 1) := by decide +kernel
theorem dX8_meet_23 : decode cX8_meet 23 = .ok (.ifCond .ne 7, 3) := by decide +kernel
theorem dX8_meet_26 : decode cX8_meet 26 = .ok (.iconst 1, 1) := by decide +kernel
theorem dX8_meet_27 : decode cX8_meet 27 = .ok (.goto 4, 3) := by decide +kernel
theorem dX8_meet_30 : decode cX8_meet 30 = .ok (.iconst 0, 1) := by decide +kernel
theorem dX8_meet_31 : decode cX8_meet 31 = .ok (.ireturn, 1) := by decide +kernel
def f_X8_meet (p0 : Int32) (p1 : Int32) : Option (Int32) := ob (if p0 = p1 then some (1 : Int32) else (if (p0 / (3 : Int32)) = (p1 / (3 : Int32)) then (if (p0 - p0 / (3 : Int32) * (3 : Int32)) = 0 then some (1 : Int32) else (if (p1 - p1 / (3 : Int32) * (3 : Int32)) = 0 then some (1 : Int32) else some (0 : Int32))) else some (0 : Int32))) (fun v1 => gu (v1 = 0 ∨ v1 = 1) (some v1))
set_option maxRecDepth 100000 in
set_option maxHeartbeats 4000000 in
theorem c_X8_meet (p0 : Int32) (p1 : Int32) (s0 : sh_S) (r : Int32) (hf : f_X8_meet p0 p1 = some r) : Ctr yX8_meet cX8_meet 2 (some .boolean) ({ frames := 0, cells := 0, slots := 0, locals := 0 } : Room) shNO [.int p0, .int p1] s0 (some (.int r)) s0 := by
  refine Ctr.mk (ri := .ireturn) (by decide) (Nat.le_of_ble_eq_true rfl) (Rt_z r) ?_
  intro G h hL hR hret
  refine k_drop (lv' := [(0, .int p0), (1, .int p1)]) [0, 1] rfl ?_
  unfold f_X8_meet at hf
  refine k_iload_n (pc := 0) h dX8_meet_0 rfl 0 rfl ?_
  refine k_iload_n (pc := 1) h dX8_meet_1 rfl 1 rfl ?_
  obtain ⟨v1, hj, hf⟩ := ob_s hf
  have kj2 : sh_K G shNO 31 [] [.int v1] s0 := by
    obtain ⟨g2, hf⟩ := gu_s hf
    obtain rfl := so1 hf
    exact hret 31 _ dX8_meet_31 g2
  clear hf
  have hf := hj
  clear hj
  refine k_icmp_eq (pc := 2) (tgt := 26) h dX8_meet_2 rfl (fun hc => ?_) (fun hc => ?_)
  · have hf := it_p hc hf
    refine k_iconst (pc := 26) h dX8_meet_26 kc_iconst_1 ?_
    refine k_goto (pc := 27) (tgt := 31) h dX8_meet_27 rfl ?_
    obtain rfl := so1 hf
    exact k_drop [] rfl kj2
  · have hf := it_n hc hf
    refine k_iload_n (pc := 5) h dX8_meet_5 rfl 0 rfl ?_
    refine k_iconst (pc := 6) h dX8_meet_6 kc_iconst_3 ?_
    refine k_idiv (pc := 7) h dX8_meet_7 (by decide) ?_
    refine k_iload_n (pc := 8) h dX8_meet_8 rfl 1 rfl ?_
    refine k_iconst (pc := 9) h dX8_meet_9 kc_iconst_3 ?_
    refine k_idiv (pc := 10) h dX8_meet_10 (by decide) ?_
    refine k_icmp_ne (pc := 11) (tgt := 30) h dX8_meet_11 rfl (fun hc => ?_) (fun hc => ?_)
    · have hf := it_n hc hf
      refine k_iconst (pc := 30) h dX8_meet_30 kc_iconst_0 ?_
      obtain rfl := so1 hf
      exact k_drop [] rfl kj2
    · have hf := it_p hc hf
      refine k_iload_n (pc := 14) h dX8_meet_14 rfl 0 rfl ?_
      refine k_iconst (pc := 15) h dX8_meet_15 kc_iconst_3 ?_
      refine k_irem (pc := 16) h dX8_meet_16 (by decide) ?_
      refine k_if_eq (pc := 17) (tgt := 26) h dX8_meet_17 rfl (fun hc => ?_) (fun hc => ?_)
      · have hf := it_p hc hf
        refine k_iconst (pc := 26) h dX8_meet_26 kc_iconst_1 ?_
        refine k_goto (pc := 27) (tgt := 31) h dX8_meet_27 rfl ?_
        obtain rfl := so1 hf
        exact k_drop [] rfl kj2
      · have hf := it_n hc hf
        refine k_iload_n (pc := 20) h dX8_meet_20 rfl 1 rfl ?_
        refine k_iconst (pc := 21) h dX8_meet_21 kc_iconst_3 ?_
        refine k_irem (pc := 22) h dX8_meet_22 (by decide) ?_
        refine k_if_ne (pc := 23) (tgt := 30) h dX8_meet_23 rfl (fun hc => ?_) (fun hc => ?_)
        · have hf := it_n hc hf
          refine k_iconst (pc := 30) h dX8_meet_30 kc_iconst_0 ?_
          obtain rfl := so1 hf
          exact k_drop [] rfl kj2
        · have hf := it_p hc hf
          refine k_iconst (pc := 26) h dX8_meet_26 kc_iconst_1 ?_
          refine k_goto (pc := 27) (tgt := 31) h dX8_meet_27 rfl ?_
          obtain rfl := so1 hf
          exact k_drop [] rfl kj2
theorem dX9_isBetween_0 : decode cX9_isBetween 0 = .ok (.iload_n 0, 1) := by decide +kernel
theorem dX9_isBetween_1 : decode cX9_isBetween 1 = .ok (.iload_n 1, 1) := by decide +kernel
theorem dX9_isBetween_2 : decode cX9_isBetween 2 = .ok (.if_icmp .lt 12, 3) := by decide +kernel
theorem dX9_isBetween_5 : decode cX9_isBetween 5 = .ok (.iload_n 0, 1) := by decide +kernel
theorem dX9_isBetween_6 : decode cX9_isBetween 6 = .ok (.iload_n 2, 1) := by decide +kernel
theorem dX9_isBetween_7 : decode cX9_isBetween 7 = .ok (.if_icmp .gt 7, 3) := by decide +kernel
theorem dX9_isBetween_10 : decode cX9_isBetween 10 = .ok (.iconst 1, 1) := by decide +kernel
theorem dX9_isBetween_11 : decode cX9_isBetween 11 = .ok (.goto 4, 3) := by decide +kernel
theorem dX9_isBetween_14 : decode cX9_isBetween 14 = .ok (.iconst 0, 1) := by decide +kernel
theorem dX9_isBetween_15 : decode cX9_isBetween 15 = .ok (.ireturn, 1) := by decide +kernel
def f_X9_isBetween (p0 : Int32) (p1 : Int32) (p2 : Int32) : Option (Int32) := ob (if p0 < p1 then some (0 : Int32) else (if p2 < p0 then some (0 : Int32) else some (1 : Int32))) (fun v1 => gu (v1 = 0 ∨ v1 = 1) (some v1))
set_option maxRecDepth 100000 in
set_option maxHeartbeats 4000000 in
theorem c_X9_isBetween (p0 : Int32) (p1 : Int32) (p2 : Int32) (s0 : sh_S) (r : Int32) (hf : f_X9_isBetween p0 p1 p2 = some r) : Ctr yX9_isBetween cX9_isBetween 3 (some .boolean) ({ frames := 0, cells := 0, slots := 0, locals := 0 } : Room) shNO [.int p0, .int p1, .int p2] s0 (some (.int r)) s0 := by
  refine Ctr.mk (ri := .ireturn) (by decide) (Nat.le_of_ble_eq_true rfl) (Rt_z r) ?_
  intro G h hL hR hret
  refine k_drop (lv' := [(0, .int p0), (1, .int p1), (2, .int p2)]) [0, 1, 2] rfl ?_
  unfold f_X9_isBetween at hf
  refine k_iload_n (pc := 0) h dX9_isBetween_0 rfl 0 rfl ?_
  refine k_iload_n (pc := 1) h dX9_isBetween_1 rfl 1 rfl ?_
  obtain ⟨v1, hj, hf⟩ := ob_s hf
  have kj2 : sh_K G shNO 15 [] [.int v1] s0 := by
    obtain ⟨g2, hf⟩ := gu_s hf
    obtain rfl := so1 hf
    exact hret 15 _ dX9_isBetween_15 g2
  clear hf
  have hf := hj
  clear hj
  refine k_icmp_lt (pc := 2) (tgt := 14) h dX9_isBetween_2 rfl (fun hc => ?_) (fun hc => ?_)
  · have hf := it_p hc hf
    refine k_iconst (pc := 14) h dX9_isBetween_14 kc_iconst_0 ?_
    obtain rfl := so1 hf
    exact k_drop [] rfl kj2
  · have hf := it_n hc hf
    refine k_iload_n (pc := 5) h dX9_isBetween_5 rfl 0 rfl ?_
    refine k_iload_n (pc := 6) h dX9_isBetween_6 rfl 2 rfl ?_
    refine k_icmp_gt (pc := 7) (tgt := 14) h dX9_isBetween_7 rfl (fun hc => ?_) (fun hc => ?_)
    · have hf := it_p hc hf
      refine k_iconst (pc := 14) h dX9_isBetween_14 kc_iconst_0 ?_
      obtain rfl := so1 hf
      exact k_drop [] rfl kj2
    · have hf := it_n hc hf
      refine k_iconst (pc := 10) h dX9_isBetween_10 kc_iconst_1 ?_
      refine k_goto (pc := 11) (tgt := 15) h dX9_isBetween_11 rfl ?_
      obtain rfl := so1 hf
      exact k_drop [] rfl kj2
theorem dX9_isVariable_0 : decode cX9_isVariable 0 = .ok (.iload_n 0, 1) := by decide +kernel
theorem dX9_isVariable_1 : decode cX9_isVariable 1 = .ok (.iconst 0, 1) := by decide +kernel
theorem dX9_isVariable_2 : decode cX9_isVariable 2 = .ok (.bipush 7, 2) := by decide +kernel
theorem dX9_isVariable_4 : decode cX9_isVariable 4 = .ok (.invokestatic 109, 3) := by decide +kernel
theorem dX9_isVariable_7 : decode cX9_isVariable 7 = .ok (.ireturn, 1) := by decide +kernel
def f_X9_isVariable (p0 : Int32) : Option (Int32) := ob (f_X9_isBetween p0 (0 : Int32) (7 : Int32)) (fun v1 => gu (v1 = 0 ∨ v1 = 1) (some v1))
set_option maxRecDepth 100000 in
set_option maxHeartbeats 4000000 in
theorem c_X9_isVariable (p0 : Int32) (s0 : sh_S) (r : Int32) (hf : f_X9_isVariable p0 = some r) : Ctr yX9_isVariable cX9_isVariable 1 (some .boolean) ({ frames := 1, cells := 0, slots := 0, locals := 22 } : Room) shNO [.int p0] s0 (some (.int r)) s0 := by
  refine Ctr.mk (ri := .ireturn) (by decide) (Nat.le_of_ble_eq_true rfl) (Rt_z r) ?_
  intro G h hL hR hret
  refine k_drop (lv' := [(0, .int p0)]) [0] rfl ?_
  unfold f_X9_isVariable at hf
  refine k_iload_n (pc := 0) h dX9_isVariable_0 rfl 0 rfl ?_
  refine k_iconst (pc := 1) h dX9_isVariable_1 kc_iconst_0 ?_
  refine k_bipush (pc := 2) h dX9_isVariable_2 kc_bipush_7 ?_
  obtain ⟨v1, cv1, hf⟩ := ob_s hf
  refine k_callSp (pc := 4) h cs_RX9_109 (c_X9_isBetween p0 (0 : Int32) (7 : Int32) _ v1 cv1) rfl rfl (st1 := [.int v1]) rfl ⟨rfl, rfl⟩ (rk hR (Nat.le_of_ble_eq_true rfl) (Nat.le_of_ble_eq_true rfl)) (Nat.le_of_ble_eq_true rfl) dX9_isVariable_4 ?_
  obtain ⟨g2, hf⟩ := gu_s hf
  obtain rfl := so1 hf
  exact hret 7 _ dX9_isVariable_7 g2
theorem dX9_mayBe_0 : decode cX9_mayBe 0 = .ok (.iload_n 0, 1) := by decide +kernel
theorem dX9_mayBe_1 : decode cX9_mayBe 1 = .ok (.iconst 0, 1) := by decide +kernel
theorem dX9_mayBe_2 : decode cX9_mayBe 2 = .ok (.bipush 9, 2) := by decide +kernel
theorem dX9_mayBe_4 : decode cX9_mayBe 4 = .ok (.invokestatic 109, 3) := by decide +kernel
theorem dX9_mayBe_7 : decode cX9_mayBe 7 = .ok (.ifCond .eq 34, 3) := by decide +kernel
theorem dX9_mayBe_10 : decode cX9_mayBe 10 = .ok (.iload_n 1, 1) := by decide +kernel
theorem dX9_mayBe_11 : decode cX9_mayBe 11 = .ok (.invokestatic 113, 3) := by decide +kernel
theorem dX9_mayBe_14 : decode cX9_mayBe 14 = .ok (.ifCond .eq 27, 3) := by decide +kernel
theorem dX9_mayBe_17 : decode cX9_mayBe 17 = .ok (.iload_n 2, 1) := by decide +kernel
theorem dX9_mayBe_18 : decode cX9_mayBe 18 = .ok (.iconst 0, 1) := by decide +kernel
theorem dX9_mayBe_19 : decode cX9_mayBe 19 = .ok (.bipush 47, 2) := by decide +kernel
theorem dX9_mayBe_21 : decode cX9_mayBe 21 = .ok (.invokestatic 109, 3) := by decide +kernel
theorem dX9_mayBe_24 : decode cX9_mayBe 24 = .ok (.ifCond .eq 17, 3) := by decide +kernel
theorem dX9_mayBe_27 : decode cX9_mayBe 27 = .ok (.iload_n 3, 1) := by decide +kernel
theorem dX9_mayBe_28 : decode cX9_mayBe 28 = .ok (.iconst 0, 1) := by decide +kernel
theorem dX9_mayBe_29 : decode cX9_mayBe 29 = .ok (.bipush 23, 2) := by decide +kernel
theorem dX9_mayBe_31 : decode cX9_mayBe 31 = .ok (.invokestatic 109, 3) := by decide +kernel
theorem dX9_mayBe_34 : decode cX9_mayBe 34 = .ok (.ifCond .eq 7, 3) := by decide +kernel
theorem dX9_mayBe_37 : decode cX9_mayBe 37 = .ok (.iconst 1, 1) := by decide +kernel
theorem dX9_mayBe_38 : decode cX9_mayBe 38 = .ok (.goto 4, 3) := by decide +kernel
theorem dX9_mayBe_41 : decode cX9_mayBe 41 = .ok (.iconst 0, 1) := by decide +kernel
theorem dX9_mayBe_42 : decode cX9_mayBe 42 = .ok (.ireturn, 1) := by decide +kernel
def f_X9_mayBe (p0 : Int32) (p1 : Int32) (p2 : Int32) (p3 : Int32) : Option (Int32) := ob (f_X9_isBetween p0 (0 : Int32) (9 : Int32)) (fun v1 => ob (if v1 = 0 then some (0 : Int32) else ob (f_X9_isVariable p1) (fun v3 => (if v3 = 0 then some (0 : Int32) else ob (f_X9_isBetween p2 (0 : Int32) (47 : Int32)) (fun v4 => (if v4 = 0 then some (0 : Int32) else ob (f_X9_isBetween p3 (0 : Int32) (23 : Int32)) (fun v5 => (if v5 = 0 then some (0 : Int32) else some (1 : Int32)))))))) (fun v2 => gu (v2 = 0 ∨ v2 = 1) (some v2)))
set_option maxRecDepth 100000 in
set_option maxHeartbeats 4000000 in
theorem c_X9_mayBe (p0 : Int32) (p1 : Int32) (p2 : Int32) (p3 : Int32) (s0 : sh_S) (r : Int32) (hf : f_X9_mayBe p0 p1 p2 p3 = some r) : Ctr yX9_mayBe cX9_mayBe 4 (some .boolean) ({ frames := 2, cells := 0, slots := 0, locals := 42 } : Room) shNO [.int p0, .int p1, .int p2, .int p3] s0 (some (.int r)) s0 := by
  refine Ctr.mk (ri := .ireturn) (by decide) (Nat.le_of_ble_eq_true rfl) (Rt_z r) ?_
  intro G h hL hR hret
  refine k_drop (lv' := [(0, .int p0), (1, .int p1), (2, .int p2), (3, .int p3)]) [0, 1, 2, 3] rfl ?_
  unfold f_X9_mayBe at hf
  refine k_iload_n (pc := 0) h dX9_mayBe_0 rfl 0 rfl ?_
  refine k_iconst (pc := 1) h dX9_mayBe_1 kc_iconst_0 ?_
  refine k_bipush (pc := 2) h dX9_mayBe_2 kc_bipush_9 ?_
  obtain ⟨v1, cv1, hf⟩ := ob_s hf
  refine k_callSp (pc := 4) h cs_RX9_109 (c_X9_isBetween p0 (0 : Int32) (9 : Int32) _ v1 cv1) rfl rfl (st1 := [.int v1]) rfl ⟨rfl, rfl⟩ (rk hR (Nat.le_of_ble_eq_true rfl) (Nat.le_of_ble_eq_true rfl)) (Nat.le_of_ble_eq_true rfl) dX9_mayBe_4 ?_
  obtain ⟨v2, hj, hf⟩ := ob_s hf
  have kj7 : sh_K G shNO 42 [] [.int v2] s0 := by
    obtain ⟨g6, hf⟩ := gu_s hf
    obtain rfl := so1 hf
    exact hret 42 _ dX9_mayBe_42 g6
  clear hf
  have hf := hj
  clear hj
  refine k_if_eq (pc := 7) (tgt := 41) h dX9_mayBe_7 rfl (fun hc => ?_) (fun hc => ?_)
  · have hf := it_p hc hf
    refine k_iconst (pc := 41) h dX9_mayBe_41 kc_iconst_0 ?_
    obtain rfl := so1 hf
    exact k_drop [] rfl kj7
  · have hf := it_n hc hf
    refine k_iload_n (pc := 10) h dX9_mayBe_10 rfl 1 rfl ?_
    obtain ⟨v3, cv3, hf⟩ := ob_s hf
    refine k_callSp (pc := 11) h cs_RX9_113 (c_X9_isVariable p1 _ v3 cv3) rfl rfl (st1 := [.int v3]) rfl ⟨rfl, rfl⟩ (rk hR (Nat.le_of_ble_eq_true rfl) (Nat.le_of_ble_eq_true rfl)) (Nat.le_of_ble_eq_true rfl) dX9_mayBe_11 ?_
    refine k_if_eq (pc := 14) (tgt := 41) h dX9_mayBe_14 rfl (fun hc => ?_) (fun hc => ?_)
    · have hf := it_p hc hf
      refine k_iconst (pc := 41) h dX9_mayBe_41 kc_iconst_0 ?_
      obtain rfl := so1 hf
      exact k_drop [] rfl kj7
    · have hf := it_n hc hf
      refine k_iload_n (pc := 17) h dX9_mayBe_17 rfl 2 rfl ?_
      refine k_iconst (pc := 18) h dX9_mayBe_18 kc_iconst_0 ?_
      refine k_bipush (pc := 19) h dX9_mayBe_19 kc_bipush_47 ?_
      obtain ⟨v4, cv4, hf⟩ := ob_s hf
      refine k_callSp (pc := 21) h cs_RX9_109 (c_X9_isBetween p2 (0 : Int32) (47 : Int32) _ v4 cv4) rfl rfl (st1 := [.int v4]) rfl ⟨rfl, rfl⟩ (rk hR (Nat.le_of_ble_eq_true rfl) (Nat.le_of_ble_eq_true rfl)) (Nat.le_of_ble_eq_true rfl) dX9_mayBe_21 ?_
      refine k_if_eq (pc := 24) (tgt := 41) h dX9_mayBe_24 rfl (fun hc => ?_) (fun hc => ?_)
      · have hf := it_p hc hf
        refine k_iconst (pc := 41) h dX9_mayBe_41 kc_iconst_0 ?_
        obtain rfl := so1 hf
        exact k_drop [] rfl kj7
      · have hf := it_n hc hf
        refine k_iload_n (pc := 27) h dX9_mayBe_27 rfl 3 rfl ?_
        refine k_iconst (pc := 28) h dX9_mayBe_28 kc_iconst_0 ?_
        refine k_bipush (pc := 29) h dX9_mayBe_29 kc_bipush_23 ?_
        obtain ⟨v5, cv5, hf⟩ := ob_s hf
        refine k_callSp (pc := 31) h cs_RX9_109 (c_X9_isBetween p3 (0 : Int32) (23 : Int32) _ v5 cv5) rfl rfl (st1 := [.int v5]) rfl ⟨rfl, rfl⟩ (rk hR (Nat.le_of_ble_eq_true rfl) (Nat.le_of_ble_eq_true rfl)) (Nat.le_of_ble_eq_true rfl) dX9_mayBe_31 ?_
        refine k_if_eq (pc := 34) (tgt := 41) h dX9_mayBe_34 rfl (fun hc => ?_) (fun hc => ?_)
        · have hf := it_p hc hf
          refine k_iconst (pc := 41) h dX9_mayBe_41 kc_iconst_0 ?_
          obtain rfl := so1 hf
          exact k_drop [] rfl kj7
        · have hf := it_n hc hf
          refine k_iconst (pc := 37) h dX9_mayBe_37 kc_iconst_1 ?_
          refine k_goto (pc := 38) (tgt := 42) h dX9_mayBe_38 rfl ?_
          obtain rfl := so1 hf
          exact k_drop [] rfl kj7
theorem dX9_isSheet_0 : decode cX9_isSheet 0 = .ok (.iload_n 0, 1) := by decide +kernel
theorem dX9_isSheet_1 : decode cX9_isSheet 1 = .ok (.iconst 0, 1) := by decide +kernel
theorem dX9_isSheet_2 : decode cX9_isSheet 2 = .ok (.iconst 3, 1) := by decide +kernel
theorem dX9_isSheet_3 : decode cX9_isSheet 3 = .ok (.invokestatic 109, 3) := by decide +kernel
theorem dX9_isSheet_6 : decode cX9_isSheet 6 = .ok (.ireturn, 1) := by decide +kernel
def f_X9_isSheet (p0 : Int32) : Option (Int32) := ob (f_X9_isBetween p0 (0 : Int32) (3 : Int32)) (fun v1 => gu (v1 = 0 ∨ v1 = 1) (some v1))
set_option maxRecDepth 100000 in
set_option maxHeartbeats 4000000 in
theorem c_X9_isSheet (p0 : Int32) (s0 : sh_S) (r : Int32) (hf : f_X9_isSheet p0 = some r) : Ctr yX9_isSheet cX9_isSheet 1 (some .boolean) ({ frames := 1, cells := 0, slots := 0, locals := 22 } : Room) shNO [.int p0] s0 (some (.int r)) s0 := by
  refine Ctr.mk (ri := .ireturn) (by decide) (Nat.le_of_ble_eq_true rfl) (Rt_z r) ?_
  intro G h hL hR hret
  refine k_drop (lv' := [(0, .int p0)]) [0] rfl ?_
  unfold f_X9_isSheet at hf
  refine k_iload_n (pc := 0) h dX9_isSheet_0 rfl 0 rfl ?_
  refine k_iconst (pc := 1) h dX9_isSheet_1 kc_iconst_0 ?_
  refine k_iconst (pc := 2) h dX9_isSheet_2 kc_iconst_3 ?_
  obtain ⟨v1, cv1, hf⟩ := ob_s hf
  refine k_callSp (pc := 3) h cs_RX9_109 (c_X9_isBetween p0 (0 : Int32) (3 : Int32) _ v1 cv1) rfl rfl (st1 := [.int v1]) rfl ⟨rfl, rfl⟩ (rk hR (Nat.le_of_ble_eq_true rfl) (Nat.le_of_ble_eq_true rfl)) (Nat.le_of_ble_eq_true rfl) dX9_isSheet_3 ?_
  obtain ⟨g2, hf⟩ := gu_s hf
  obtain rfl := so1 hf
  exact hret 6 _ dX9_isSheet_6 g2
theorem dX9_isForm_0 : decode cX9_isForm 0 = .ok (.iload_n 0, 1) := by decide +kernel
theorem dX9_isForm_1 : decode cX9_isForm 1 = .ok (.iconst 0, 1) := by decide +kernel
theorem dX9_isForm_2 : decode cX9_isForm 2 = .ok (.iconst 2, 1) := by decide +kernel
theorem dX9_isForm_3 : decode cX9_isForm 3 = .ok (.invokestatic 109, 3) := by decide +kernel
theorem dX9_isForm_6 : decode cX9_isForm 6 = .ok (.ireturn, 1) := by decide +kernel
def f_X9_isForm (p0 : Int32) : Option (Int32) := ob (f_X9_isBetween p0 (0 : Int32) (2 : Int32)) (fun v1 => gu (v1 = 0 ∨ v1 = 1) (some v1))
set_option maxRecDepth 100000 in
set_option maxHeartbeats 4000000 in
theorem c_X9_isForm (p0 : Int32) (s0 : sh_S) (r : Int32) (hf : f_X9_isForm p0 = some r) : Ctr yX9_isForm cX9_isForm 1 (some .boolean) ({ frames := 1, cells := 0, slots := 0, locals := 22 } : Room) shNO [.int p0] s0 (some (.int r)) s0 := by
  refine Ctr.mk (ri := .ireturn) (by decide) (Nat.le_of_ble_eq_true rfl) (Rt_z r) ?_
  intro G h hL hR hret
  refine k_drop (lv' := [(0, .int p0)]) [0] rfl ?_
  unfold f_X9_isForm at hf
  refine k_iload_n (pc := 0) h dX9_isForm_0 rfl 0 rfl ?_
  refine k_iconst (pc := 1) h dX9_isForm_1 kc_iconst_0 ?_
  refine k_iconst (pc := 2) h dX9_isForm_2 kc_iconst_2 ?_
  obtain ⟨v1, cv1, hf⟩ := ob_s hf
  refine k_callSp (pc := 3) h cs_RX9_109 (c_X9_isBetween p0 (0 : Int32) (2 : Int32) _ v1 cv1) rfl rfl (st1 := [.int v1]) rfl ⟨rfl, rfl⟩ (rk hR (Nat.le_of_ble_eq_true rfl) (Nat.le_of_ble_eq_true rfl)) (Nat.le_of_ble_eq_true rfl) dX9_isForm_3 ?_
  obtain ⟨g2, hf⟩ := gu_s hf
  obtain rfl := so1 hf
  exact hret 6 _ dX9_isForm_6 g2
theorem dX9_fold_0 : decode cX9_fold 0 = .ok (.ldc2_w 305, 3) := by decide +kernel
theorem dX9_fold_3 : decode cX9_fold 3 = .ok (.lload_n 0, 1) := by decide +kernel
theorem dX9_fold_4 : decode cX9_fold 4 = .ok (.lmul, 1) := by decide +kernel
theorem dX9_fold_5 : decode cX9_fold 5 = .ok (.lload_n 2, 1) := by decide +kernel
theorem dX9_fold_6 : decode cX9_fold 6 = .ok (.ladd, 1) := by decide +kernel
theorem dX9_fold_7 : decode cX9_fold 7 = .ok (.lreturn, 1) := by decide +kernel
def f_X9_fold (p0 : Int64) (p2 : Int64) : Option (Int64) := some (((31 : Int64) * p0) + p2)
set_option maxRecDepth 100000 in
set_option maxHeartbeats 4000000 in
theorem c_X9_fold (p0 : Int64) (p2 : Int64) (s0 : sh_S) (r : Int64) (hf : f_X9_fold p0 p2 = some r) : Ctr yX9_fold cX9_fold 4 (some .long) ({ frames := 0, cells := 0, slots := 0, locals := 0 } : Room) shNO [.long p0, .long p2] s0 (some (.long r)) s0 := by
  refine Ctr.mk (ri := .lreturn) (by decide) (Nat.le_of_ble_eq_true rfl) (Rt_l r) ?_
  intro G h hL hR hret
  refine k_drop (lv' := [(0, .long p0), (2, .long p2)]) [0, 1] rfl ?_
  unfold f_X9_fold at hf
  refine k_ldc2 (pc := 0) h dX9_fold_0 wd_927 ?_
  refine k_lload_n (pc := 3) h dX9_fold_3 rfl 0 rfl ?_
  refine k_lmul (pc := 4) h dX9_fold_4 ?_
  refine k_lload_n (pc := 5) h dX9_fold_5 rfl 1 rfl ?_
  refine k_ladd (pc := 6) h dX9_fold_6 ?_
  obtain rfl := so1 hf
  exact hret 7 _ dX9_fold_7 trivial
theorem dX10_in_0 : decode cX10_in 0 = .ok (.iload_n 0, 1) := by decide +kernel
theorem dX10_in_1 : decode cX10_in 1 = .ok (.iload_n 1, 1) := by decide +kernel
theorem dX10_in_2 : decode cX10_in 2 = .ok (.if_icmp .lt 12, 3) := by decide +kernel
theorem dX10_in_5 : decode cX10_in 5 = .ok (.iload_n 0, 1) := by decide +kernel
theorem dX10_in_6 : decode cX10_in 6 = .ok (.iload_n 2, 1) := by decide +kernel
theorem dX10_in_7 : decode cX10_in 7 = .ok (.if_icmp .gt 7, 3) := by decide +kernel
theorem dX10_in_10 : decode cX10_in 10 = .ok (.iconst 1, 1) := by decide +kernel
theorem dX10_in_11 : decode cX10_in 11 = .ok (.goto 4, 3) := by decide +kernel
theorem dX10_in_14 : decode cX10_in 14 = .ok (.iconst 0, 1) := by decide +kernel
theorem dX10_in_15 : decode cX10_in 15 = .ok (.ireturn, 1) := by decide +kernel
def f_X10_in (p0 : Int32) (p1 : Int32) (p2 : Int32) : Option (Int32) := ob (if p0 < p1 then some (0 : Int32) else (if p2 < p0 then some (0 : Int32) else some (1 : Int32))) (fun v1 => gu (v1 = 0 ∨ v1 = 1) (some v1))
set_option maxRecDepth 100000 in
set_option maxHeartbeats 4000000 in
theorem c_X10_in (p0 : Int32) (p1 : Int32) (p2 : Int32) (s0 : sh_S) (r : Int32) (hf : f_X10_in p0 p1 p2 = some r) : Ctr yX10_in cX10_in 3 (some .boolean) ({ frames := 0, cells := 0, slots := 0, locals := 0 } : Room) shNO [.int p0, .int p1, .int p2] s0 (some (.int r)) s0 := by
  refine Ctr.mk (ri := .ireturn) (by decide) (Nat.le_of_ble_eq_true rfl) (Rt_z r) ?_
  intro G h hL hR hret
  refine k_drop (lv' := [(0, .int p0), (1, .int p1), (2, .int p2)]) [0, 1, 2] rfl ?_
  unfold f_X10_in at hf
  refine k_iload_n (pc := 0) h dX10_in_0 rfl 0 rfl ?_
  refine k_iload_n (pc := 1) h dX10_in_1 rfl 1 rfl ?_
  obtain ⟨v1, hj, hf⟩ := ob_s hf
  have kj2 : sh_K G shNO 15 [] [.int v1] s0 := by
    obtain ⟨g2, hf⟩ := gu_s hf
    obtain rfl := so1 hf
    exact hret 15 _ dX10_in_15 g2
  clear hf
  have hf := hj
  clear hj
  refine k_icmp_lt (pc := 2) (tgt := 14) h dX10_in_2 rfl (fun hc => ?_) (fun hc => ?_)
  · have hf := it_p hc hf
    refine k_iconst (pc := 14) h dX10_in_14 kc_iconst_0 ?_
    obtain rfl := so1 hf
    exact k_drop [] rfl kj2
  · have hf := it_n hc hf
    refine k_iload_n (pc := 5) h dX10_in_5 rfl 0 rfl ?_
    refine k_iload_n (pc := 6) h dX10_in_6 rfl 2 rfl ?_
    refine k_icmp_gt (pc := 7) (tgt := 14) h dX10_in_7 rfl (fun hc => ?_) (fun hc => ?_)
    · have hf := it_p hc hf
      refine k_iconst (pc := 14) h dX10_in_14 kc_iconst_0 ?_
      obtain rfl := so1 hf
      exact k_drop [] rfl kj2
    · have hf := it_n hc hf
      refine k_iconst (pc := 10) h dX10_in_10 kc_iconst_1 ?_
      refine k_goto (pc := 11) (tgt := 15) h dX10_in_11 rfl ?_
      obtain rfl := so1 hf
      exact k_drop [] rfl kj2
theorem dX10_isIn_0 : decode cX10_isIn 0 = .ok (.iload_n 0, 1) := by decide +kernel
theorem dX10_isIn_1 : decode cX10_isIn 1 = .ok (.iload_n 1, 1) := by decide +kernel
theorem dX10_isIn_2 : decode cX10_isIn 2 = .ok (.ishr, 1) := by decide +kernel
theorem dX10_isIn_3 : decode cX10_isIn 3 = .ok (.iconst 1, 1) := by decide +kernel
theorem dX10_isIn_4 : decode cX10_isIn 4 = .ok (.iand, 1) := by decide +kernel
theorem dX10_isIn_5 : decode cX10_isIn 5 = .ok (.iconst 1, 1) := by decide +kernel
theorem dX10_isIn_6 : decode cX10_isIn 6 = .ok (.if_icmp .ne 7, 3) := by decide +kernel
theorem dX10_isIn_9 : decode cX10_isIn 9 = .ok (.iconst 1, 1) := by decide +kernel
theorem dX10_isIn_10 : decode cX10_isIn 10 = .ok (.goto 4, 3) := by decide +kernel
theorem dX10_isIn_13 : decode cX10_isIn 13 = .ok (.iconst 0, 1) := by decide +kernel
theorem dX10_isIn_14 : decode cX10_isIn 14 = .ok (.ireturn, 1) := by decide +kernel
def f_X10_isIn (p0 : Int32) (p1 : Int32) : Option (Int32) := ob (if ((p0 >>> (p1 &&& 31)) &&& (1 : Int32)) = (1 : Int32) then some (1 : Int32) else some (0 : Int32)) (fun v1 => gu (v1 = 0 ∨ v1 = 1) (some v1))
set_option maxRecDepth 100000 in
set_option maxHeartbeats 4000000 in
theorem c_X10_isIn (p0 : Int32) (p1 : Int32) (s0 : sh_S) (r : Int32) (hf : f_X10_isIn p0 p1 = some r) : Ctr yX10_isIn cX10_isIn 2 (some .boolean) ({ frames := 0, cells := 0, slots := 0, locals := 0 } : Room) shNO [.int p0, .int p1] s0 (some (.int r)) s0 := by
  refine Ctr.mk (ri := .ireturn) (by decide) (Nat.le_of_ble_eq_true rfl) (Rt_z r) ?_
  intro G h hL hR hret
  refine k_drop (lv' := [(0, .int p0), (1, .int p1)]) [0, 1] rfl ?_
  unfold f_X10_isIn at hf
  refine k_iload_n (pc := 0) h dX10_isIn_0 rfl 0 rfl ?_
  refine k_iload_n (pc := 1) h dX10_isIn_1 rfl 1 rfl ?_
  refine k_ishr (pc := 2) h dX10_isIn_2 ?_
  refine k_iconst (pc := 3) h dX10_isIn_3 kc_iconst_1 ?_
  refine k_iand (pc := 4) h dX10_isIn_4 ?_
  refine k_iconst (pc := 5) h dX10_isIn_5 kc_iconst_1 ?_
  obtain ⟨v1, hj, hf⟩ := ob_s hf
  have kj6 : sh_K G shNO 14 [] [.int v1] s0 := by
    obtain ⟨g2, hf⟩ := gu_s hf
    obtain rfl := so1 hf
    exact hret 14 _ dX10_isIn_14 g2
  clear hf
  have hf := hj
  clear hj
  refine k_icmp_ne (pc := 6) (tgt := 13) h dX10_isIn_6 rfl (fun hc => ?_) (fun hc => ?_)
  · have hf := it_n hc hf
    refine k_iconst (pc := 13) h dX10_isIn_13 kc_iconst_0 ?_
    obtain rfl := so1 hf
    exact k_drop [] rfl kj6
  · have hf := it_p hc hf
    refine k_iconst (pc := 9) h dX10_isIn_9 kc_iconst_1 ?_
    refine k_goto (pc := 10) (tgt := 14) h dX10_isIn_10 rfl ?_
    obtain rfl := so1 hf
    exact k_drop [] rfl kj6
theorem dX10_many_0 : decode cX10_many 0 = .ok (.iconst 0, 1) := by decide +kernel
theorem dX10_many_1 : decode cX10_many 1 = .ok (.istore_n 1, 1) := by decide +kernel
theorem dX10_many_2 : decode cX10_many 2 = .ok (.iconst 0, 1) := by decide +kernel
theorem dX10_many_3 : decode cX10_many 3 = .ok (.istore_n 2, 1) := by decide +kernel
theorem dX10_many_4 : decode cX10_many 4 = .ok (.iload_n 2, 1) := by decide +kernel
theorem dX10_many_5 : decode cX10_many 5 = .ok (.bipush 24, 2) := by decide +kernel
theorem dX10_many_7 : decode cX10_many 7 = .ok (.if_icmp .ge 25, 3) := by decide +kernel
theorem dX10_many_10 : decode cX10_many 10 = .ok (.iload_n 1, 1) := by decide +kernel
theorem dX10_many_11 : decode cX10_many 11 = .ok (.iload_n 0, 1) := by decide +kernel
theorem dX10_many_12 : decode cX10_many 12 = .ok (.iload_n 2, 1) := by decide +kernel
theorem dX10_many_13 : decode cX10_many 13 = .ok (.invokestatic 89, 3) := by decide +kernel
theorem dX10_many_16 : decode cX10_many 16 = .ok (.ifCond .eq 7, 3) := by decide +kernel
theorem dX10_many_19 : decode cX10_many 19 = .ok (.iconst 1, 1) := by decide +kernel
theorem dX10_many_20 : decode cX10_many 20 = .ok (.goto 4, 3) := by decide +kernel
theorem dX10_many_23 : decode cX10_many 23 = .ok (.iconst 0, 1) := by decide +kernel
theorem dX10_many_24 : decode cX10_many 24 = .ok (.iadd, 1) := by decide +kernel
theorem dX10_many_25 : decode cX10_many 25 = .ok (.istore_n 1, 1) := by decide +kernel
theorem dX10_many_26 : decode cX10_many 26 = .ok (.iinc 2 1, 3) := by decide +kernel
theorem dX10_many_29 : decode cX10_many 29 = .ok (.goto (-25), 3) := by decide +kernel
theorem dX10_many_32 : decode cX10_many 32 = .ok (.iload_n 1, 1) := by decide +kernel
theorem dX10_many_33 : decode cX10_many 33 = .ok (.ireturn, 1) := by decide +kernel
def f_X10_many_L4 (p0 : Int32) (v1 : Int32) (v2 : Int32) : Option ((Int32 × Int32) ⊕ (Int32)) := (if (24 : Int32) ≤ v2 then some (.inr v1) else ob (f_X10_isIn p0 v2) (fun v4 => ob (if v4 = 0 then some (0 : Int32) else some (1 : Int32)) (fun v5 => lb ((v1 + v5)) (fun v6 => lb (v2 + (1 : Int32)) (fun v7 => some (.inl (v6, v7)))))))
def f_X10_many (p0 : Int32) : Option (Int32) := ob (lp (fun q => f_X10_many_L4 p0 q.1 q.2) FU ((0 : Int32), (0 : Int32))) (fun v3 => some v3)
set_option maxRecDepth 100000 in
set_option maxHeartbeats 4000000 in
theorem c_X10_many (p0 : Int32) (s0 : sh_S) (r : Int32) (hf : f_X10_many p0 = some r) : Ctr yX10_many cX10_many 3 (some .int) ({ frames := 1, cells := 0, slots := 0, locals := 21 } : Room) shNO [.int p0] s0 (some (.int r)) s0 := by
  refine Ctr.mk (ri := .ireturn) (by decide) (Nat.le_of_ble_eq_true rfl) (Rt_i r) ?_
  intro G h hL hR hret
  refine k_drop (lv' := [(0, .int p0)]) [0] rfl ?_
  unfold f_X10_many at hf
  refine k_iconst (pc := 0) h dX10_many_0 kc_iconst_0 ?_
  refine k_istore_n (pc := 1) h dX10_many_1 rfl (nk hL (by decide)) (lv' := [(0, .int p0), (1, .int (0 : Int32))]) rfl ?_
  refine k_iconst (pc := 2) h dX10_many_2 kc_iconst_0 ?_
  refine k_istore_n (pc := 3) h dX10_many_3 rfl (nk hL (by decide)) (lv' := [(0, .int p0), (1, .int (0 : Int32)), (2, .int (0 : Int32))]) rfl ?_
  obtain ⟨v3, hl, hf⟩ := ob_s hf
  refine k_drop (lv' := [(0, .int p0), (1, .int (0 : Int32)), (2, .int (0 : Int32))]) [0, 1, 2] rfl ?_
  refine lp_s (P := (fun q : Int32 × Int32 => sh_K G shNO 4 [(0, .int p0), (1, .int q.1), (2, .int q.2)] [] s0)) (Q := (fun q : Int32 => sh_K G shNO 32 [(1, .int q)] [] s0)) (s := ((0 : Int32), (0 : Int32))) ?_ hl ?_
  · clear hf hl
    intro q rr hf kc4
    obtain ⟨v1, v2⟩ := q
    have hf : f_X10_many_L4 p0 v1 v2 = some rr := hf
    unfold f_X10_many_L4 at hf
    refine k_iload_n (pc := 4) h dX10_many_4 rfl 2 rfl ?_
    refine k_bipush (pc := 5) h dX10_many_5 kc_bipush_24 ?_
    refine k_icmp_ge (pc := 7) (tgt := 32) h dX10_many_7 rfl (fun hc => ?_) (fun hc => ?_)
    · have hf := it_p hc hf
      obtain rfl := so1 hf
      exact k_drop [1] rfl kc4
    · have hf := it_n hc hf
      refine k_iload_n (pc := 10) h dX10_many_10 rfl 1 rfl ?_
      refine k_iload_n (pc := 11) h dX10_many_11 rfl 0 rfl ?_
      refine k_iload_n (pc := 12) h dX10_many_12 rfl 2 rfl ?_
      obtain ⟨v4, cv4, hf⟩ := ob_s hf
      refine k_callSp (pc := 13) h cs_RX10_89 (c_X10_isIn p0 v2 _ v4 cv4) rfl rfl (st1 := [.int v4, .int v1]) rfl ⟨rfl, rfl⟩ (rk hR (Nat.le_of_ble_eq_true rfl) (Nat.le_of_ble_eq_true rfl)) (Nat.le_of_ble_eq_true rfl) dX10_many_13 ?_
      obtain ⟨v5, hj, hf⟩ := ob_s hf
      have kj16 : sh_K G shNO 24 [(0, .int p0), (2, .int v2)] [.int v5, .int v1] s0 := by
        refine k_iadd (pc := 24) h dX10_many_24 ?_
        obtain ⟨v6, ev6, hf⟩ := lb_s hf
        refine k_top ev6 ?_
        refine k_istore_n (pc := 25) h dX10_many_25 rfl (nk hL (by decide)) (lv' := [(0, .int p0), (1, .int v6), (2, .int v2)]) rfl ?_
        obtain ⟨v7, ev7, hf⟩ := lb_s hf
        refine k_iinc (pc := 26) h dX10_many_26 2 rfl ((congrArg (_ + ·) kc_iconst_1).trans ev7.symm) (nk hL (by decide)) (lv' := [(0, .int p0), (1, .int v6), (2, .int v7)]) rfl ?_
        refine k_goto (pc := 29) (tgt := 4) h dX10_many_29 rfl ?_
        obtain rfl := so1 hf
        exact k_drop [0, 1, 2] rfl kc4
      clear hf
      have hf := hj
      clear hj
      refine k_if_eq (pc := 16) (tgt := 23) h dX10_many_16 rfl (fun hc => ?_) (fun hc => ?_)
      · have hf := it_p hc hf
        refine k_iconst (pc := 23) h dX10_many_23 kc_iconst_0 ?_
        obtain rfl := so1 hf
        exact k_drop [0, 2] rfl kj16
      · have hf := it_n hc hf
        refine k_iconst (pc := 19) h dX10_many_19 kc_iconst_1 ?_
        refine k_goto (pc := 20) (tgt := 24) h dX10_many_20 rfl ?_
        obtain rfl := so1 hf
        exact k_drop [0, 2] rfl kj16
  · refine k_iload_n (pc := 32) h dX10_many_32 rfl 0 rfl ?_
    obtain rfl := so1 hf
    exact hret 33 _ dX10_many_33 trivial
theorem dX10_isWell_0 : decode cX10_isWell 0 = .ok (.iload_n 0, 1) := by decide +kernel
theorem dX10_isWell_1 : decode cX10_isWell 1 = .ok (.iconst 0, 1) := by decide +kernel
theorem dX10_isWell_2 : decode cX10_isWell 2 = .ok (.bipush 9, 2) := by decide +kernel
theorem dX10_isWell_4 : decode cX10_isWell 4 = .ok (.invokestatic 93, 3) := by decide +kernel
theorem dX10_isWell_7 : decode cX10_isWell 7 = .ok (.ifCond .eq 37, 3) := by decide +kernel
theorem dX10_isWell_10 : decode cX10_isWell 10 = .ok (.iload_n 1, 1) := by decide +kernel
theorem dX10_isWell_11 : decode cX10_isWell 11 = .ok (.iconst 0, 1) := by decide +kernel
theorem dX10_isWell_12 : decode cX10_isWell 12 = .ok (.bipush 7, 2) := by decide +kernel
theorem dX10_isWell_14 : decode cX10_isWell 14 = .ok (.invokestatic 93, 3) := by decide +kernel
theorem dX10_isWell_17 : decode cX10_isWell 17 = .ok (.ifCond .eq 27, 3) := by decide +kernel
theorem dX10_isWell_20 : decode cX10_isWell 20 = .ok (.iload_n 2, 1) := by decide +kernel
theorem dX10_isWell_21 : decode cX10_isWell 21 = .ok (.iconst 0, 1) := by decide +kernel
theorem dX10_isWell_22 : decode cX10_isWell 22 = .ok (.bipush 47, 2) := by decide +kernel
theorem dX10_isWell_24 : decode cX10_isWell 24 = .ok (.invokestatic 93, 3) := by decide +kernel
theorem dX10_isWell_27 : decode cX10_isWell 27 = .ok (.ifCond .eq 17, 3) := by decide +kernel
theorem dX10_isWell_30 : decode cX10_isWell 30 = .ok (.iload_n 3, 1) := by decide +kernel
theorem dX10_isWell_31 : decode cX10_isWell 31 = .ok (.iconst 0, 1) := by decide +kernel
theorem dX10_isWell_32 : decode cX10_isWell 32 = .ok (.bipush 23, 2) := by decide +kernel
theorem dX10_isWell_34 : decode cX10_isWell 34 = .ok (.invokestatic 93, 3) := by decide +kernel
theorem dX10_isWell_37 : decode cX10_isWell 37 = .ok (.ifCond .eq 7, 3) := by decide +kernel
theorem dX10_isWell_40 : decode cX10_isWell 40 = .ok (.iconst 1, 1) := by decide +kernel
theorem dX10_isWell_41 : decode cX10_isWell 41 = .ok (.goto 4, 3) := by decide +kernel
theorem dX10_isWell_44 : decode cX10_isWell 44 = .ok (.iconst 0, 1) := by decide +kernel
theorem dX10_isWell_45 : decode cX10_isWell 45 = .ok (.ireturn, 1) := by decide +kernel
def f_X10_isWell (p0 : Int32) (p1 : Int32) (p2 : Int32) (p3 : Int32) : Option (Int32) := ob (f_X10_in p0 (0 : Int32) (9 : Int32)) (fun v1 => ob (if v1 = 0 then some (0 : Int32) else ob (f_X10_in p1 (0 : Int32) (7 : Int32)) (fun v3 => (if v3 = 0 then some (0 : Int32) else ob (f_X10_in p2 (0 : Int32) (47 : Int32)) (fun v4 => (if v4 = 0 then some (0 : Int32) else ob (f_X10_in p3 (0 : Int32) (23 : Int32)) (fun v5 => (if v5 = 0 then some (0 : Int32) else some (1 : Int32)))))))) (fun v2 => gu (v2 = 0 ∨ v2 = 1) (some v2)))
set_option maxRecDepth 100000 in
set_option maxHeartbeats 4000000 in
theorem c_X10_isWell (p0 : Int32) (p1 : Int32) (p2 : Int32) (p3 : Int32) (s0 : sh_S) (r : Int32) (hf : f_X10_isWell p0 p1 p2 p3 = some r) : Ctr yX10_isWell cX10_isWell 4 (some .boolean) ({ frames := 1, cells := 0, slots := 0, locals := 22 } : Room) shNO [.int p0, .int p1, .int p2, .int p3] s0 (some (.int r)) s0 := by
  refine Ctr.mk (ri := .ireturn) (by decide) (Nat.le_of_ble_eq_true rfl) (Rt_z r) ?_
  intro G h hL hR hret
  refine k_drop (lv' := [(0, .int p0), (1, .int p1), (2, .int p2), (3, .int p3)]) [0, 1, 2, 3] rfl ?_
  unfold f_X10_isWell at hf
  refine k_iload_n (pc := 0) h dX10_isWell_0 rfl 0 rfl ?_
  refine k_iconst (pc := 1) h dX10_isWell_1 kc_iconst_0 ?_
  refine k_bipush (pc := 2) h dX10_isWell_2 kc_bipush_9 ?_
  obtain ⟨v1, cv1, hf⟩ := ob_s hf
  refine k_callSp (pc := 4) h cs_RX10_93 (c_X10_in p0 (0 : Int32) (9 : Int32) _ v1 cv1) rfl rfl (st1 := [.int v1]) rfl ⟨rfl, rfl⟩ (rk hR (Nat.le_of_ble_eq_true rfl) (Nat.le_of_ble_eq_true rfl)) (Nat.le_of_ble_eq_true rfl) dX10_isWell_4 ?_
  obtain ⟨v2, hj, hf⟩ := ob_s hf
  have kj7 : sh_K G shNO 45 [] [.int v2] s0 := by
    obtain ⟨g6, hf⟩ := gu_s hf
    obtain rfl := so1 hf
    exact hret 45 _ dX10_isWell_45 g6
  clear hf
  have hf := hj
  clear hj
  refine k_if_eq (pc := 7) (tgt := 44) h dX10_isWell_7 rfl (fun hc => ?_) (fun hc => ?_)
  · have hf := it_p hc hf
    refine k_iconst (pc := 44) h dX10_isWell_44 kc_iconst_0 ?_
    obtain rfl := so1 hf
    exact k_drop [] rfl kj7
  · have hf := it_n hc hf
    refine k_iload_n (pc := 10) h dX10_isWell_10 rfl 1 rfl ?_
    refine k_iconst (pc := 11) h dX10_isWell_11 kc_iconst_0 ?_
    refine k_bipush (pc := 12) h dX10_isWell_12 kc_bipush_7 ?_
    obtain ⟨v3, cv3, hf⟩ := ob_s hf
    refine k_callSp (pc := 14) h cs_RX10_93 (c_X10_in p1 (0 : Int32) (7 : Int32) _ v3 cv3) rfl rfl (st1 := [.int v3]) rfl ⟨rfl, rfl⟩ (rk hR (Nat.le_of_ble_eq_true rfl) (Nat.le_of_ble_eq_true rfl)) (Nat.le_of_ble_eq_true rfl) dX10_isWell_14 ?_
    refine k_if_eq (pc := 17) (tgt := 44) h dX10_isWell_17 rfl (fun hc => ?_) (fun hc => ?_)
    · have hf := it_p hc hf
      refine k_iconst (pc := 44) h dX10_isWell_44 kc_iconst_0 ?_
      obtain rfl := so1 hf
      exact k_drop [] rfl kj7
    · have hf := it_n hc hf
      refine k_iload_n (pc := 20) h dX10_isWell_20 rfl 2 rfl ?_
      refine k_iconst (pc := 21) h dX10_isWell_21 kc_iconst_0 ?_
      refine k_bipush (pc := 22) h dX10_isWell_22 kc_bipush_47 ?_
      obtain ⟨v4, cv4, hf⟩ := ob_s hf
      refine k_callSp (pc := 24) h cs_RX10_93 (c_X10_in p2 (0 : Int32) (47 : Int32) _ v4 cv4) rfl rfl (st1 := [.int v4]) rfl ⟨rfl, rfl⟩ (rk hR (Nat.le_of_ble_eq_true rfl) (Nat.le_of_ble_eq_true rfl)) (Nat.le_of_ble_eq_true rfl) dX10_isWell_24 ?_
      refine k_if_eq (pc := 27) (tgt := 44) h dX10_isWell_27 rfl (fun hc => ?_) (fun hc => ?_)
      · have hf := it_p hc hf
        refine k_iconst (pc := 44) h dX10_isWell_44 kc_iconst_0 ?_
        obtain rfl := so1 hf
        exact k_drop [] rfl kj7
      · have hf := it_n hc hf
        refine k_iload_n (pc := 30) h dX10_isWell_30 rfl 3 rfl ?_
        refine k_iconst (pc := 31) h dX10_isWell_31 kc_iconst_0 ?_
        refine k_bipush (pc := 32) h dX10_isWell_32 kc_bipush_23 ?_
        obtain ⟨v5, cv5, hf⟩ := ob_s hf
        refine k_callSp (pc := 34) h cs_RX10_93 (c_X10_in p3 (0 : Int32) (23 : Int32) _ v5 cv5) rfl rfl (st1 := [.int v5]) rfl ⟨rfl, rfl⟩ (rk hR (Nat.le_of_ble_eq_true rfl) (Nat.le_of_ble_eq_true rfl)) (Nat.le_of_ble_eq_true rfl) dX10_isWell_34 ?_
        refine k_if_eq (pc := 37) (tgt := 44) h dX10_isWell_37 rfl (fun hc => ?_) (fun hc => ?_)
        · have hf := it_p hc hf
          refine k_iconst (pc := 44) h dX10_isWell_44 kc_iconst_0 ?_
          obtain rfl := so1 hf
          exact k_drop [] rfl kj7
        · have hf := it_n hc hf
          refine k_iconst (pc := 40) h dX10_isWell_40 kc_iconst_1 ?_
          refine k_goto (pc := 41) (tgt := 45) h dX10_isWell_41 rfl ?_
          obtain rfl := so1 hf
          exact k_drop [] rfl kj7
theorem dX10_isSheet_0 : decode cX10_isSheet 0 = .ok (.iload_n 0, 1) := by decide +kernel
theorem dX10_isSheet_1 : decode cX10_isSheet 1 = .ok (.iconst 0, 1) := by decide +kernel
theorem dX10_isSheet_2 : decode cX10_isSheet 2 = .ok (.iconst 3, 1) := by decide +kernel
theorem dX10_isSheet_3 : decode cX10_isSheet 3 = .ok (.invokestatic 93, 3) := by decide +kernel
theorem dX10_isSheet_6 : decode cX10_isSheet 6 = .ok (.ireturn, 1) := by decide +kernel
def f_X10_isSheet (p0 : Int32) : Option (Int32) := ob (f_X10_in p0 (0 : Int32) (3 : Int32)) (fun v1 => gu (v1 = 0 ∨ v1 = 1) (some v1))
set_option maxRecDepth 100000 in
set_option maxHeartbeats 4000000 in
theorem c_X10_isSheet (p0 : Int32) (s0 : sh_S) (r : Int32) (hf : f_X10_isSheet p0 = some r) : Ctr yX10_isSheet cX10_isSheet 1 (some .boolean) ({ frames := 1, cells := 0, slots := 0, locals := 22 } : Room) shNO [.int p0] s0 (some (.int r)) s0 := by
  refine Ctr.mk (ri := .ireturn) (by decide) (Nat.le_of_ble_eq_true rfl) (Rt_z r) ?_
  intro G h hL hR hret
  refine k_drop (lv' := [(0, .int p0)]) [0] rfl ?_
  unfold f_X10_isSheet at hf
  refine k_iload_n (pc := 0) h dX10_isSheet_0 rfl 0 rfl ?_
  refine k_iconst (pc := 1) h dX10_isSheet_1 kc_iconst_0 ?_
  refine k_iconst (pc := 2) h dX10_isSheet_2 kc_iconst_3 ?_
  obtain ⟨v1, cv1, hf⟩ := ob_s hf
  refine k_callSp (pc := 3) h cs_RX10_93 (c_X10_in p0 (0 : Int32) (3 : Int32) _ v1 cv1) rfl rfl (st1 := [.int v1]) rfl ⟨rfl, rfl⟩ (rk hR (Nat.le_of_ble_eq_true rfl) (Nat.le_of_ble_eq_true rfl)) (Nat.le_of_ble_eq_true rfl) dX10_isSheet_3 ?_
  obtain ⟨g2, hf⟩ := gu_s hf
  obtain rfl := so1 hf
  exact hret 6 _ dX10_isSheet_6 g2
theorem dX10_variable_0 : decode cX10_variable 0 = .ok (.iload_n 0, 1) := by decide +kernel
theorem dX10_variable_1 : decode cX10_variable 1 = .ok (.bipush 6, 2) := by decide +kernel
theorem dX10_variable_3 : decode cX10_variable 3 = .ok (.idiv, 1) := by decide +kernel
theorem dX10_variable_4 : decode cX10_variable 4 = .ok (.ireturn, 1) := by decide +kernel
def f_X10_variable (p0 : Int32) : Option (Int32) := some (p0 / (6 : Int32))
set_option maxRecDepth 100000 in
set_option maxHeartbeats 4000000 in
theorem c_X10_variable (p0 : Int32) (s0 : sh_S) (r : Int32) (hf : f_X10_variable p0 = some r) : Ctr yX10_variable cX10_variable 1 (some .int) ({ frames := 0, cells := 0, slots := 0, locals := 0 } : Room) shNO [.int p0] s0 (some (.int r)) s0 := by
  refine Ctr.mk (ri := .ireturn) (by decide) (Nat.le_of_ble_eq_true rfl) (Rt_i r) ?_
  intro G h hL hR hret
  refine k_drop (lv' := [(0, .int p0)]) [0] rfl ?_
  unfold f_X10_variable at hf
  refine k_iload_n (pc := 0) h dX10_variable_0 rfl 0 rfl ?_
  refine k_bipush (pc := 1) h dX10_variable_1 kc_bipush_6 ?_
  refine k_idiv (pc := 3) h dX10_variable_3 (by decide) ?_
  obtain rfl := so1 hf
  exact hret 4 _ dX10_variable_4 trivial
theorem dX10_through_0 : decode cX10_through 0 = .ok (.iload_n 0, 1) := by decide +kernel
theorem dX10_through_1 : decode cX10_through 1 = .ok (.bipush 6, 2) := by decide +kernel
theorem dX10_through_3 : decode cX10_through 3 = .ok (.irem, 1) := by decide +kernel
theorem dX10_through_4 : decode cX10_through 4 = .ok (.iconst 3, 1) := by decide +kernel
theorem dX10_through_5 : decode cX10_through 5 = .ok (.if_icmp .lt 7, 3) := by decide +kernel
theorem dX10_through_8 : decode cX10_through 8 = .ok (.iconst 1, 1) := by decide +kernel
theorem dX10_through_9 : decode cX10_through 9 = .ok (.goto 4, 3) := by decide +kernel
theorem dX10_through_12 : decode cX10_through 12 = .ok (.iconst 0, 1) := by decide +kernel
theorem dX10_through_13 : decode cX10_through 13 = .ok (.ireturn, 1) := by decide +kernel
def f_X10_through (p0 : Int32) : Option (Int32) := ob (if (p0 - p0 / (6 : Int32) * (6 : Int32)) < (3 : Int32) then some (0 : Int32) else some (1 : Int32)) (fun v1 => gu (v1 = 0 ∨ v1 = 1) (some v1))
set_option maxRecDepth 100000 in
set_option maxHeartbeats 4000000 in
theorem c_X10_through (p0 : Int32) (s0 : sh_S) (r : Int32) (hf : f_X10_through p0 = some r) : Ctr yX10_through cX10_through 1 (some .boolean) ({ frames := 0, cells := 0, slots := 0, locals := 0 } : Room) shNO [.int p0] s0 (some (.int r)) s0 := by
  refine Ctr.mk (ri := .ireturn) (by decide) (Nat.le_of_ble_eq_true rfl) (Rt_z r) ?_
  intro G h hL hR hret
  refine k_drop (lv' := [(0, .int p0)]) [0] rfl ?_
  unfold f_X10_through at hf
  refine k_iload_n (pc := 0) h dX10_through_0 rfl 0 rfl ?_
  refine k_bipush (pc := 1) h dX10_through_1 kc_bipush_6 ?_
  refine k_irem (pc := 3) h dX10_through_3 (by decide) ?_
  refine k_iconst (pc := 4) h dX10_through_4 kc_iconst_3 ?_
  obtain ⟨v1, hj, hf⟩ := ob_s hf
  have kj5 : sh_K G shNO 13 [] [.int v1] s0 := by
    obtain ⟨g2, hf⟩ := gu_s hf
    obtain rfl := so1 hf
    exact hret 13 _ dX10_through_13 g2
  clear hf
  have hf := hj
  clear hj
  refine k_icmp_lt (pc := 5) (tgt := 12) h dX10_through_5 rfl (fun hc => ?_) (fun hc => ?_)
  · have hf := it_p hc hf
    refine k_iconst (pc := 12) h dX10_through_12 kc_iconst_0 ?_
    obtain rfl := so1 hf
    exact k_drop [] rfl kj5
  · have hf := it_n hc hf
    refine k_iconst (pc := 8) h dX10_through_8 kc_iconst_1 ?_
    refine k_goto (pc := 9) (tgt := 13) h dX10_through_9 rfl ?_
    obtain rfl := so1 hf
    exact k_drop [] rfl kj5
theorem dX10_contains_0 : decode cX10_contains 0 = .ok (.iload_n 0, 1) := by decide +kernel
theorem dX10_contains_1 : decode cX10_contains 1 = .ok (.iload_n 1, 1) := by decide +kernel
theorem dX10_contains_2 : decode cX10_contains 2 = .ok (.if_icmp .eq 17, 3) := by decide +kernel
theorem dX10_contains_5 : decode cX10_contains 5 = .ok (.iload_n 0, 1) := by decide +kernel
theorem dX10_contains_6 : decode cX10_contains 6 = .ok (.ifCond .eq 13, 3) := by decide +kernel
theorem dX10_contains_9 : decode cX10_contains 9 = .ok (.iload_n 0, 1) := by decide +kernel
theorem dX10_contains_10 : decode cX10_contains 10 = .ok (.iconst 3, 1) := by decide +kernel
theorem dX10_contains_11 : decode cX10_contains 11 = .ok (.if_icmp .lt 12, 3) := by decide +kernel
theorem dX10_contains_14 : decode cX10_contains 14 = .ok (.iload_n 1, 1) := by decide +kernel
theorem dX10_contains_15 : decode cX10_contains 15 = .ok (.iconst 3, 1) := by decide +kernel
theorem dX10_contains_16 : decode cX10_contains 16 = .ok (.if_icmp .lt 7, 3) := by decide +kernel
theorem dX10_contains_19 : decode cX10_contains 19 = .ok (.iconst 1, 1) := by decide +kernel
theorem dX10_contains_20 : decode cX10_contains 20 = .ok (.goto 4, 3) := by decide +kernel
theorem dX10_contains_23 : decode cX10_contains 23 = .ok (.iconst 0, 1) := by decide +kernel
theorem dX10_contains_24 : decode cX10_contains 24 = .ok (.ireturn, 1) := by decide +kernel
def f_X10_contains (p0 : Int32) (p1 : Int32) : Option (Int32) := ob (if p0 = p1 then some (1 : Int32) else (if p0 = 0 then some (1 : Int32) else (if p0 < (3 : Int32) then some (0 : Int32) else (if p1 < (3 : Int32) then some (0 : Int32) else some (1 : Int32))))) (fun v1 => gu (v1 = 0 ∨ v1 = 1) (some v1))
set_option maxRecDepth 100000 in
set_option maxHeartbeats 4000000 in
theorem c_X10_contains (p0 : Int32) (p1 : Int32) (s0 : sh_S) (r : Int32) (hf : f_X10_contains p0 p1 = some r) : Ctr yX10_contains cX10_contains 2 (some .boolean) ({ frames := 0, cells := 0, slots := 0, locals := 0 } : Room) shNO [.int p0, .int p1] s0 (some (.int r)) s0 := by
  refine Ctr.mk (ri := .ireturn) (by decide) (Nat.le_of_ble_eq_true rfl) (Rt_z r) ?_
  intro G h hL hR hret
  refine k_drop (lv' := [(0, .int p0), (1, .int p1)]) [0, 1] rfl ?_
  unfold f_X10_contains at hf
  refine k_iload_n (pc := 0) h dX10_contains_0 rfl 0 rfl ?_
  refine k_iload_n (pc := 1) h dX10_contains_1 rfl 1 rfl ?_
  obtain ⟨v1, hj, hf⟩ := ob_s hf
  have kj2 : sh_K G shNO 24 [] [.int v1] s0 := by
    obtain ⟨g2, hf⟩ := gu_s hf
    obtain rfl := so1 hf
    exact hret 24 _ dX10_contains_24 g2
  clear hf
  have hf := hj
  clear hj
  refine k_icmp_eq (pc := 2) (tgt := 19) h dX10_contains_2 rfl (fun hc => ?_) (fun hc => ?_)
  · have hf := it_p hc hf
    refine k_iconst (pc := 19) h dX10_contains_19 kc_iconst_1 ?_
    refine k_goto (pc := 20) (tgt := 24) h dX10_contains_20 rfl ?_
    obtain rfl := so1 hf
    exact k_drop [] rfl kj2
  · have hf := it_n hc hf
    refine k_iload_n (pc := 5) h dX10_contains_5 rfl 0 rfl ?_
    refine k_if_eq (pc := 6) (tgt := 19) h dX10_contains_6 rfl (fun hc => ?_) (fun hc => ?_)
    · have hf := it_p hc hf
      refine k_iconst (pc := 19) h dX10_contains_19 kc_iconst_1 ?_
      refine k_goto (pc := 20) (tgt := 24) h dX10_contains_20 rfl ?_
      obtain rfl := so1 hf
      exact k_drop [] rfl kj2
    · have hf := it_n hc hf
      refine k_iload_n (pc := 9) h dX10_contains_9 rfl 0 rfl ?_
      refine k_iconst (pc := 10) h dX10_contains_10 kc_iconst_3 ?_
      refine k_icmp_lt (pc := 11) (tgt := 23) h dX10_contains_11 rfl (fun hc => ?_) (fun hc => ?_)
      · have hf := it_p hc hf
        refine k_iconst (pc := 23) h dX10_contains_23 kc_iconst_0 ?_
        obtain rfl := so1 hf
        exact k_drop [] rfl kj2
      · have hf := it_n hc hf
        refine k_iload_n (pc := 14) h dX10_contains_14 rfl 1 rfl ?_
        refine k_iconst (pc := 15) h dX10_contains_15 kc_iconst_3 ?_
        refine k_icmp_lt (pc := 16) (tgt := 23) h dX10_contains_16 rfl (fun hc => ?_) (fun hc => ?_)
        · have hf := it_p hc hf
          refine k_iconst (pc := 23) h dX10_contains_23 kc_iconst_0 ?_
          obtain rfl := so1 hf
          exact k_drop [] rfl kj2
        · have hf := it_n hc hf
          refine k_iconst (pc := 19) h dX10_contains_19 kc_iconst_1 ?_
          refine k_goto (pc := 20) (tgt := 24) h dX10_contains_20 rfl ?_
          obtain rfl := so1 hf
          exact k_drop [] rfl kj2
theorem dX10_overlap_0 : decode cX10_overlap 0 = .ok (.iload_n 0, 1) := by decide +kernel
theorem dX10_overlap_1 : decode cX10_overlap 1 = .ok (.invokestatic 128, 3) := by decide +kernel
theorem dX10_overlap_4 : decode cX10_overlap 4 = .ok (.iload_n 1, 1) := by decide +kernel
theorem dX10_overlap_5 : decode cX10_overlap 5 = .ok (.invokestatic 128, 3) := by decide +kernel
theorem dX10_overlap_8 : decode cX10_overlap 8 = .ok (.if_icmp .ne 35, 3) := by decide +kernel
theorem dX10_overlap_11 : decode cX10_overlap 11 = .ok (.iload_n 0, 1) := by decide +kernel
theorem dX10_overlap_12 : decode cX10_overlap 12 = .ok (.bipush 6, 2) := by decide +kernel
theorem dX10_overlap_14 : decode cX10_overlap 14 = .ok (.irem, 1) := by decide +kernel
theorem dX10_overlap_15 : decode cX10_overlap 15 = .ok (.iload_n 1, 1) := by decide +kernel
theorem dX10_overlap_16 : decode cX10_overlap 16 = .ok (.bipush 6, 2) := by decide +kernel
theorem dX10_overlap_18 : decode cX10_overlap 18 = .ok (.irem, 1) := by decide +kernel
theorem dX10_overlap_19 : decode cX10_overlap 19 = .ok (.invokestatic 131, 3) := by decide +kernel
theorem dX10_overlap_22 : decode cX10_overlap 22 = .ok (.ifCond .ne 17, 3) := by decide +kernel
theorem dX10_overlap_25 : decode cX10_overlap 25 = .ok (.iload_n 1, 1) := by decide +kernel
theorem dX10_overlap_26 : decode cX10_overlap 26 = .ok (.bipush 6, 2) := by decide +kernel
theorem dX10_overlap_28 : decode cX10_overlap 28 = .ok (.irem, 1) := by decide +kernel
theorem dX10_overlap_29 : decode cX10_overlap 29 = .ok (.iload_n 0, 1) := by decide +kernel
theorem dX10_overlap_30 : decode cX10_overlap 30 = .ok (.bipush 6, 2) := by decide +kernel
theorem dX10_overlap_32 : decode cX10_overlap 32 = .ok (.irem, 1) := by decide +kernel
theorem dX10_overlap_33 : decode cX10_overlap 33 = .ok (.invokestatic 131, 3) := by decide +kernel
theorem dX10_overlap_36 : decode cX10_overlap 36 = .ok (.ifCond .eq 7, 3) := by decide +kernel
theorem dX10_overlap_39 : decode cX10_overlap 39 = .ok (.iconst 1, 1) := by decide +kernel
theorem dX10_overlap_40 : decode cX10_overlap 40 = .ok (.goto 4, 3) := by decide +kernel
theorem dX10_overlap_43 : decode cX10_overlap 43 = .ok (.iconst 0, 1) := by decide +kernel
theorem dX10_overlap_44 : decode cX10_overlap 44 = .ok (.ireturn, 1) := by decide +kernel
def f_X10_overlap (p0 : Int32) (p1 : Int32) : Option (Int32) := ob (f_X10_variable p0) (fun v1 => ob (f_X10_variable p1) (fun v2 => ob (if v1 = v2 then ob (f_X10_contains (p0 - p0 / (6 : Int32) * (6 : Int32)) (p1 - p1 / (6 : Int32) * (6 : Int32))) (fun v4 => (if v4 = 0 then ob (f_X10_contains (p1 - p1 / (6 : Int32) * (6 : Int32)) (p0 - p0 / (6 : Int32) * (6 : Int32))) (fun v5 => (if v5 = 0 then some (0 : Int32) else some (1 : Int32))) else some (1 : Int32))) else some (0 : Int32)) (fun v3 => gu (v3 = 0 ∨ v3 = 1) (some v3))))
set_option maxRecDepth 100000 in
set_option maxHeartbeats 4000000 in
theorem c_X10_overlap (p0 : Int32) (p1 : Int32) (s0 : sh_S) (r : Int32) (hf : f_X10_overlap p0 p1 = some r) : Ctr yX10_overlap cX10_overlap 2 (some .boolean) ({ frames := 1, cells := 0, slots := 0, locals := 21 } : Room) shNO [.int p0, .int p1] s0 (some (.int r)) s0 := by
  refine Ctr.mk (ri := .ireturn) (by decide) (Nat.le_of_ble_eq_true rfl) (Rt_z r) ?_
  intro G h hL hR hret
  refine k_drop (lv' := [(0, .int p0), (1, .int p1)]) [0, 1] rfl ?_
  unfold f_X10_overlap at hf
  refine k_iload_n (pc := 0) h dX10_overlap_0 rfl 0 rfl ?_
  obtain ⟨v1, cv1, hf⟩ := ob_s hf
  refine k_callSp (pc := 1) h cs_RX10_128 (c_X10_variable p0 _ v1 cv1) rfl rfl (st1 := [.int v1]) rfl ⟨rfl, rfl⟩ (rk hR (Nat.le_of_ble_eq_true rfl) (Nat.le_of_ble_eq_true rfl)) (Nat.le_of_ble_eq_true rfl) dX10_overlap_1 ?_
  refine k_iload_n (pc := 4) h dX10_overlap_4 rfl 1 rfl ?_
  obtain ⟨v2, cv2, hf⟩ := ob_s hf
  refine k_callSp (pc := 5) h cs_RX10_128 (c_X10_variable p1 _ v2 cv2) rfl rfl (st1 := [.int v2, .int v1]) rfl ⟨rfl, rfl⟩ (rk hR (Nat.le_of_ble_eq_true rfl) (Nat.le_of_ble_eq_true rfl)) (Nat.le_of_ble_eq_true rfl) dX10_overlap_5 ?_
  obtain ⟨v3, hj, hf⟩ := ob_s hf
  have kj8 : sh_K G shNO 44 [] [.int v3] s0 := by
    obtain ⟨g6, hf⟩ := gu_s hf
    obtain rfl := so1 hf
    exact hret 44 _ dX10_overlap_44 g6
  clear hf
  have hf := hj
  clear hj
  refine k_icmp_ne (pc := 8) (tgt := 43) h dX10_overlap_8 rfl (fun hc => ?_) (fun hc => ?_)
  · have hf := it_n hc hf
    refine k_iconst (pc := 43) h dX10_overlap_43 kc_iconst_0 ?_
    obtain rfl := so1 hf
    exact k_drop [] rfl kj8
  · have hf := it_p hc hf
    refine k_iload_n (pc := 11) h dX10_overlap_11 rfl 0 rfl ?_
    refine k_bipush (pc := 12) h dX10_overlap_12 kc_bipush_6 ?_
    refine k_irem (pc := 14) h dX10_overlap_14 (by decide) ?_
    refine k_iload_n (pc := 15) h dX10_overlap_15 rfl 1 rfl ?_
    refine k_bipush (pc := 16) h dX10_overlap_16 kc_bipush_6 ?_
    refine k_irem (pc := 18) h dX10_overlap_18 (by decide) ?_
    obtain ⟨v4, cv4, hf⟩ := ob_s hf
    refine k_callSp (pc := 19) h cs_RX10_131 (c_X10_contains (p0 - p0 / (6 : Int32) * (6 : Int32)) (p1 - p1 / (6 : Int32) * (6 : Int32)) _ v4 cv4) rfl rfl (st1 := [.int v4]) rfl ⟨rfl, rfl⟩ (rk hR (Nat.le_of_ble_eq_true rfl) (Nat.le_of_ble_eq_true rfl)) (Nat.le_of_ble_eq_true rfl) dX10_overlap_19 ?_
    refine k_if_ne (pc := 22) (tgt := 39) h dX10_overlap_22 rfl (fun hc => ?_) (fun hc => ?_)
    · have hf := it_n hc hf
      refine k_iconst (pc := 39) h dX10_overlap_39 kc_iconst_1 ?_
      refine k_goto (pc := 40) (tgt := 44) h dX10_overlap_40 rfl ?_
      obtain rfl := so1 hf
      exact k_drop [] rfl kj8
    · have hf := it_p hc hf
      refine k_iload_n (pc := 25) h dX10_overlap_25 rfl 1 rfl ?_
      refine k_bipush (pc := 26) h dX10_overlap_26 kc_bipush_6 ?_
      refine k_irem (pc := 28) h dX10_overlap_28 (by decide) ?_
      refine k_iload_n (pc := 29) h dX10_overlap_29 rfl 0 rfl ?_
      refine k_bipush (pc := 30) h dX10_overlap_30 kc_bipush_6 ?_
      refine k_irem (pc := 32) h dX10_overlap_32 (by decide) ?_
      obtain ⟨v5, cv5, hf⟩ := ob_s hf
      refine k_callSp (pc := 33) h cs_RX10_131 (c_X10_contains (p1 - p1 / (6 : Int32) * (6 : Int32)) (p0 - p0 / (6 : Int32) * (6 : Int32)) _ v5 cv5) rfl rfl (st1 := [.int v5]) rfl ⟨rfl, rfl⟩ (rk hR (Nat.le_of_ble_eq_true rfl) (Nat.le_of_ble_eq_true rfl)) (Nat.le_of_ble_eq_true rfl) dX10_overlap_33 ?_
      refine k_if_eq (pc := 36) (tgt := 43) h dX10_overlap_36 rfl (fun hc => ?_) (fun hc => ?_)
      · have hf := it_p hc hf
        refine k_iconst (pc := 43) h dX10_overlap_43 kc_iconst_0 ?_
        obtain rfl := so1 hf
        exact k_drop [] rfl kj8
      · have hf := it_n hc hf
        refine k_iconst (pc := 39) h dX10_overlap_39 kc_iconst_1 ?_
        refine k_goto (pc := 40) (tgt := 44) h dX10_overlap_40 rfl ?_
        obtain rfl := so1 hf
        exact k_drop [] rfl kj8
