theorem dX10_in_0 : decode cX10_in 0 = .ok (.iload_n 0, 1) := by decide +kernel
theorem dX10_in_1 : decode cX10_in 1 = .ok (.iload_n 1, 1) := by decide +kernel
theorem dX10_in_2 : decode cX10_in 2 = .ok (.if_icmp .lt 12, 3) := by decide +kernel
theorem dX10_in_5 : decode cX10_in 5 = .ok (.iload_n 0, 1) := by decide +kernel
theorem dX10_in_6 : decode cX10_in 6 = .ok (.iload_n 2, 1) := by decide +kernel
theorem dX10_in_7 : decode cX10_in 7 = .ok (.if_icmp .gt 7, 3) := by decide +kernel
theorem dX10_in_10 : decode cX10_in 10 = .ok (.iconst 1, 1) := by decide +kernel
theorem dX10_in_11 : decode cX10_in 11 = .ok (.goto 4, 3) := by decide +kernel
theorem dX10_in_14 : decode cX10_in 14 = .ok (.iconst 0, 1) := by decide +kernel
theorem dX10_in_15 : decode cX10_in 15 = .ok (.ireturn, 1) := by decide +kernel
def f_X10_in (p0 : Int32) (p1 : Int32) (p2 : Int32) : Option (Int32) := ob (if p0 < p1 then some (0 : Int32) else (if p2 < p0 then some (0 : Int32) else some (1 : Int32))) (fun v1 => gu (v1 = 0 ∨ v1 = 1) (some v1))
set_option maxRecDepth 100000 in
set_option maxHeartbeats 4000000 in
theorem c_X10_in (p0 : Int32) (p1 : Int32) (p2 : Int32) (s0 : sh_S) (r : Int32) (hf : f_X10_in p0 p1 p2 = some r) : Ctr yX10_in cX10_in 3 (some .boolean) ({ frames := 0, cells := 0, slots := 0, locals := 0 } : Room) shNO [.int p0, .int p1, .int p2] s0 (some (.int r)) s0 := by
  refine Ctr.mk (ri := .ireturn) (by decide) (Nat.le_of_ble_eq_true rfl) (Rt_z r) ?_
  intro G h hL hR hret
  refine k_drop (lv' := [(0, .int p0), (1, .int p1), (2, .int p2)]) [0, 1, 2] rfl ?_
  unfold f_X10_in at hf
  refine k_iload_n (pc := 0) h dX10_in_0 rfl 0 rfl ?_
  refine k_iload_n (pc := 1) h dX10_in_1 rfl 1 rfl ?_
  obtain ⟨v1, hj, hf⟩ := ob_s hf
  have kj2 : sh_K G shNO 15 [] [.int v1] s0 := by
    obtain ⟨g2, hf⟩ := gu_s hf
    cases hf
    exact hret 15 _ dX10_in_15 g2
  clear hf
  have hf := hj
  clear hj
  refine k_icmp_lt (pc := 2) (tgt := 14) h dX10_in_2 rfl (fun hc => ?_) (fun hc => ?_)
  · have hf := it_p hc hf
    refine k_iconst (pc := 14) h dX10_in_14 kc_iconst_0 ?_
    cases hf
    exact k_drop [] rfl kj2
  · have hf := it_n hc hf
    refine k_iload_n (pc := 5) h dX10_in_5 rfl 0 rfl ?_
    refine k_iload_n (pc := 6) h dX10_in_6 rfl 2 rfl ?_
    refine k_icmp_gt (pc := 7) (tgt := 14) h dX10_in_7 rfl (fun hc => ?_) (fun hc => ?_)
    · have hf := it_p hc hf
      refine k_iconst (pc := 14) h dX10_in_14 kc_iconst_0 ?_
      cases hf
      exact k_drop [] rfl kj2
    · have hf := it_n hc hf
      refine k_iconst (pc := 10) h dX10_in_10 kc_iconst_1 ?_
      refine k_goto (pc := 11) (tgt := 15) h dX10_in_11 rfl ?_
      cases hf
      exact k_drop [] rfl kj2
theorem dX10_isIn_0 : decode cX10_isIn 0 = .ok (.iload_n 0, 1) := by decide +kernel
theorem dX10_isIn_1 : decode cX10_isIn 1 = .ok (.iload_n 1, 1) := by decide +kernel
theorem dX10_isIn_2 : decode cX10_isIn 2 = .ok (.ishr, 1) := by decide +kernel
theorem dX10_isIn_3 : decode cX10_isIn 3 = .ok (.iconst 1, 1) := by decide +kernel
theorem dX10_isIn_4 : decode cX10_isIn 4 = .ok (.iand, 1) := by decide +kernel
theorem dX10_isIn_5 : decode cX10_isIn 5 = .ok (.iconst 1, 1) := by decide +kernel
theorem dX10_isIn_6 : decode cX10_isIn 6 = .ok (.if_icmp .ne 7, 3) := by decide +kernel
theorem dX10_isIn_9 : decode cX10_isIn 9 = .ok (.iconst 1, 1) := by decide +kernel
theorem dX10_isIn_10 : decode cX10_isIn 10 = .ok (.goto 4, 3) := by decide +kernel
theorem dX10_isIn_13 : decode cX10_isIn 13 = .ok (.iconst 0, 1) := by decide +kernel
theorem dX10_isIn_14 : decode cX10_isIn 14 = .ok (.ireturn, 1) := by decide +kernel
def f_X10_isIn (p0 : Int32) (p1 : Int32) : Option (Int32) := ob (if ((p0 >>> (p1 &&& 31)) &&& (1 : Int32)) = (1 : Int32) then some (1 : Int32) else some (0 : Int32)) (fun v1 => gu (v1 = 0 ∨ v1 = 1) (some v1))
set_option maxRecDepth 100000 in
set_option maxHeartbeats 4000000 in
theorem c_X10_isIn (p0 : Int32) (p1 : Int32) (s0 : sh_S) (r : Int32) (hf : f_X10_isIn p0 p1 = some r) : Ctr yX10_isIn cX10_isIn 2 (some .boolean) ({ frames := 0, cells := 0, slots := 0, locals := 0 } : Room) shNO [.int p0, .int p1] s0 (some (.int r)) s0 := by
  refine Ctr.mk (ri := .ireturn) (by decide) (Nat.le_of_ble_eq_true rfl) (Rt_z r) ?_
  intro G h hL hR hret
  refine k_drop (lv' := [(0, .int p0), (1, .int p1)]) [0, 1] rfl ?_
  unfold f_X10_isIn at hf
  refine k_iload_n (pc := 0) h dX10_isIn_0 rfl 0 rfl ?_
  refine k_iload_n (pc := 1) h dX10_isIn_1 rfl 1 rfl ?_
  refine k_ishr (pc := 2) h dX10_isIn_2 ?_
  refine k_iconst (pc := 3) h dX10_isIn_3 kc_iconst_1 ?_
  refine k_iand (pc := 4) h dX10_isIn_4 ?_
  refine k_iconst (pc := 5) h dX10_isIn_5 kc_iconst_1 ?_
  obtain ⟨v1, hj, hf⟩ := ob_s hf
  have kj6 : sh_K G shNO 14 [] [.int v1] s0 := by
    obtain ⟨g2, hf⟩ := gu_s hf
    cases hf
    exact hret 14 _ dX10_isIn_14 g2
  clear hf
  have hf := hj
  clear hj
  refine k_icmp_ne (pc := 6) (tgt := 13) h dX10_isIn_6 rfl (fun hc => ?_) (fun hc => ?_)
  · have hf := it_n hc hf
    refine k_iconst (pc := 13) h dX10_isIn_13 kc_iconst_0 ?_
    cases hf
    exact k_drop [] rfl kj6
  · have hf := it_p hc hf
    refine k_iconst (pc := 9) h dX10_isIn_9 kc_iconst_1 ?_
    refine k_goto (pc := 10) (tgt := 14) h dX10_isIn_10 rfl ?_
    cases hf
    exact k_drop [] rfl kj6
theorem dX10_many_0 : decode cX10_many 0 = .ok (.iconst 0, 1) := by decide +kernel
theorem dX10_many_1 : decode cX10_many 1 = .ok (.istore_n 1, 1) := by decide +kernel
theorem dX10_many_2 : decode cX10_many 2 = .ok (.iconst 0, 1) := by decide +kernel
theorem dX10_many_3 : decode cX10_many 3 = .ok (.istore_n 2, 1) := by decide +kernel
theorem dX10_many_4 : decode cX10_many 4 = .ok (.iload_n 2, 1) := by decide +kernel
theorem dX10_many_5 : decode cX10_many 5 = .ok (.bipush 24, 2) := by decide +kernel
theorem dX10_many_7 : decode cX10_many 7 = .ok (.if_icmp .ge 25, 3) := by decide +kernel
theorem dX10_many_10 : decode cX10_many 10 = .ok (.iload_n 1, 1) := by decide +kernel
theorem dX10_many_11 : decode cX10_many 11 = .ok (.iload_n 0, 1) := by decide +kernel
theorem dX10_many_12 : decode cX10_many 12 = .ok (.iload_n 2, 1) := by decide +kernel
theorem dX10_many_13 : decode cX10_many 13 = .ok (.invokestatic 89, 3) := by decide +kernel
theorem dX10_many_16 : decode cX10_many 16 = .ok (.ifCond .eq 7, 3) := by decide +kernel
theorem dX10_many_19 : decode cX10_many 19 = .ok (.iconst 1, 1) := by decide +kernel
theorem dX10_many_20 : decode cX10_many 20 = .ok (.goto 4, 3) := by decide +kernel
theorem dX10_many_23 : decode cX10_many 23 = .ok (.iconst 0, 1) := by decide +kernel
theorem dX10_many_24 : decode cX10_many 24 = .ok (.iadd, 1) := by decide +kernel
theorem dX10_many_25 : decode cX10_many 25 = .ok (.istore_n 1, 1) := by decide +kernel
theorem dX10_many_26 : decode cX10_many 26 = .ok (.iinc 2 1, 3) := by decide +kernel
theorem dX10_many_29 : decode cX10_many 29 = .ok (.goto (-25), 3) := by decide +kernel
theorem dX10_many_32 : decode cX10_many 32 = .ok (.iload_n 1, 1) := by decide +kernel
theorem dX10_many_33 : decode cX10_many 33 = .ok (.ireturn, 1) := by decide +kernel
def f_X10_many_L4 (p0 : Int32) (v1 : Int32) (v2 : Int32) : Option ((Int32 × Int32) ⊕ (Int32)) := (if (24 : Int32) ≤ v2 then some (.inr v1) else ob (f_X10_isIn p0 v2) (fun v4 => ob (if v4 = 0 then some (0 : Int32) else some (1 : Int32)) (fun v5 => lb ((v1 + v5)) (fun v6 => lb (v2 + (1 : Int32)) (fun v7 => some (.inl (v6, v7)))))))
def f_X10_many (p0 : Int32) : Option (Int32) := ob (lp (fun q => f_X10_many_L4 p0 q.1 q.2) FU ((0 : Int32), (0 : Int32))) (fun v3 => some v3)
set_option maxRecDepth 100000 in
set_option maxHeartbeats 4000000 in
theorem c_X10_many (p0 : Int32) (s0 : sh_S) (r : Int32) (hf : f_X10_many p0 = some r) : Ctr yX10_many cX10_many 3 (some .int) ({ frames := 1, cells := 0, slots := 0, locals := 21 } : Room) shNO [.int p0] s0 (some (.int r)) s0 := by
  refine Ctr.mk (ri := .ireturn) (by decide) (Nat.le_of_ble_eq_true rfl) (Rt_i r) ?_
  intro G h hL hR hret
  refine k_drop (lv' := [(0, .int p0)]) [0] rfl ?_
  unfold f_X10_many at hf
  refine k_iconst (pc := 0) h dX10_many_0 kc_iconst_0 ?_
  refine k_istore_n (pc := 1) h dX10_many_1 rfl (nk hL (by decide)) (lv' := [(0, .int p0), (1, .int (0 : Int32))]) rfl ?_
  refine k_iconst (pc := 2) h dX10_many_2 kc_iconst_0 ?_
  refine k_istore_n (pc := 3) h dX10_many_3 rfl (nk hL (by decide)) (lv' := [(0, .int p0), (1, .int (0 : Int32)), (2, .int (0 : Int32))]) rfl ?_
  obtain ⟨v3, hl, hf⟩ := ob_s hf
  refine k_drop (lv' := [(0, .int p0), (1, .int (0 : Int32)), (2, .int (0 : Int32))]) [0, 1, 2] rfl ?_
  refine lp_s (P := (fun q : Int32 × Int32 => sh_K G shNO 4 [(0, .int p0), (1, .int q.1), (2, .int q.2)] [] s0)) (Q := (fun q : Int32 => sh_K G shNO 32 [(1, .int q)] [] s0)) (s := ((0 : Int32), (0 : Int32))) ?_ hl ?_
  · clear hf hl
    intro q rr hf kc4
    obtain ⟨v1, v2⟩ := q
    have hf : f_X10_many_L4 p0 v1 v2 = some rr := hf
    unfold f_X10_many_L4 at hf
    refine k_iload_n (pc := 4) h dX10_many_4 rfl 2 rfl ?_
    refine k_bipush (pc := 5) h dX10_many_5 kc_bipush_24 ?_
    refine k_icmp_ge (pc := 7) (tgt := 32) h dX10_many_7 rfl (fun hc => ?_) (fun hc => ?_)
    · have hf := it_p hc hf
      cases hf
      exact k_drop [1] rfl kc4
    · have hf := it_n hc hf
      refine k_iload_n (pc := 10) h dX10_many_10 rfl 1 rfl ?_
      refine k_iload_n (pc := 11) h dX10_many_11 rfl 0 rfl ?_
      refine k_iload_n (pc := 12) h dX10_many_12 rfl 2 rfl ?_
      obtain ⟨v4, cv4, hf⟩ := ob_s hf
      refine k_callSp (pc := 13) h cs_RX10_89 (c_X10_isIn p0 v2 _ v4 cv4) rfl rfl (st1 := [.int v4, .int v1]) rfl ⟨rfl, rfl⟩ (rk hR (Nat.le_of_ble_eq_true rfl) (Nat.le_of_ble_eq_true rfl)) (Nat.le_of_ble_eq_true rfl) dX10_many_13 ?_
      obtain ⟨v5, hj, hf⟩ := ob_s hf
      have kj16 : sh_K G shNO 24 [(0, .int p0), (2, .int v2)] [.int v5, .int v1] s0 := by
        refine k_iadd (pc := 24) h dX10_many_24 ?_
        obtain ⟨v6, ev6, hf⟩ := lb_s hf
        refine k_top ev6 ?_
        refine k_istore_n (pc := 25) h dX10_many_25 rfl (nk hL (by decide)) (lv' := [(0, .int p0), (1, .int v6), (2, .int v2)]) rfl ?_
        obtain ⟨v7, ev7, hf⟩ := lb_s hf
        refine k_iinc (pc := 26) h dX10_many_26 2 rfl ((congrArg (_ + ·) kc_iconst_1).trans ev7.symm) (nk hL (by decide)) (lv' := [(0, .int p0), (1, .int v6), (2, .int v7)]) rfl ?_
        refine k_goto (pc := 29) (tgt := 4) h dX10_many_29 rfl ?_
        cases hf
        exact k_drop [0, 1, 2] rfl kc4
      clear hf
      have hf := hj
      clear hj
      refine k_if_eq (pc := 16) (tgt := 23) h dX10_many_16 rfl (fun hc => ?_) (fun hc => ?_)
      · have hf := it_p hc hf
        refine k_iconst (pc := 23) h dX10_many_23 kc_iconst_0 ?_
        cases hf
        exact k_drop [0, 2] rfl kj16
      · have hf := it_n hc hf
        refine k_iconst (pc := 19) h dX10_many_19 kc_iconst_1 ?_
        refine k_goto (pc := 20) (tgt := 24) h dX10_many_20 rfl ?_
        cases hf
        exact k_drop [0, 2] rfl kj16
  · refine k_iload_n (pc := 32) h dX10_many_32 rfl 0 rfl ?_
    cases hf
    exact hret 33 _ dX10_many_33 trivial
theorem dX9_hasBit_0 : decode cX9_hasBit 0 = .ok (.iload_n 0, 1) := by decide +kernel
theorem dX9_hasBit_1 : decode cX9_hasBit 1 = .ok (.iload_n 1, 1) := by decide +kernel
theorem dX9_hasBit_2 : decode cX9_hasBit 2 = .ok (.ishr, 1) := by decide +kernel
theorem dX9_hasBit_3 : decode cX9_hasBit 3 = .ok (.iconst 1, 1) := by decide +kernel
theorem dX9_hasBit_4 : decode cX9_hasBit 4 = .ok (.iand, 1) := by decide +kernel
theorem dX9_hasBit_5 : decode cX9_hasBit 5 = .ok (.iconst 1, 1) := by decide +kernel
theorem dX9_hasBit_6 : decode cX9_hasBit 6 = .ok (.if_icmp .ne 7, 3) := by decide +kernel
theorem dX9_hasBit_9 : decode cX9_hasBit 9 = .ok (.iconst 1, 1) := by decide +kernel
theorem dX9_hasBit_10 : decode cX9_hasBit 10 = .ok (.goto 4, 3) := by decide +kernel
theorem dX9_hasBit_13 : decode cX9_hasBit 13 = .ok (.iconst 0, 1) := by decide +kernel
theorem dX9_hasBit_14 : decode cX9_hasBit 14 = .ok (.ireturn, 1) := by decide +kernel
def f_X9_hasBit (p0 : Int32) (p1 : Int32) : Option (Int32) := ob (if ((p0 >>> (p1 &&& 31)) &&& (1 : Int32)) = (1 : Int32) then some (1 : Int32) else some (0 : Int32)) (fun v1 => gu (v1 = 0 ∨ v1 = 1) (some v1))
set_option maxRecDepth 100000 in
set_option maxHeartbeats 4000000 in
theorem c_X9_hasBit (p0 : Int32) (p1 : Int32) (s0 : sh_S) (r : Int32) (hf : f_X9_hasBit p0 p1 = some r) : Ctr yX9_hasBit cX9_hasBit 2 (some .boolean) ({ frames := 0, cells := 0, slots := 0, locals := 0 } : Room) shNO [.int p0, .int p1] s0 (some (.int r)) s0 := by
  refine Ctr.mk (ri := .ireturn) (by decide) (Nat.le_of_ble_eq_true rfl) (Rt_z r) ?_
  intro G h hL hR hret
  refine k_drop (lv' := [(0, .int p0), (1, .int p1)]) [0, 1] rfl ?_
  unfold f_X9_hasBit at hf
  refine k_iload_n (pc := 0) h dX9_hasBit_0 rfl 0 rfl ?_
  refine k_iload_n (pc := 1) h dX9_hasBit_1 rfl 1 rfl ?_
  refine k_ishr (pc := 2) h dX9_hasBit_2 ?_
  refine k_iconst (pc := 3) h dX9_hasBit_3 kc_iconst_1 ?_
  refine k_iand (pc := 4) h dX9_hasBit_4 ?_
  refine k_iconst (pc := 5) h dX9_hasBit_5 kc_iconst_1 ?_
  obtain ⟨v1, hj, hf⟩ := ob_s hf
  have kj6 : sh_K G shNO 14 [] [.int v1] s0 := by
    obtain ⟨g2, hf⟩ := gu_s hf
    cases hf
    exact hret 14 _ dX9_hasBit_14 g2
  clear hf
  have hf := hj
  clear hj
  refine k_icmp_ne (pc := 6) (tgt := 13) h dX9_hasBit_6 rfl (fun hc => ?_) (fun hc => ?_)
  · have hf := it_n hc hf
    refine k_iconst (pc := 13) h dX9_hasBit_13 kc_iconst_0 ?_
    cases hf
    exact k_drop [] rfl kj6
  · have hf := it_p hc hf
    refine k_iconst (pc := 9) h dX9_hasBit_9 kc_iconst_1 ?_
    refine k_goto (pc := 10) (tgt := 14) h dX9_hasBit_10 rfl ?_
    cases hf
    exact k_drop [] rfl kj6
theorem dX1_numberOfBit_0 : decode cX1_numberOfBit 0 = .ok (.iload_n 1, 1) := by decide +kernel
theorem dX1_numberOfBit_1 : decode cX1_numberOfBit 1 = .ok (.istore_n 2, 1) := by decide +kernel
theorem dX1_numberOfBit_2 : decode cX1_numberOfBit 2 = .ok (.iconst 0, 1) := by decide +kernel
theorem dX1_numberOfBit_3 : decode cX1_numberOfBit 3 = .ok (.istore_n 3, 1) := by decide +kernel
theorem dX1_numberOfBit_4 : decode cX1_numberOfBit 4 = .ok (.iload_n 3, 1) := by decide +kernel
theorem dX1_numberOfBit_5 : decode cX1_numberOfBit 5 = .ok (.bipush 24, 2) := by decide +kernel
theorem dX1_numberOfBit_7 : decode cX1_numberOfBit 7 = .ok (.if_icmp .ge 26, 3) := by decide +kernel
theorem dX1_numberOfBit_10 : decode cX1_numberOfBit 10 = .ok (.iload_n 0, 1) := by decide +kernel
theorem dX1_numberOfBit_11 : decode cX1_numberOfBit 11 = .ok (.iload_n 3, 1) := by decide +kernel
theorem dX1_numberOfBit_12 : decode cX1_numberOfBit 12 = .ok (.invokestatic 91, 3) := by decide +kernel
theorem dX1_numberOfBit_15 : decode cX1_numberOfBit 15 = .ok (.ifCond .eq 12, 3) := by decide +kernel
theorem dX1_numberOfBit_18 : decode cX1_numberOfBit 18 = .ok (.iload_n 2, 1) := by decide +kernel
theorem dX1_numberOfBit_19 : decode cX1_numberOfBit 19 = .ok (.ifCond .ne 5, 3) := by decide +kernel
theorem dX1_numberOfBit_22 : decode cX1_numberOfBit 22 = .ok (.iload_n 3, 1) := by decide +kernel
theorem dX1_numberOfBit_23 : decode cX1_numberOfBit 23 = .ok (.ireturn, 1) := by decide +kernel
theorem dX1_numberOfBit_24 : decode cX1_numberOfBit 24 = .ok (.iinc 2 (-1), 3) := by decide +kernel
theorem dX1_numberOfBit_27 : decode cX1_numberOfBit 27 = .ok (.iinc 3 1, 3) := by decide +kernel
theorem dX1_numberOfBit_30 : decode cX1_numberOfBit 30 = .ok (.goto (-26), 3) := by decide +kernel
theorem dX1_numberOfBit_33 : decode cX1_numberOfBit 33 = .ok (.iconst (-1), 1) := by decide +kernel
theorem dX1_numberOfBit_34 : decode cX1_numberOfBit 34 = .ok (.ireturn, 1) := by decide +kernel
def f_X1_numberOfBit_L4 (p0 : Int32) (v1 : Int32) (v2 : Int32) : Option ((Int32 × Int32) ⊕ ((Unit) ⊕ (Int32))) := (if (24 : Int32) ≤ v2 then some (.inr (.inl ())) else ob (f_X9_hasBit p0 v2) (fun v3 => (if v3 = 0 then lb (v2 + (1 : Int32)) (fun v4 => some (.inl (v1, v4))) else (if v1 = 0 then some (.inr (.inr v2)) else lb (v1 + (-1 : Int32)) (fun v5 => lb (v2 + (1 : Int32)) (fun v6 => some (.inl (v5, v6))))))))
def f_X1_numberOfBit (p0 : Int32) (p1 : Int32) : Option (Int32) := ob (lp (fun q => f_X1_numberOfBit_L4 p0 q.1 q.2) FU (p1, (0 : Int32))) (fun ee => sm ee (fun _ => some (-1 : Int32)) (fun q => some q))
set_option maxRecDepth 100000 in
set_option maxHeartbeats 4000000 in
theorem c_X1_numberOfBit (p0 : Int32) (p1 : Int32) (s0 : sh_S) (r : Int32) (hf : f_X1_numberOfBit p0 p1 = some r) : Ctr yX1_numberOfBit cX1_numberOfBit 4 (some .int) ({ frames := 1, cells := 0, slots := 0, locals := 21 } : Room) shNO [.int p0, .int p1] s0 (some (.int r)) s0 := by
  refine Ctr.mk (ri := .ireturn) (by decide) (Nat.le_of_ble_eq_true rfl) (Rt_i r) ?_
  intro G h hL hR hret
  refine k_drop (lv' := [(0, .int p0), (1, .int p1)]) [0, 1] rfl ?_
  unfold f_X1_numberOfBit at hf
  refine k_iload_n (pc := 0) h dX1_numberOfBit_0 rfl 1 rfl ?_
  refine k_istore_n (pc := 1) h dX1_numberOfBit_1 rfl (nk hL (by decide)) (lv' := [(0, .int p0), (1, .int p1), (2, .int p1)]) rfl ?_
  refine k_iconst (pc := 2) h dX1_numberOfBit_2 kc_iconst_0 ?_
  refine k_istore_n (pc := 3) h dX1_numberOfBit_3 rfl (nk hL (by decide)) (lv' := [(0, .int p0), (1, .int p1), (2, .int p1), (3, .int (0 : Int32))]) rfl ?_
  obtain ⟨ee, hl, hf⟩ := ob_s hf
  refine k_drop (lv' := [(0, .int p0), (2, .int p1), (3, .int (0 : Int32))]) [0, 2, 3] rfl ?_
  refine lp_s (P := (fun q : Int32 × Int32 => sh_K G shNO 4 [(0, .int p0), (2, .int q.1), (3, .int q.2)] [] s0)) (Q := (Sum.elim (fun q : Unit => sh_K G shNO 33 [] [] s0) (fun q : Int32 => q = r))) (s := (p1, (0 : Int32))) ?_ hl ?_
  · clear hf hl
    intro q rr hf kc4
    obtain ⟨v1, v2⟩ := q
    have hf : f_X1_numberOfBit_L4 p0 v1 v2 = some rr := hf
    unfold f_X1_numberOfBit_L4 at hf
    refine k_iload_n (pc := 4) h dX1_numberOfBit_4 rfl 2 rfl ?_
    refine k_bipush (pc := 5) h dX1_numberOfBit_5 kc_bipush_24 ?_
    refine k_icmp_ge (pc := 7) (tgt := 33) h dX1_numberOfBit_7 rfl (fun hc => ?_) (fun hc => ?_)
    · have hf := it_p hc hf
      cases hf
      exact k_drop [] rfl kc4
    · have hf := it_n hc hf
      refine k_iload_n (pc := 10) h dX1_numberOfBit_10 rfl 0 rfl ?_
      refine k_iload_n (pc := 11) h dX1_numberOfBit_11 rfl 2 rfl ?_
      obtain ⟨v3, cv3, hf⟩ := ob_s hf
      refine k_callNp (pc := 12) h cn_RX1_91 (c_X9_hasBit p0 v2 _ v3 cv3) rfl rfl (st1 := [.int v3]) rfl ⟨rfl, rfl⟩ (rk hR (Nat.le_of_ble_eq_true rfl) (Nat.le_of_ble_eq_true rfl)) (Nat.le_of_ble_eq_true rfl) dX1_numberOfBit_12 ?_
      refine k_if_eq (pc := 15) (tgt := 27) h dX1_numberOfBit_15 rfl (fun hc => ?_) (fun hc => ?_)
      · have hf := it_p hc hf
        obtain ⟨v4, ev4, hf⟩ := lb_s hf
        refine k_iinc (pc := 27) h dX1_numberOfBit_27 2 rfl ((congrArg (_ + ·) kc_iconst_1).trans ev4.symm) (nk hL (by decide)) (lv' := [(0, .int p0), (2, .int v1), (3, .int v4)]) rfl ?_
        refine k_goto (pc := 30) (tgt := 4) h dX1_numberOfBit_30 rfl ?_
        cases hf
        exact k_drop [0, 1, 2] rfl kc4
      · have hf := it_n hc hf
        refine k_iload_n (pc := 18) h dX1_numberOfBit_18 rfl 1 rfl ?_
        refine k_if_ne (pc := 19) (tgt := 24) h dX1_numberOfBit_19 rfl (fun hc => ?_) (fun hc => ?_)
        · have hf := it_n hc hf
          obtain ⟨v5, ev5, hf⟩ := lb_s hf
          refine k_iinc (pc := 24) h dX1_numberOfBit_24 1 rfl ((congrArg (_ + ·) kc_iconst_m1).trans ev5.symm) (nk hL (by decide)) (lv' := [(0, .int p0), (2, .int v5), (3, .int v2)]) rfl ?_
          obtain ⟨v6, ev6, hf⟩ := lb_s hf
          refine k_iinc (pc := 27) h dX1_numberOfBit_27 2 rfl ((congrArg (_ + ·) kc_iconst_1).trans ev6.symm) (nk hL (by decide)) (lv' := [(0, .int p0), (2, .int v5), (3, .int v6)]) rfl ?_
          refine k_goto (pc := 30) (tgt := 4) h dX1_numberOfBit_30 rfl ?_
          cases hf
          exact k_drop [0, 1, 2] rfl kc4
        · have hf := it_p hc hf
          refine k_iload_n (pc := 22) h dX1_numberOfBit_22 rfl 2 rfl ?_
          cases hf
          cases kc4
          exact hret 23 _ dX1_numberOfBit_23 trivial
  · cases ee with
    | inl qq =>
      refine k_iconst (pc := 33) h dX1_numberOfBit_33 kc_iconst_m1 ?_
      cases hf
      exact hret 34 _ dX1_numberOfBit_34 trivial
    | inr qq =>
      cases hf
      exact rfl
theorem dX10_isPoint_0 : decode cX10_isPoint 0 = .ok (.iload_n 1, 1) := by decide +kernel
theorem dX10_isPoint_1 : decode cX10_isPoint 1 = .ok (.iconst 0, 1) := by decide +kernel
theorem dX10_isPoint_2 : decode cX10_isPoint 2 = .ok (.aload_n 0, 1) := by decide +kernel
theorem dX10_isPoint_3 : decode cX10_isPoint 3 = .ok (.getfield 101, 3) := by decide +kernel
theorem dX10_isPoint_6 : decode cX10_isPoint 6 = .ok (.iconst 1, 1) := by decide +kernel
theorem dX10_isPoint_7 : decode cX10_isPoint 7 = .ok (.isub, 1) := by decide +kernel
theorem dX10_isPoint_8 : decode cX10_isPoint 8 = .ok (.invokestatic 93, 3) := by decide +kernel
theorem dX10_isPoint_11 : decode cX10_isPoint 11 = .ok (.ireturn, 1) := by decide +kernel
def f_X10_isPoint (p1 : Int32) (s0 : sh_S) : Option (Int32) := ob (f_X10_in p1 (0 : Int32) ((s0 0 0) - (1 : Int32))) (fun v1 => gu (v1 = 0 ∨ v1 = 1) (some v1))
set_option maxRecDepth 100000 in
set_option maxHeartbeats 4000000 in
theorem c_X10_isPoint (p1 : Int32) (s0 : sh_S) (r : Int32) (hf : f_X10_isPoint p1 s0 = some r) : Ctr yX10_isPoint cX10_isPoint 2 (some .boolean) ({ frames := 1, cells := 0, slots := 0, locals := 22 } : Room) shM [.ref 0, .int p1] s0 (some (.int r)) s0 := by
  refine Ctr.mk (ri := .ireturn) (by decide) (Nat.le_of_ble_eq_true rfl) (Rt_z r) ?_
  intro G h hL hR hret
  refine k_drop (lv' := [(0, .ref 0), (1, .int p1)]) [0, 1] rfl ?_
  unfold f_X10_isPoint at hf
  refine k_iload_n (pc := 0) h dX10_isPoint_0 rfl 1 rfl ?_
  refine k_iconst (pc := 1) h dX10_isPoint_1 kc_iconst_0 ?_
  refine k_aload_n (pc := 2) h dX10_isPoint_2 rfl 0 rfl ?_
  refine k_getI (pc := 3) h fl_RX10_101 rfl rfl dX10_isPoint_3 ?_
  refine k_iconst (pc := 6) h dX10_isPoint_6 kc_iconst_1 ?_
  refine k_isub (pc := 7) h dX10_isPoint_7 ?_
  obtain ⟨v1, cv1, hf⟩ := ob_s hf
  refine k_callSp (pc := 8) h cs_RX10_93 (c_X10_in p1 (0 : Int32) ((s0 0 0) - (1 : Int32)) _ v1 cv1) rfl rfl (st1 := [.int v1]) rfl ⟨rfl, rfl⟩ (rk hR (Nat.le_of_ble_eq_true rfl) (Nat.le_of_ble_eq_true rfl)) (Nat.le_of_ble_eq_true rfl) dX10_isPoint_8 ?_
  obtain ⟨g2, hf⟩ := gu_s hf
  cases hf
  exact hret 11 _ dX10_isPoint_11 g2
theorem dX10_there_0 : decode cX10_there 0 = .ok (.aload_n 0, 1) := by decide +kernel
theorem dX10_there_1 : decode cX10_there 1 = .ok (.iload_n 1, 1) := by decide +kernel
theorem dX10_there_2 : decode cX10_there 2 = .ok (.invokevirtual 109, 3) := by decide +kernel
theorem dX10_there_5 : decode cX10_there 5 = .ok (.ifCond .eq 9, 3) := by decide +kernel
theorem dX10_there_8 : decode cX10_there 8 = .ok (.iconst 1, 1) := by decide +kernel
theorem dX10_there_9 : decode cX10_there 9 = .ok (.iload_n 1, 1) := by decide +kernel
theorem dX10_there_10 : decode cX10_there 10 = .ok (.ishl, 1) := by decide +kernel
theorem dX10_there_11 : decode cX10_there 11 = .ok (.goto 4, 3) := by decide +kernel
theorem dX10_there_14 : decode cX10_there 14 = .ok (.iconst 0, 1) := by decide +kernel
theorem dX10_there_15 : decode cX10_there 15 = .ok (.ireturn, 1) := by decide +kernel
def f_X10_there (p1 : Int32) (s0 : sh_S) : Option (Int32) := ob (f_X10_isPoint p1 s0) (fun v1 => ob (if v1 = 0 then some (0 : Int32) else some ((1 : Int32) <<< (p1 &&& 31))) (fun v2 => some v2))
set_option maxRecDepth 100000 in
set_option maxHeartbeats 4000000 in
theorem c_X10_there (p1 : Int32) (s0 : sh_S) (r : Int32) (hf : f_X10_there p1 s0 = some r) : Ctr yX10_there cX10_there 2 (some .int) ({ frames := 2, cells := 0, slots := 0, locals := 43 } : Room) shM [.ref 0, .int p1] s0 (some (.int r)) s0 := by
  refine Ctr.mk (ri := .ireturn) (by decide) (Nat.le_of_ble_eq_true rfl) (Rt_i r) ?_
  intro G h hL hR hret
  refine k_drop (lv' := [(0, .ref 0), (1, .int p1)]) [0, 1] rfl ?_
  unfold f_X10_there at hf
  refine k_aload_n (pc := 0) h dX10_there_0 rfl 0 rfl ?_
  refine k_iload_n (pc := 1) h dX10_there_1 rfl 1 rfl ?_
  obtain ⟨v1, cv1, hf⟩ := ob_s hf
  refine k_callV0 (pc := 2) h cv_RX10_109 (c_X10_isPoint p1 s0 v1 cv1) rfl rfl rfl (st1 := [.int v1]) rfl ⟨rfl, rfl⟩ (rk hR (Nat.le_of_ble_eq_true rfl) (Nat.le_of_ble_eq_true rfl)) (Nat.le_of_ble_eq_true rfl) dX10_there_2 ?_
  obtain ⟨v2, hj, hf⟩ := ob_s hf
  have kj5 : sh_K G shM 15 [] [.int v2] s0 := by
    cases hf
    exact hret 15 _ dX10_there_15 trivial
  clear hf
  have hf := hj
  clear hj
  refine k_if_eq (pc := 5) (tgt := 14) h dX10_there_5 rfl (fun hc => ?_) (fun hc => ?_)
  · have hf := it_p hc hf
    refine k_iconst (pc := 14) h dX10_there_14 kc_iconst_0 ?_
    cases hf
    exact k_drop [] rfl kj5
  · have hf := it_n hc hf
    refine k_iconst (pc := 8) h dX10_there_8 kc_iconst_1 ?_
    refine k_iload_n (pc := 9) h dX10_there_9 rfl 1 rfl ?_
    refine k_ishl (pc := 10) h dX10_there_10 ?_
    refine k_goto (pc := 11) (tgt := 15) h dX10_there_11 rfl ?_
    cases hf
    exact k_drop [] rfl kj5
theorem dX10_nextOf_0 : decode cX10_nextOf 0 = .ok (.aload_n 0, 1) := by decide +kernel
theorem dX10_nextOf_1 : decode cX10_nextOf 1 = .ok (.getfield 7, 3) := by decide +kernel
theorem dX10_nextOf_4 : decode cX10_nextOf 4 = .ok (.iload_n 1, 1) := by decide +kernel
theorem dX10_nextOf_5 : decode cX10_nextOf 5 = .ok (.iaload, 1) := by decide +kernel
theorem dX10_nextOf_6 : decode cX10_nextOf 6 = .ok (.bipush 8, 2) := by decide +kernel
theorem dX10_nextOf_8 : decode cX10_nextOf 8 = .ok (.if_icmp .eq 14, 3) := by decide +kernel
theorem dX10_nextOf_11 : decode cX10_nextOf 11 = .ok (.aload_n 0, 1) := by decide +kernel
theorem dX10_nextOf_12 : decode cX10_nextOf 12 = .ok (.getfield 7, 3) := by decide +kernel
theorem dX10_nextOf_15 : decode cX10_nextOf 15 = .ok (.iload_n 1, 1) := by decide +kernel
theorem dX10_nextOf_16 : decode cX10_nextOf 16 = .ok (.iaload, 1) := by decide +kernel
theorem dX10_nextOf_17 : decode cX10_nextOf 17 = .ok (.bipush 9, 2) := by decide +kernel
theorem dX10_nextOf_19 : decode cX10_nextOf 19 = .ok (.if_icmp .ne 7, 3) := by decide +kernel
theorem dX10_nextOf_22 : decode cX10_nextOf 22 = .ok (.iconst 0, 1) := by decide +kernel
theorem dX10_nextOf_23 : decode cX10_nextOf 23 = .ok (.goto 10, 3) := by decide +kernel
theorem dX10_nextOf_26 : decode cX10_nextOf 26 = .ok (.aload_n 0, 1) := by decide +kernel
theorem dX10_nextOf_27 : decode cX10_nextOf 27 = .ok (.iload_n 1, 1) := by decide +kernel
theorem dX10_nextOf_28 : decode cX10_nextOf 28 = .ok (.iconst 1, 1) := by decide +kernel
theorem dX10_nextOf_29 : decode cX10_nextOf 29 = .ok (.iadd, 1) := by decide +kernel
theorem dX10_nextOf_30 : decode cX10_nextOf 30 = .ok (.invokevirtual 137, 3) := by decide +kernel
theorem dX10_nextOf_33 : decode cX10_nextOf 33 = .ok (.istore_n 2, 1) := by decide +kernel
theorem dX10_nextOf_34 : decode cX10_nextOf 34 = .ok (.aload_n 0, 1) := by decide +kernel
theorem dX10_nextOf_35 : decode cX10_nextOf 35 = .ok (.getfield 7, 3) := by decide +kernel
theorem dX10_nextOf_38 : decode cX10_nextOf 38 = .ok (.iload_n 1, 1) := by decide +kernel
theorem dX10_nextOf_39 : decode cX10_nextOf 39 = .ok (.iaload, 1) := by decide +kernel
theorem dX10_nextOf_40 : decode cX10_nextOf 40 = .ok (.bipush 8, 2) := by decide +kernel
theorem dX10_nextOf_42 : decode cX10_nextOf 42 = .ok (.if_icmp .eq 14, 3) := by decide +kernel
theorem dX10_nextOf_45 : decode cX10_nextOf 45 = .ok (.aload_n 0, 1) := by decide +kernel
theorem dX10_nextOf_46 : decode cX10_nextOf 46 = .ok (.getfield 7, 3) := by decide +kernel
theorem dX10_nextOf_49 : decode cX10_nextOf 49 = .ok (.iload_n 1, 1) := by decide +kernel
theorem dX10_nextOf_50 : decode cX10_nextOf 50 = .ok (.iaload, 1) := by decide +kernel
theorem dX10_nextOf_51 : decode cX10_nextOf 51 = .ok (.bipush 7, 2) := by decide +kernel
theorem dX10_nextOf_53 : decode cX10_nextOf 53 = .ok (.if_icmp .ne 16, 3) := by decide +kernel
theorem dX10_nextOf_56 : decode cX10_nextOf 56 = .ok (.aload_n 0, 1) := by decide +kernel
theorem dX10_nextOf_57 : decode cX10_nextOf 57 = .ok (.aload_n 0, 1) := by decide +kernel
theorem dX10_nextOf_58 : decode cX10_nextOf 58 = .ok (.getfield 19, 3) := by decide +kernel
theorem dX10_nextOf_61 : decode cX10_nextOf 61 = .ok (.iload_n 1, 1) := by decide +kernel
theorem dX10_nextOf_62 : decode cX10_nextOf 62 = .ok (.iaload, 1) := by decide +kernel
theorem dX10_nextOf_63 : decode cX10_nextOf 63 = .ok (.invokevirtual 137, 3) := by decide +kernel
theorem dX10_nextOf_66 : decode cX10_nextOf 66 = .ok (.goto 4, 3) := by decide +kernel
theorem dX10_nextOf_69 : decode cX10_nextOf 69 = .ok (.iconst 0, 1) := by decide +kernel
theorem dX10_nextOf_70 : decode cX10_nextOf 70 = .ok (.istore_n 3, 1) := by decide +kernel
theorem dX10_nextOf_71 : decode cX10_nextOf 71 = .ok (.iload_n 2, 1) := by decide +kernel
theorem dX10_nextOf_72 : decode cX10_nextOf 72 = .ok (.iload_n 3, 1) := by decide +kernel
theorem dX10_nextOf_73 : decode cX10_nextOf 73 = .ok (.ior, 1) := by decide +kernel
theorem dX10_nextOf_74 : decode cX10_nextOf 74 = .ok (.ireturn, 1) := by decide +kernel
def f_X10_nextOf (p1 : Int32) (s0 : sh_S) : Option (Int32) := gu (inb p1 24) (ob (if (s0 1 (ix p1)) = (8 : Int32) then some (0 : Int32) else gu (inb p1 24) ((if (s0 1 (ix p1)) = (9 : Int32) then some (0 : Int32) else ob (f_X10_there (p1 + (1 : Int32)) s0) (fun v4 => some v4)))) (fun v2 => gu (inb p1 24) (ob (if (s0 1 (ix p1)) = (8 : Int32) then gu (inb p1 24) (ob (f_X10_there (s0 4 (ix p1)) s0) (fun v8 => some v8)) else gu (inb p1 24) ((if (s0 1 (ix p1)) = (7 : Int32) then gu (inb p1 24) (ob (f_X10_there (s0 4 (ix p1)) s0) (fun v11 => some v11)) else some (0 : Int32)))) (fun v6 => some (v2 ||| v6)))))
set_option maxRecDepth 100000 in
set_option maxHeartbeats 4000000 in
theorem c_X10_nextOf (p1 : Int32) (s0 : sh_S) (r : Int32) (hf : f_X10_nextOf p1 s0 = some r) : Ctr yX10_nextOf cX10_nextOf 4 (some .int) ({ frames := 3, cells := 0, slots := 0, locals := 64 } : Room) shM [.ref 0, .int p1] s0 (some (.int r)) s0 := by
  refine Ctr.mk (ri := .ireturn) (by decide) (Nat.le_of_ble_eq_true rfl) (Rt_i r) ?_
  intro G h hL hR hret
  refine k_drop (lv' := [(0, .ref 0), (1, .int p1)]) [0, 1] rfl ?_
  unfold f_X10_nextOf at hf
  refine k_aload_n (pc := 0) h dX10_nextOf_0 rfl 0 rfl ?_
  refine k_getR (pc := 1) h fl_RX10_7 rfl rfl dX10_nextOf_1 ?_
  refine k_iload_n (pc := 4) h dX10_nextOf_4 rfl 1 rfl ?_
  obtain ⟨g1, hf⟩ := gu_s hf
  refine k_iald (pc := 5) (n := 24) h rfl g1 dX10_nextOf_5 ?_
  refine k_bipush (pc := 6) h dX10_nextOf_6 kc_bipush_8 ?_
  obtain ⟨v2, hj, hf⟩ := ob_s hf
  have kj8 : sh_K G shM 33 [(0, .ref 0), (1, .int p1)] [.int v2] s0 := by
    refine k_istore_n (pc := 33) h dX10_nextOf_33 rfl (nk hL (by decide)) (lv' := [(0, .ref 0), (1, .int p1), (2, .int v2)]) rfl ?_
    refine k_aload_n (pc := 34) h dX10_nextOf_34 rfl 0 rfl ?_
    refine k_getR (pc := 35) h fl_RX10_7 rfl rfl dX10_nextOf_35 ?_
    refine k_iload_n (pc := 38) h dX10_nextOf_38 rfl 1 rfl ?_
    obtain ⟨g5, hf⟩ := gu_s hf
    refine k_iald (pc := 39) (n := 24) h rfl g5 dX10_nextOf_39 ?_
    refine k_bipush (pc := 40) h dX10_nextOf_40 kc_bipush_8 ?_
    obtain ⟨v6, hj, hf⟩ := ob_s hf
    have kj42 : sh_K G shM 70 [(2, .int v2)] [.int v6] s0 := by
      refine k_istore_n (pc := 70) h dX10_nextOf_70 rfl (nk hL (by decide)) (lv' := [(2, .int v2), (3, .int v6)]) rfl ?_
      refine k_iload_n (pc := 71) h dX10_nextOf_71 rfl 0 rfl ?_
      refine k_iload_n (pc := 72) h dX10_nextOf_72 rfl 1 rfl ?_
      refine k_ior (pc := 73) h dX10_nextOf_73 ?_
      cases hf
      exact hret 74 _ dX10_nextOf_74 trivial
    clear hf
    have hf := hj
    clear hj
    refine k_icmp_eq (pc := 42) (tgt := 56) h dX10_nextOf_42 rfl (fun hc => ?_) (fun hc => ?_)
    · have hf := it_p hc hf
      refine k_aload_n (pc := 56) h dX10_nextOf_56 rfl 0 rfl ?_
      refine k_aload_n (pc := 57) h dX10_nextOf_57 rfl 0 rfl ?_
      refine k_getR (pc := 58) h fl_RX10_19 rfl rfl dX10_nextOf_58 ?_
      refine k_iload_n (pc := 61) h dX10_nextOf_61 rfl 1 rfl ?_
      obtain ⟨g7, hf⟩ := gu_s hf
      refine k_iald (pc := 62) (n := 24) h rfl g7 dX10_nextOf_62 ?_
      obtain ⟨v8, cv8, hf⟩ := ob_s hf
      refine k_callV0 (pc := 63) h cv_RX10_137 (c_X10_there (s0 4 (ix p1)) s0 v8 cv8) rfl rfl rfl (st1 := [.int v8]) rfl ⟨rfl, rfl⟩ (rk hR (Nat.le_of_ble_eq_true rfl) (Nat.le_of_ble_eq_true rfl)) (Nat.le_of_ble_eq_true rfl) dX10_nextOf_63 ?_
      refine k_goto (pc := 66) (tgt := 70) h dX10_nextOf_66 rfl ?_
      cases hf
      exact k_drop [2] rfl kj42
    · have hf := it_n hc hf
      refine k_aload_n (pc := 45) h dX10_nextOf_45 rfl 0 rfl ?_
      refine k_getR (pc := 46) h fl_RX10_7 rfl rfl dX10_nextOf_46 ?_
      refine k_iload_n (pc := 49) h dX10_nextOf_49 rfl 1 rfl ?_
      obtain ⟨g9, hf⟩ := gu_s hf
      refine k_iald (pc := 50) (n := 24) h rfl g9 dX10_nextOf_50 ?_
      refine k_bipush (pc := 51) h dX10_nextOf_51 kc_bipush_7 ?_
      refine k_icmp_ne (pc := 53) (tgt := 69) h dX10_nextOf_53 rfl (fun hc => ?_) (fun hc => ?_)
      · have hf := it_n hc hf
        refine k_iconst (pc := 69) h dX10_nextOf_69 kc_iconst_0 ?_
        cases hf
        exact k_drop [2] rfl kj42
      · have hf := it_p hc hf
        refine k_aload_n (pc := 56) h dX10_nextOf_56 rfl 0 rfl ?_
        refine k_aload_n (pc := 57) h dX10_nextOf_57 rfl 0 rfl ?_
        refine k_getR (pc := 58) h fl_RX10_19 rfl rfl dX10_nextOf_58 ?_
        refine k_iload_n (pc := 61) h dX10_nextOf_61 rfl 1 rfl ?_
        obtain ⟨g10, hf⟩ := gu_s hf
        refine k_iald (pc := 62) (n := 24) h rfl g10 dX10_nextOf_62 ?_
        obtain ⟨v11, cv11, hf⟩ := ob_s hf
        refine k_callV0 (pc := 63) h cv_RX10_137 (c_X10_there (s0 4 (ix p1)) s0 v11 cv11) rfl rfl rfl (st1 := [.int v11]) rfl ⟨rfl, rfl⟩ (rk hR (Nat.le_of_ble_eq_true rfl) (Nat.le_of_ble_eq_true rfl)) (Nat.le_of_ble_eq_true rfl) dX10_nextOf_63 ?_
        refine k_goto (pc := 66) (tgt := 70) h dX10_nextOf_66 rfl ?_
        cases hf
        exact k_drop [2] rfl kj42
  clear hf
  have hf := hj
  clear hj
  refine k_icmp_eq (pc := 8) (tgt := 22) h dX10_nextOf_8 rfl (fun hc => ?_) (fun hc => ?_)
  · have hf := it_p hc hf
    refine k_iconst (pc := 22) h dX10_nextOf_22 kc_iconst_0 ?_
    refine k_goto (pc := 23) (tgt := 33) h dX10_nextOf_23 rfl ?_
    cases hf
    exact k_drop [0, 1] rfl kj8
  · have hf := it_n hc hf
    refine k_aload_n (pc := 11) h dX10_nextOf_11 rfl 0 rfl ?_
    refine k_getR (pc := 12) h fl_RX10_7 rfl rfl dX10_nextOf_12 ?_
    refine k_iload_n (pc := 15) h dX10_nextOf_15 rfl 1 rfl ?_
    obtain ⟨g3, hf⟩ := gu_s hf
    refine k_iald (pc := 16) (n := 24) h rfl g3 dX10_nextOf_16 ?_
    refine k_bipush (pc := 17) h dX10_nextOf_17 kc_bipush_9 ?_
    refine k_icmp_ne (pc := 19) (tgt := 26) h dX10_nextOf_19 rfl (fun hc => ?_) (fun hc => ?_)
    · have hf := it_n hc hf
      refine k_aload_n (pc := 26) h dX10_nextOf_26 rfl 0 rfl ?_
      refine k_iload_n (pc := 27) h dX10_nextOf_27 rfl 1 rfl ?_
      refine k_iconst (pc := 28) h dX10_nextOf_28 kc_iconst_1 ?_
      refine k_iadd (pc := 29) h dX10_nextOf_29 ?_
      obtain ⟨v4, cv4, hf⟩ := ob_s hf
      refine k_callV0 (pc := 30) h cv_RX10_137 (c_X10_there (p1 + (1 : Int32)) s0 v4 cv4) rfl rfl rfl (st1 := [.int v4]) rfl ⟨rfl, rfl⟩ (rk hR (Nat.le_of_ble_eq_true rfl) (Nat.le_of_ble_eq_true rfl)) (Nat.le_of_ble_eq_true rfl) dX10_nextOf_30 ?_
      cases hf
      exact k_drop [0, 1] rfl kj8
    · have hf := it_p hc hf
      refine k_iconst (pc := 22) h dX10_nextOf_22 kc_iconst_0 ?_
      refine k_goto (pc := 23) (tgt := 33) h dX10_nextOf_23 rfl ?_
      cases hf
      exact k_drop [0, 1] rfl kj8
theorem dX10_lends_0 : decode cX10_lends 0 = .ok (.aload_n 0, 1) := by decide +kernel
theorem dX10_lends_1 : decode cX10_lends 1 = .ok (.getfield 7, 3) := by decide +kernel
theorem dX10_lends_4 : decode cX10_lends 4 = .ok (.iload_n 1, 1) := by decide +kernel
theorem dX10_lends_5 : decode cX10_lends 5 = .ok (.iaload, 1) := by decide +kernel
theorem dX10_lends_6 : decode cX10_lends 6 = .ok (.iconst 3, 1) := by decide +kernel
theorem dX10_lends_7 : decode cX10_lends 7 = .ok (.iconst 5, 1) := by decide +kernel
theorem dX10_lends_8 : decode cX10_lends 8 = .ok (.invokestatic 93, 3) := by decide +kernel
theorem dX10_lends_11 : decode cX10_lends 11 = .ok (.ireturn, 1) := by decide +kernel
def f_X10_lends (p1 : Int32) (s0 : sh_S) : Option (Int32) := gu (inb p1 24) (ob (f_X10_in (s0 1 (ix p1)) (3 : Int32) (5 : Int32)) (fun v2 => gu (v2 = 0 ∨ v2 = 1) (some v2)))
set_option maxRecDepth 100000 in
set_option maxHeartbeats 4000000 in
theorem c_X10_lends (p1 : Int32) (s0 : sh_S) (r : Int32) (hf : f_X10_lends p1 s0 = some r) : Ctr yX10_lends cX10_lends 2 (some .boolean) ({ frames := 1, cells := 0, slots := 0, locals := 22 } : Room) shM [.ref 0, .int p1] s0 (some (.int r)) s0 := by
  refine Ctr.mk (ri := .ireturn) (by decide) (Nat.le_of_ble_eq_true rfl) (Rt_z r) ?_
  intro G h hL hR hret
  refine k_drop (lv' := [(0, .ref 0), (1, .int p1)]) [0, 1] rfl ?_
  unfold f_X10_lends at hf
  refine k_aload_n (pc := 0) h dX10_lends_0 rfl 0 rfl ?_
  refine k_getR (pc := 1) h fl_RX10_7 rfl rfl dX10_lends_1 ?_
  refine k_iload_n (pc := 4) h dX10_lends_4 rfl 1 rfl ?_
  obtain ⟨g1, hf⟩ := gu_s hf
  refine k_iald (pc := 5) (n := 24) h rfl g1 dX10_lends_5 ?_
  refine k_iconst (pc := 6) h dX10_lends_6 kc_iconst_3 ?_
  refine k_iconst (pc := 7) h dX10_lends_7 kc_iconst_5 ?_
  obtain ⟨v2, cv2, hf⟩ := ob_s hf
  refine k_callSp (pc := 8) h cs_RX10_93 (c_X10_in (s0 1 (ix p1)) (3 : Int32) (5 : Int32) _ v2 cv2) rfl rfl (st1 := [.int v2]) rfl ⟨rfl, rfl⟩ (rk hR (Nat.le_of_ble_eq_true rfl) (Nat.le_of_ble_eq_true rfl)) (Nat.le_of_ble_eq_true rfl) dX10_lends_8 ?_
  obtain ⟨g3, hf⟩ := gu_s hf
  cases hf
  exact hret 11 _ dX10_lends_11 g3
theorem dX10_findsReached_0 : decode cX10_findsReached 0 = .ok (.aload_n 0, 1) := by decide +kernel
theorem dX10_findsReached_1 : decode cX10_findsReached 1 = .ok (.aload_n 0, 1) := by decide +kernel
theorem dX10_findsReached_2 : decode cX10_findsReached 2 = .ok (.iconst 0, 1) := by decide +kernel
theorem dX10_findsReached_3 : decode cX10_findsReached 3 = .ok (.invokevirtual 137, 3) := by decide +kernel
theorem dX10_findsReached_6 : decode cX10_findsReached 6 = .ok (.putfield 146, 3) := by decide +kernel
theorem dX10_findsReached_9 : decode cX10_findsReached 9 = .ok (.iconst 0, 1) := by decide +kernel
theorem dX10_findsReached_10 : decode cX10_findsReached 10 = .ok (.istore_n 1, 1) := by decide +kernel
theorem dX10_findsReached_11 : decode cX10_findsReached 11 = .ok (.iload_n 1, 1) := by decide +kernel
theorem dX10_findsReached_12 : decode cX10_findsReached 12 = .ok (.aload_n 0, 1) := by decide +kernel
theorem dX10_findsReached_13 : decode cX10_findsReached 13 = .ok (.getfield 101, 3) := by decide +kernel
theorem dX10_findsReached_16 : decode cX10_findsReached 16 = .ok (.if_icmp .ge 54, 3) := by decide +kernel
theorem dX10_findsReached_19 : decode cX10_findsReached 19 = .ok (.iconst 0, 1) := by decide +kernel
theorem dX10_findsReached_20 : decode cX10_findsReached 20 = .ok (.istore_n 2, 1) := by decide +kernel
theorem dX10_findsReached_21 : decode cX10_findsReached 21 = .ok (.iload_n 2, 1) := by decide +kernel
theorem dX10_findsReached_22 : decode cX10_findsReached 22 = .ok (.aload_n 0, 1) := by decide +kernel
theorem dX10_findsReached_23 : decode cX10_findsReached 23 = .ok (.getfield 101, 3) := by decide +kernel
theorem dX10_findsReached_26 : decode cX10_findsReached 26 = .ok (.if_icmp .ge 38, 3) := by decide +kernel
theorem dX10_findsReached_29 : decode cX10_findsReached 29 = .ok (.aload_n 0, 1) := by decide +kernel
theorem dX10_findsReached_30 : decode cX10_findsReached 30 = .ok (.dup, 1) := by decide +kernel
theorem dX10_findsReached_31 : decode cX10_findsReached 31 = .ok (.getfield 146, 3) := by decide +kernel
theorem dX10_findsReached_34 : decode cX10_findsReached 34 = .ok (.aload_n 0, 1) := by decide +kernel
theorem dX10_findsReached_35 : decode cX10_findsReached 35 = .ok (.getfield 146, 3) := by decide +kernel
theorem dX10_findsReached_38 : decode cX10_findsReached 38 = .ok (.iload_n 2, 1) := by decide +kernel
theorem dX10_findsReached_39 : decode cX10_findsReached 39 = .ok (.invokestatic 89, 3) := by decide +kernel
theorem dX10_findsReached_42 : decode cX10_findsReached 42 = .ok (.ifCond .eq 11, 3) := by decide +kernel
theorem dX10_findsReached_45 : decode cX10_findsReached 45 = .ok (.aload_n 0, 1) := by decide +kernel
theorem dX10_findsReached_46 : decode cX10_findsReached 46 = .ok (.iload_n 2, 1) := by decide +kernel
theorem dX10_findsReached_47 : decode cX10_findsReached 47 = .ok (.invokevirtual 140, 3) := by decide +kernel
theorem dX10_findsReached_50 : decode cX10_findsReached 50 = .ok (.goto 4, 3) := by decide +kernel
theorem dX10_findsReached_53 : decode cX10_findsReached 53 = .ok (.iconst 0, 1) := by decide +kernel
theorem dX10_findsReached_54 : decode cX10_findsReached 54 = .ok (.ior, 1) := by decide +kernel
theorem dX10_findsReached_55 : decode cX10_findsReached 55 = .ok (.putfield 146, 3) := by decide +kernel
theorem dX10_findsReached_58 : decode cX10_findsReached 58 = .ok (.iinc 2 1, 3) := by decide +kernel
theorem dX10_findsReached_61 : decode cX10_findsReached 61 = .ok (.goto (-40), 3) := by decide +kernel
theorem dX10_findsReached_64 : decode cX10_findsReached 64 = .ok (.iinc 1 1, 3) := by decide +kernel
theorem dX10_findsReached_67 : decode cX10_findsReached 67 = .ok (.goto (-56), 3) := by decide +kernel
theorem dX10_findsReached_70 : decode cX10_findsReached 70 = .ok (.aload_n 0, 1) := by decide +kernel
theorem dX10_findsReached_71 : decode cX10_findsReached 71 = .ok (.iconst 0, 1) := by decide +kernel
theorem dX10_findsReached_72 : decode cX10_findsReached 72 = .ok (.putfield 149, 3) := by decide +kernel
theorem dX10_findsReached_75 : decode cX10_findsReached 75 = .ok (.iconst 0, 1) := by decide +kernel
theorem dX10_findsReached_76 : decode cX10_findsReached 76 = .ok (.istore_n 1, 1) := by decide +kernel
theorem dX10_findsReached_77 : decode cX10_findsReached 77 = .ok (.iload_n 1, 1) := by decide +kernel
theorem dX10_findsReached_78 : decode cX10_findsReached 78 = .ok (.aload_n 0, 1) := by decide +kernel
theorem dX10_findsReached_79 : decode cX10_findsReached 79 = .ok (.getfield 101, 3) := by decide +kernel
theorem dX10_findsReached_82 : decode cX10_findsReached 82 = .ok (.if_icmp .ge 44, 3) := by decide +kernel
theorem dX10_findsReached_85 : decode cX10_findsReached 85 = .ok (.aload_n 0, 1) := by decide +kernel
theorem dX10_findsReached_86 : decode cX10_findsReached 86 = .ok (.dup, 1) := by decide +kernel
theorem dX10_findsReached_87 : decode cX10_findsReached 87 = .ok (.getfield 149, 3) := by decide +kernel
theorem dX10_findsReached_90 : decode cX10_findsReached 90 = .ok (.aload_n 0, 1) := by decide +kernel
theorem dX10_findsReached_91 : decode cX10_findsReached 91 = .ok (.iload_n 1, 1) := by decide +kernel
theorem dX10_findsReached_92 : decode cX10_findsReached 92 = .ok (.invokevirtual 143, 3) := by decide +kernel
theorem dX10_findsReached_95 : decode cX10_findsReached 95 = .ok (.ifCond .eq 20, 3) := by decide +kernel
theorem dX10_findsReached_98 : decode cX10_findsReached 98 = .ok (.aload_n 0, 1) := by decide +kernel
theorem dX10_findsReached_99 : decode cX10_findsReached 99 = .ok (.getfield 146, 3) := by decide +kernel
theorem dX10_findsReached_102 : decode cX10_findsReached 102 = .ok (.iload_n 1, 1) := by decide +kernel
theorem dX10_findsReached_103 : decode cX10_findsReached 103 = .ok (.invokestatic 89, 3) := by decide +kernel
theorem dX10_findsReached_106 : decode cX10_findsReached 106 = .ok (.ifCond .eq 9, 3) := by decide +kernel
theorem dX10_findsReached_109 : decode cX10_findsReached 109 = .ok (.iconst 1, 1) := by decide +kernel
theorem dX10_findsReached_110 : decode cX10_findsReached 110 = .ok (.iload_n 1, 1) := by decide +kernel
theorem dX10_findsReached_111 : decode cX10_findsReached 111 = .ok (.ishl, 1) := by decide +kernel
theorem dX10_findsReached_112 : decode cX10_findsReached 112 = .ok (.goto 4, 3) := by decide +kernel
theorem dX10_findsReached_115 : decode cX10_findsReached 115 = .ok (.iconst 0, 1) := by decide +kernel
theorem dX10_findsReached_116 : decode cX10_findsReached 116 = .ok (.ior, 1) := by decide +kernel
theorem dX10_findsReached_117 : decode cX10_findsReached 117 = .ok (.putfield 149, 3) := by decide +kernel
theorem dX10_findsReached_120 : decode cX10_findsReached 120 = .ok (.iinc 1 1, 3) := by decide +kernel
theorem dX10_findsReached_123 : decode cX10_findsReached 123 = .ok (.goto (-46), 3) := by decide +kernel
theorem dX10_findsReached_126 : decode cX10_findsReached 126 = .ok (.return_, 1) := by decide +kernel
def f_X10_findsReached_L21 (v6 : Int32) (s7 : sh_S) : Option ((Int32 × sh_S) ⊕ (sh_S)) := (if (s7 0 0) ≤ v6 then some (.inr s7) else ob (f_X10_isIn (s7 0 5) v6) (fun v9 => ob (if v9 = 0 then some (0 : Int32) else ob (f_X10_nextOf v6 s7) (fun v11 => some v11)) (fun v10 => lb (ur s7 0 (upd (s7 0) 5 ((s7 0 5) ||| v10))) (fun s12 => lb (v6 + (1 : Int32)) (fun v13 => some (.inl (v13, s12)))))))
def f_X10_findsReached_L11 (v3 : Int32) (s4 : sh_S) : Option ((Int32 × sh_S) ⊕ (sh_S)) := (if (s4 0 0) ≤ v3 then some (.inr s4) else ob (lp (fun q => f_X10_findsReached_L21 q.1 q.2) FU ((0 : Int32), s4)) (fun s8 => lb (v3 + (1 : Int32)) (fun v14 => some (.inl (v14, s8)))))
def f_X10_findsReached_L77 (v16 : Int32) (s17 : sh_S) : Option ((Int32 × sh_S) ⊕ (sh_S)) := (if (s17 0 0) ≤ v16 then some (.inr s17) else ob (f_X10_lends v16 s17) (fun v19 => ob (if v19 = 0 then some (0 : Int32) else ob (f_X10_isIn (s17 0 5) v16) (fun v21 => (if v21 = 0 then some (0 : Int32) else some ((1 : Int32) <<< (v16 &&& 31))))) (fun v20 => lb (ur s17 0 (upd (s17 0) 6 ((s17 0 6) ||| v20))) (fun s22 => lb (v16 + (1 : Int32)) (fun v23 => some (.inl (v23, s22)))))))
def f_X10_findsReached  (s0 : sh_S) : Option (sh_S) := ob (f_X10_there (0 : Int32) s0) (fun v1 => lb (ur s0 0 (upd (s0 0) 5 v1)) (fun s2 => ob (lp (fun q => f_X10_findsReached_L11 q.1 q.2) FU ((0 : Int32), s2)) (fun s5 => lb (ur s5 0 (upd (s5 0) 6 (0 : Int32))) (fun s15 => ob (lp (fun q => f_X10_findsReached_L77 q.1 q.2) FU ((0 : Int32), s15)) (fun s18 => some s18)))))
set_option maxRecDepth 100000 in
set_option maxHeartbeats 4000000 in
theorem c_X10_findsReached  (s0 : sh_S) (s9x : sh_S) (hf : f_X10_findsReached  s0 = some s9x) : Ctr yX10_findsReached cX10_findsReached 3 none ({ frames := 4, cells := 0, slots := 0, locals := 87 } : Room) shM [.ref 0] s0 none s9x := by
  refine Ctr.mk (ri := .return_) (by decide) (Nat.le_of_ble_eq_true rfl) (Rt_v) ?_
  intro G h hL hR hret
  refine k_drop (lv' := [(0, .ref 0)]) [0] rfl ?_
  unfold f_X10_findsReached at hf
  refine k_aload_n (pc := 0) h dX10_findsReached_0 rfl 0 rfl ?_
  refine k_aload_n (pc := 1) h dX10_findsReached_1 rfl 0 rfl ?_
  refine k_iconst (pc := 2) h dX10_findsReached_2 kc_iconst_0 ?_
  obtain ⟨v1, cv1, hf⟩ := ob_s hf
  refine k_callV0 (pc := 3) h cv_RX10_137 (c_X10_there (0 : Int32) s0 v1 cv1) rfl rfl rfl (st1 := [.int v1, .ref 0]) rfl ⟨rfl, rfl⟩ (rk hR (Nat.le_of_ble_eq_true rfl) (Nat.le_of_ble_eq_true rfl)) (Nat.le_of_ble_eq_true rfl) dX10_findsReached_3 ?_
  obtain ⟨s2, es2, hf⟩ := lb_s hf
  refine k_put (pc := 6) h fl_RX10_146 fp_X10_5 rfl rfl rfl rfl dX10_findsReached_6 ?_
  refine k_heap es2 ?_
  refine k_iconst (pc := 9) h dX10_findsReached_9 kc_iconst_0 ?_
  refine k_istore_n (pc := 10) h dX10_findsReached_10 rfl (nk hL (by decide)) (lv' := [(0, .ref 0), (1, .int (0 : Int32))]) rfl ?_
  obtain ⟨s5, hl, hf⟩ := ob_s hf
  refine k_drop (lv' := [(0, .ref 0), (1, .int (0 : Int32))]) [0, 1] rfl ?_
  refine lp_s (P := (fun q : Int32 × sh_S => sh_K G shM 11 [(0, .ref 0), (1, .int q.1)] [] q.2)) (Q := (fun q : sh_S => sh_K G shM 70 [(0, .ref 0)] [] q)) (s := ((0 : Int32), s2)) ?_ hl ?_
  · clear hf hl
    intro q rr hf kc11
    obtain ⟨v3, s4⟩ := q
    have hf : f_X10_findsReached_L11 v3 s4 = some rr := hf
    unfold f_X10_findsReached_L11 at hf
    refine k_iload_n (pc := 11) h dX10_findsReached_11 rfl 1 rfl ?_
    refine k_aload_n (pc := 12) h dX10_findsReached_12 rfl 0 rfl ?_
    refine k_getI (pc := 13) h fl_RX10_101 rfl rfl dX10_findsReached_13 ?_
    refine k_icmp_ge (pc := 16) (tgt := 70) h dX10_findsReached_16 rfl (fun hc => ?_) (fun hc => ?_)
    · have hf := it_p hc hf
      cases hf
      exact k_drop [0] rfl kc11
    · have hf := it_n hc hf
      refine k_iconst (pc := 19) h dX10_findsReached_19 kc_iconst_0 ?_
      refine k_istore_n (pc := 20) h dX10_findsReached_20 rfl (nk hL (by decide)) (lv' := [(0, .ref 0), (1, .int v3), (2, .int (0 : Int32))]) rfl ?_
      obtain ⟨s8, hl, hf⟩ := ob_s hf
      refine k_drop (lv' := [(0, .ref 0), (1, .int v3), (2, .int (0 : Int32))]) [0, 1, 2] rfl ?_
      refine lp_s (P := (fun q : Int32 × sh_S => sh_K G shM 21 [(0, .ref 0), (1, .int v3), (2, .int q.1)] [] q.2)) (Q := (fun q : sh_S => sh_K G shM 64 [(0, .ref 0), (1, .int v3)] [] q)) (s := ((0 : Int32), s4)) ?_ hl ?_
      · clear hf hl
        intro q rr hf kc21
        obtain ⟨v6, s7⟩ := q
        have hf : f_X10_findsReached_L21 v6 s7 = some rr := hf
        unfold f_X10_findsReached_L21 at hf
        refine k_iload_n (pc := 21) h dX10_findsReached_21 rfl 2 rfl ?_
        refine k_aload_n (pc := 22) h dX10_findsReached_22 rfl 0 rfl ?_
        refine k_getI (pc := 23) h fl_RX10_101 rfl rfl dX10_findsReached_23 ?_
        refine k_icmp_ge (pc := 26) (tgt := 64) h dX10_findsReached_26 rfl (fun hc => ?_) (fun hc => ?_)
        · have hf := it_p hc hf
          cases hf
          exact k_drop [0, 1] rfl kc21
        · have hf := it_n hc hf
          refine k_aload_n (pc := 29) h dX10_findsReached_29 rfl 0 rfl ?_
          refine k_dup (pc := 30) h dX10_findsReached_30 rfl ?_
          refine k_getI (pc := 31) h fl_RX10_146 rfl rfl dX10_findsReached_31 ?_
          refine k_aload_n (pc := 34) h dX10_findsReached_34 rfl 0 rfl ?_
          refine k_getI (pc := 35) h fl_RX10_146 rfl rfl dX10_findsReached_35 ?_
          refine k_iload_n (pc := 38) h dX10_findsReached_38 rfl 2 rfl ?_
          obtain ⟨v9, cv9, hf⟩ := ob_s hf
          refine k_callSp (pc := 39) h cs_RX10_89 (c_X10_isIn (s7 0 5) v6 _ v9 cv9) rfl rfl (st1 := [.int v9, .int (s7 0 5), .ref 0]) rfl ⟨rfl, rfl⟩ (rk hR (Nat.le_of_ble_eq_true rfl) (Nat.le_of_ble_eq_true rfl)) (Nat.le_of_ble_eq_true rfl) dX10_findsReached_39 ?_
          obtain ⟨v10, hj, hf⟩ := ob_s hf
          have kj42 : sh_K G shM 54 [(0, .ref 0), (1, .int v3), (2, .int v6)] [.int v10, .int (s7 0 5), .ref 0] s7 := by
            refine k_ior (pc := 54) h dX10_findsReached_54 ?_
            obtain ⟨s12, es12, hf⟩ := lb_s hf
            refine k_put (pc := 55) h fl_RX10_146 fp_X10_5 rfl rfl rfl rfl dX10_findsReached_55 ?_
            refine k_heap es12 ?_
            obtain ⟨v13, ev13, hf⟩ := lb_s hf
            refine k_iinc (pc := 58) h dX10_findsReached_58 2 rfl ((congrArg (_ + ·) kc_iconst_1).trans ev13.symm) (nk hL (by decide)) (lv' := [(0, .ref 0), (1, .int v3), (2, .int v13)]) rfl ?_
            refine k_goto (pc := 61) (tgt := 21) h dX10_findsReached_61 rfl ?_
            cases hf
            exact k_drop [0, 1, 2] rfl kc21
          clear hf
          have hf := hj
          clear hj
          refine k_if_eq (pc := 42) (tgt := 53) h dX10_findsReached_42 rfl (fun hc => ?_) (fun hc => ?_)
          · have hf := it_p hc hf
            refine k_iconst (pc := 53) h dX10_findsReached_53 kc_iconst_0 ?_
            cases hf
            exact k_drop [0, 1, 2] rfl kj42
          · have hf := it_n hc hf
            refine k_aload_n (pc := 45) h dX10_findsReached_45 rfl 0 rfl ?_
            refine k_iload_n (pc := 46) h dX10_findsReached_46 rfl 2 rfl ?_
            obtain ⟨v11, cv11, hf⟩ := ob_s hf
            refine k_callV0 (pc := 47) h cv_RX10_140 (c_X10_nextOf v6 s7 v11 cv11) rfl rfl rfl (st1 := [.int v11, .int (s7 0 5), .ref 0]) rfl ⟨rfl, rfl⟩ (rk hR (Nat.le_of_ble_eq_true rfl) (Nat.le_of_ble_eq_true rfl)) (Nat.le_of_ble_eq_true rfl) dX10_findsReached_47 ?_
            refine k_goto (pc := 50) (tgt := 54) h dX10_findsReached_50 rfl ?_
            cases hf
            exact k_drop [0, 1, 2] rfl kj42
      · obtain ⟨v14, ev14, hf⟩ := lb_s hf
        refine k_iinc (pc := 64) h dX10_findsReached_64 1 rfl ((congrArg (_ + ·) kc_iconst_1).trans ev14.symm) (nk hL (by decide)) (lv' := [(0, .ref 0), (1, .int v14)]) rfl ?_
        refine k_goto (pc := 67) (tgt := 11) h dX10_findsReached_67 rfl ?_
        cases hf
        exact k_drop [0, 1] rfl kc11
  · refine k_aload_n (pc := 70) h dX10_findsReached_70 rfl 0 rfl ?_
    refine k_iconst (pc := 71) h dX10_findsReached_71 kc_iconst_0 ?_
    obtain ⟨s15, es15, hf⟩ := lb_s hf
    refine k_put (pc := 72) h fl_RX10_149 fp_X10_6 rfl rfl rfl rfl dX10_findsReached_72 ?_
    refine k_heap es15 ?_
    refine k_iconst (pc := 75) h dX10_findsReached_75 kc_iconst_0 ?_
    refine k_istore_n (pc := 76) h dX10_findsReached_76 rfl (nk hL (by decide)) (lv' := [(0, .ref 0), (1, .int (0 : Int32))]) rfl ?_
    obtain ⟨s18, hl, hf⟩ := ob_s hf
    refine k_drop (lv' := [(0, .ref 0), (1, .int (0 : Int32))]) [0, 1] rfl ?_
    refine lp_s (P := (fun q : Int32 × sh_S => sh_K G shM 77 [(0, .ref 0), (1, .int q.1)] [] q.2)) (Q := (fun q : sh_S => sh_K G shM 126 [] [] q)) (s := ((0 : Int32), s15)) ?_ hl ?_
    · clear hf hl
      intro q rr hf kc77
      obtain ⟨v16, s17⟩ := q
      have hf : f_X10_findsReached_L77 v16 s17 = some rr := hf
      unfold f_X10_findsReached_L77 at hf
      refine k_iload_n (pc := 77) h dX10_findsReached_77 rfl 1 rfl ?_
      refine k_aload_n (pc := 78) h dX10_findsReached_78 rfl 0 rfl ?_
      refine k_getI (pc := 79) h fl_RX10_101 rfl rfl dX10_findsReached_79 ?_
      refine k_icmp_ge (pc := 82) (tgt := 126) h dX10_findsReached_82 rfl (fun hc => ?_) (fun hc => ?_)
      · have hf := it_p hc hf
        cases hf
        exact k_drop [] rfl kc77
      · have hf := it_n hc hf
        refine k_aload_n (pc := 85) h dX10_findsReached_85 rfl 0 rfl ?_
        refine k_dup (pc := 86) h dX10_findsReached_86 rfl ?_
        refine k_getI (pc := 87) h fl_RX10_149 rfl rfl dX10_findsReached_87 ?_
        refine k_aload_n (pc := 90) h dX10_findsReached_90 rfl 0 rfl ?_
        refine k_iload_n (pc := 91) h dX10_findsReached_91 rfl 1 rfl ?_
        obtain ⟨v19, cv19, hf⟩ := ob_s hf
        refine k_callV0 (pc := 92) h cv_RX10_143 (c_X10_lends v16 s17 v19 cv19) rfl rfl rfl (st1 := [.int v19, .int (s17 0 6), .ref 0]) rfl ⟨rfl, rfl⟩ (rk hR (Nat.le_of_ble_eq_true rfl) (Nat.le_of_ble_eq_true rfl)) (Nat.le_of_ble_eq_true rfl) dX10_findsReached_92 ?_
        obtain ⟨v20, hj, hf⟩ := ob_s hf
        have kj95 : sh_K G shM 116 [(0, .ref 0), (1, .int v16)] [.int v20, .int (s17 0 6), .ref 0] s17 := by
          refine k_ior (pc := 116) h dX10_findsReached_116 ?_
          obtain ⟨s22, es22, hf⟩ := lb_s hf
          refine k_put (pc := 117) h fl_RX10_149 fp_X10_6 rfl rfl rfl rfl dX10_findsReached_117 ?_
          refine k_heap es22 ?_
          obtain ⟨v23, ev23, hf⟩ := lb_s hf
          refine k_iinc (pc := 120) h dX10_findsReached_120 1 rfl ((congrArg (_ + ·) kc_iconst_1).trans ev23.symm) (nk hL (by decide)) (lv' := [(0, .ref 0), (1, .int v23)]) rfl ?_
          refine k_goto (pc := 123) (tgt := 77) h dX10_findsReached_123 rfl ?_
          cases hf
          exact k_drop [0, 1] rfl kc77
        clear hf
        have hf := hj
        clear hj
        refine k_if_eq (pc := 95) (tgt := 115) h dX10_findsReached_95 rfl (fun hc => ?_) (fun hc => ?_)
        · have hf := it_p hc hf
          refine k_iconst (pc := 115) h dX10_findsReached_115 kc_iconst_0 ?_
          cases hf
          exact k_drop [0, 1] rfl kj95
        · have hf := it_n hc hf
          refine k_aload_n (pc := 98) h dX10_findsReached_98 rfl 0 rfl ?_
          refine k_getI (pc := 99) h fl_RX10_146 rfl rfl dX10_findsReached_99 ?_
          refine k_iload_n (pc := 102) h dX10_findsReached_102 rfl 1 rfl ?_
          obtain ⟨v21, cv21, hf⟩ := ob_s hf
          refine k_callSp (pc := 103) h cs_RX10_89 (c_X10_isIn (s17 0 5) v16 _ v21 cv21) rfl rfl (st1 := [.int v21, .int (s17 0 6), .ref 0]) rfl ⟨rfl, rfl⟩ (rk hR (Nat.le_of_ble_eq_true rfl) (Nat.le_of_ble_eq_true rfl)) (Nat.le_of_ble_eq_true rfl) dX10_findsReached_103 ?_
          refine k_if_eq (pc := 106) (tgt := 115) h dX10_findsReached_106 rfl (fun hc => ?_) (fun hc => ?_)
          · have hf := it_p hc hf
            refine k_iconst (pc := 115) h dX10_findsReached_115 kc_iconst_0 ?_
            cases hf
            exact k_drop [0, 1] rfl kj95
          · have hf := it_n hc hf
            refine k_iconst (pc := 109) h dX10_findsReached_109 kc_iconst_1 ?_
            refine k_iload_n (pc := 110) h dX10_findsReached_110 rfl 1 rfl ?_
            refine k_ishl (pc := 111) h dX10_findsReached_111 ?_
            refine k_goto (pc := 112) (tgt := 116) h dX10_findsReached_112 rfl ?_
            cases hf
            exact k_drop [0, 1] rfl kj95
    · cases hf
      exact hret 126 _ dX10_findsReached_126 trivial
