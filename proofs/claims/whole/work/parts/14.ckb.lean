theorem dX3_findHeld_0 : decode cX3_findHeld 0 = .ok (.iconst 0, 1) := by decide +kernel
theorem dX3_findHeld_1 : decode cX3_findHeld 1 = .ok (.istore_n 3, 1) := by decide +kernel
theorem dX3_findHeld_2 : decode cX3_findHeld 2 = .ok (.iload_n 3, 1) := by decide +kernel
theorem dX3_findHeld_3 : decode cX3_findHeld 3 = .ok (.aload_n 1, 1) := by decide +kernel
theorem dX3_findHeld_4 : decode cX3_findHeld 4 = .ok (.getfield 55, 3) := by decide +kernel
theorem dX3_findHeld_7 : decode cX3_findHeld 7 = .ok (.bipush 8, 2) := by decide +kernel
theorem dX3_findHeld_9 : decode cX3_findHeld 9 = .ok (.imul, 1) := by decide +kernel
theorem dX3_findHeld_10 : decode cX3_findHeld 10 = .ok (.if_icmp .ge 27, 3) := by decide +kernel
theorem dX3_findHeld_13 : decode cX3_findHeld 13 = .ok (.aload_n 0, 1) := by decide +kernel
theorem dX3_findHeld_14 : decode cX3_findHeld 14 = .ok (.getfield 24, 3) := by decide +kernel
theorem dX3_findHeld_17 : decode cX3_findHeld 17 = .ok (.iload_n 3, 1) := by decide +kernel
theorem dX3_findHeld_18 : decode cX3_findHeld 18 = .ok (.iload_n 3, 1) := by decide +kernel
theorem dX3_findHeld_19 : decode cX3_findHeld 19 = .ok (.bipush 8, 2) := by decide +kernel
theorem dX3_findHeld_21 : decode cX3_findHeld 21 = .ok (.if_icmp .ge 8, 3) := by decide +kernel
theorem dX3_findHeld_24 : decode cX3_findHeld 24 = .ok (.ldc 84, 2) := by decide +kernel
theorem dX3_findHeld_26 : decode cX3_findHeld 26 = .ok (.goto 4, 3) := by decide +kernel
theorem dX3_findHeld_29 : decode cX3_findHeld 29 = .ok (.iconst 0, 1) := by decide +kernel
theorem dX3_findHeld_30 : decode cX3_findHeld 30 = .ok (.iastore, 1) := by decide +kernel
theorem dX3_findHeld_31 : decode cX3_findHeld 31 = .ok (.iinc 3 1, 3) := by decide +kernel
theorem dX3_findHeld_34 : decode cX3_findHeld 34 = .ok (.goto (-32), 3) := by decide +kernel
theorem dX3_findHeld_37 : decode cX3_findHeld 37 = .ok (.aload_n 0, 1) := by decide +kernel
theorem dX3_findHeld_38 : decode cX3_findHeld 38 = .ok (.aload_n 1, 1) := by decide +kernel
theorem dX3_findHeld_39 : decode cX3_findHeld 39 = .ok (.getfield 55, 3) := by decide +kernel
theorem dX3_findHeld_42 : decode cX3_findHeld 42 = .ok (.ifCond .le 7, 3) := by decide +kernel
theorem dX3_findHeld_45 : decode cX3_findHeld 45 = .ok (.iconst 1, 1) := by decide +kernel
theorem dX3_findHeld_46 : decode cX3_findHeld 46 = .ok (.goto 4, 3) := by decide +kernel
theorem dX3_findHeld_49 : decode cX3_findHeld 49 = .ok (.iconst 0, 1) := by decide +kernel
theorem dX3_findHeld_50 : decode cX3_findHeld 50 = .ok (.putfield 31, 3) := by decide +kernel
theorem dX3_findHeld_53 : decode cX3_findHeld 53 = .ok (.iconst 0, 1) := by decide +kernel
theorem dX3_findHeld_54 : decode cX3_findHeld 54 = .ok (.istore_n 3, 1) := by decide +kernel
theorem dX3_findHeld_55 : decode cX3_findHeld 55 = .ok (.aload_n 0, 1) := by decide +kernel
theorem dX3_findHeld_56 : decode cX3_findHeld 56 = .ok (.getfield 31, 3) := by decide +kernel
theorem dX3_findHeld_59 : decode cX3_findHeld 59 = .ok (.ifCond .eq 90, 3) := by decide +kernel
theorem dX3_findHeld_62 : decode cX3_findHeld 62 = .ok (.iload_n 3, 1) := by decide +kernel
theorem dX3_findHeld_63 : decode cX3_findHeld 63 = .ok (.sipush 1000, 3) := by decide +kernel
theorem dX3_findHeld_66 : decode cX3_findHeld 66 = .ok (.if_icmp .ge 83, 3) := by decide +kernel
theorem dX3_findHeld_69 : decode cX3_findHeld 69 = .ok (.iconst 0, 1) := by decide +kernel
theorem dX3_findHeld_70 : decode cX3_findHeld 70 = .ok (.istore 4, 2) := by decide +kernel
theorem dX3_findHeld_72 : decode cX3_findHeld 72 = .ok (.iload 4, 2) := by decide +kernel
theorem dX3_findHeld_74 : decode cX3_findHeld 74 = .ok (.aload_n 1, 1) := by decide +kernel
theorem dX3_findHeld_75 : decode cX3_findHeld 75 = .ok (.getfield 55, 3) := by decide +kernel
theorem dX3_findHeld_78 : decode cX3_findHeld 78 = .ok (.if_icmp .ge 65, 3) := by decide +kernel
theorem dX3_findHeld_81 : decode cX3_findHeld 81 = .ok (.aload_n 0, 1) := by decide +kernel
theorem dX3_findHeld_82 : decode cX3_findHeld 82 = .ok (.getfield 31, 3) := by decide +kernel
theorem dX3_findHeld_85 : decode cX3_findHeld 85 = .ok (.iload 4, 2) := by decide +kernel
theorem dX3_findHeld_87 : decode cX3_findHeld 87 = .ok (.invokestatic 64, 3) := by decide +kernel
theorem dX3_findHeld_90 : decode cX3_findHeld 90 = .ok (.ifCond .eq 47, 3) := by decide +kernel
theorem dX3_findHeld_93 : decode cX3_findHeld 93 = .ok (.aload_n 0, 1) := by decide +kernel
theorem dX3_findHeld_94 : decode cX3_findHeld 94 = .ok (.dup, 1) := by decide +kernel
theorem dX3_findHeld_95 : decode cX3_findHeld 95 = .ok (.getfield 31, 3) := by decide +kernel
theorem dX3_findHeld_98 : decode cX3_findHeld 98 = .ok (.iconst 1, 1) := by decide +kernel
theorem dX3_findHeld_99 : decode cX3_findHeld 99 = .ok (.iload 4, 2) := by decide +kernel
theorem dX3_findHeld_101 : decode cX3_findHeld 101 = .ok (.ishl, 1) := by decide +kernel
theorem dX3_findHeld_102 : decode cX3_findHeld 102 = .ok (.iconst (-1), 1) := by decide +kernel
theorem dX3_findHeld_103 : decode cX3_findHeld 103 = .ok (.ixor, 1) := by decide +kernel
theorem dX3_findHeld_104 : decode cX3_findHeld 104 = .ok (.iand, 1) := by decide +kernel
theorem dX3_findHeld_105 : decode cX3_findHeld 105 = .ok (.putfield 31, 3) := by decide +kernel
theorem dX3_findHeld_108 : decode cX3_findHeld 108 = .ok (.aload_n 0, 1) := by decide +kernel
theorem dX3_findHeld_109 : decode cX3_findHeld 109 = .ok (.aload_n 1, 1) := by decide +kernel
theorem dX3_findHeld_110 : decode cX3_findHeld 110 = .ok (.iload 4, 2) := by decide +kernel
theorem dX3_findHeld_112 : decode cX3_findHeld 112 = .ok (.invokevirtual 85, 3) := by decide +kernel
theorem dX3_findHeld_115 : decode cX3_findHeld 115 = .ok (.aload_n 0, 1) := by decide +kernel
theorem dX3_findHeld_116 : decode cX3_findHeld 116 = .ok (.aload_n 2, 1) := by decide +kernel
theorem dX3_findHeld_117 : decode cX3_findHeld 117 = .ok (.getfield 88, 3) := by decide +kernel
theorem dX3_findHeld_120 : decode cX3_findHeld 120 = .ok (.iload 4, 2) := by decide +kernel
theorem dX3_findHeld_122 : decode cX3_findHeld 122 = .ok (.iaload, 1) := by decide +kernel
theorem dX3_findHeld_123 : decode cX3_findHeld 123 = .ok (.invokevirtual 93, 3) := by decide +kernel
theorem dX3_findHeld_126 : decode cX3_findHeld 126 = .ok (.aload_n 0, 1) := by decide +kernel
theorem dX3_findHeld_127 : decode cX3_findHeld 127 = .ok (.aload_n 2, 1) := by decide +kernel
theorem dX3_findHeld_128 : decode cX3_findHeld 128 = .ok (.getfield 97, 3) := by decide +kernel
theorem dX3_findHeld_131 : decode cX3_findHeld 131 = .ok (.iload 4, 2) := by decide +kernel
theorem dX3_findHeld_133 : decode cX3_findHeld 133 = .ok (.iaload, 1) := by decide +kernel
theorem dX3_findHeld_134 : decode cX3_findHeld 134 = .ok (.invokevirtual 93, 3) := by decide +kernel
theorem dX3_findHeld_137 : decode cX3_findHeld 137 = .ok (.iinc 4 1, 3) := by decide +kernel
theorem dX3_findHeld_140 : decode cX3_findHeld 140 = .ok (.goto (-68), 3) := by decide +kernel
theorem dX3_findHeld_143 : decode cX3_findHeld 143 = .ok (.iinc 3 1, 3) := by decide +kernel
theorem dX3_findHeld_146 : decode cX3_findHeld 146 = .ok (.goto (-91), 3) := by decide +kernel
theorem dX3_findHeld_149 : decode cX3_findHeld 149 = .ok (.return_, 1) := by decide +kernel
def f_X3_findHeld_L2 (v1 : Int32) (s2 : sh_S) : Option ((Int32 × sh_S) ⊕ (sh_S)) := (if ((s2 0 9) * (8 : Int32)) ≤ v1 then some (.inr s2) else ob (if (8 : Int32) ≤ v1 then some (0 : Int32) else some (16777216 : Int32)) (fun v4 => gu (inb v1 192) (lb (ur s2 20 (upd (s2 20) (ix v1) v4)) (fun s6 => lb (v1 + (1 : Int32)) (fun v7 => some (.inl (v7, s6)))))))
def f_X3_findHeld_L72 (v13 : Int32) (s14 : sh_S) : Option ((Int32 × sh_S) ⊕ (sh_S)) := (if (s14 0 9) ≤ v13 then some (.inr s14) else ob (f_X9_hasBit (s14 19 6) v13) (fun v16 => ob (if v16 = 0 then some s14 else lb (ur s14 19 (upd (s14 19) 6 ((s14 19 6) &&& (((1 : Int32) <<< (v13 &&& 31)) ^^^ (-1 : Int32))))) (fun s18 => ob (f_X3_stepBehind v13 s18) (fun s19 => gu (inb v13 24) (ob (f_X3_join (s19 12 (ix v13)) s19) (fun s21 => gu (inb v13 24) (ob (f_X3_join (s21 13 (ix v13)) s21) (fun s23 => some s23))))))) (fun s17 => lb (v13 + (1 : Int32)) (fun v24 => some (.inl (v24, s17))))))
def f_X3_findHeld_L55 (v10 : Int32) (s11 : sh_S) : Option ((Int32 × sh_S) ⊕ (sh_S)) := (if (s11 19 6) = 0 then some (.inr s11) else (if (1000 : Int32) ≤ v10 then some (.inr s11) else ob (lp (fun q => f_X3_findHeld_L72 q.1 q.2) FU ((0 : Int32), s11)) (fun s15 => lb (v10 + (1 : Int32)) (fun v25 => some (.inl (v25, s15))))))
def f_X3_findHeld  (s0 : sh_S) : Option (sh_S) := ob (lp (fun q => f_X3_findHeld_L2 q.1 q.2) FU ((0 : Int32), s0)) (fun s3 => ob (if (s3 0 9) ≤ 0 then some (0 : Int32) else some (1 : Int32)) (fun v8 => lb (ur s3 19 (upd (s3 19) 6 v8)) (fun s9 => ob (lp (fun q => f_X3_findHeld_L55 q.1 q.2) FU ((0 : Int32), s9)) (fun s12 => some s12))))
set_option maxRecDepth 100000 in
set_option maxHeartbeats 4000000 in
theorem c_X3_findHeld  (s0 : sh_S) (s9x : sh_S) (hf : f_X3_findHeld  s0 = some s9x) : Ctr yX3_findHeld cX3_findHeld 5 none ({ frames := 2, cells := 0, slots := 0, locals := 85 } : Room) shCK [.ref 19, .ref 0, .ref 11] s0 none s9x := by
  refine Ctr.mk (ri := .return_) (by decide) (Nat.le_of_ble_eq_true rfl) (Rt_v) ?_
  intro G h hL hR hret
  refine k_drop (lv' := [(0, .ref 19), (1, .ref 0), (2, .ref 11)]) [0, 1, 2] rfl ?_
  unfold f_X3_findHeld at hf
  refine k_iconst (pc := 0) h dX3_findHeld_0 kc_iconst_0 ?_
  refine k_istore_n (pc := 1) h dX3_findHeld_1 rfl (nk hL (by decide)) (lv' := [(0, .ref 19), (1, .ref 0), (2, .ref 11), (3, .int (0 : Int32))]) rfl ?_
  obtain ⟨s3, hl, hf⟩ := ob_s hf
  refine k_drop (lv' := [(0, .ref 19), (1, .ref 0), (2, .ref 11), (3, .int (0 : Int32))]) [0, 1, 2, 3] rfl ?_
  refine lp_s (P := (fun q : Int32 × sh_S => sh_K G shCK 2 [(0, .ref 19), (1, .ref 0), (2, .ref 11), (3, .int q.1)] [] q.2)) (Q := (fun q : sh_S => sh_K G shCK 37 [(0, .ref 19), (1, .ref 0), (2, .ref 11)] [] q)) (s := ((0 : Int32), s0)) ?_ hl ?_
  · clear hf hl
    intro q rr hf kc2
    obtain ⟨v1, s2⟩ := q
    have hf : f_X3_findHeld_L2 v1 s2 = some rr := hf
    unfold f_X3_findHeld_L2 at hf
    refine k_iload_n (pc := 2) h dX3_findHeld_2 rfl 3 rfl ?_
    refine k_aload_n (pc := 3) h dX3_findHeld_3 rfl 1 rfl ?_
    refine k_getI (pc := 4) h fl_RX3_55 rfl rfl dX3_findHeld_4 ?_
    refine k_bipush (pc := 7) h dX3_findHeld_7 kc_bipush_8 ?_
    refine k_imul (pc := 9) h dX3_findHeld_9 ?_
    refine k_icmp_ge (pc := 10) (tgt := 37) h dX3_findHeld_10 rfl (fun hc => ?_) (fun hc => ?_)
    · have hf := it_p hc hf
      obtain rfl := so1 hf
      exact k_drop [0, 1, 2] rfl kc2
    · have hf := it_n hc hf
      refine k_aload_n (pc := 13) h dX3_findHeld_13 rfl 0 rfl ?_
      refine k_getR (pc := 14) h fl_RX3_24 rfl rfl dX3_findHeld_14 ?_
      refine k_iload_n (pc := 17) h dX3_findHeld_17 rfl 3 rfl ?_
      refine k_iload_n (pc := 18) h dX3_findHeld_18 rfl 3 rfl ?_
      refine k_bipush (pc := 19) h dX3_findHeld_19 kc_bipush_8 ?_
      obtain ⟨v4, hj, hf⟩ := ob_s hf
      have kj21 : sh_K G shCK 30 [(0, .ref 19), (1, .ref 0), (2, .ref 11), (3, .int v1)] [.int v4, .int v1, .ref 20] s2 := by
        obtain ⟨g5, hf⟩ := gu_s hf
        obtain ⟨s6, es6, hf⟩ := lb_s hf
        refine k_iast (pc := 30) (n := 192) h rfl g5 dX3_findHeld_30 ?_
        refine k_heap es6 ?_
        obtain ⟨v7, ev7, hf⟩ := lb_s hf
        refine k_iinc (pc := 31) h dX3_findHeld_31 3 rfl ((congrArg (_ + ·) kc_iconst_1).trans ev7.symm) (nk hL (by decide)) (lv' := [(0, .ref 19), (1, .ref 0), (2, .ref 11), (3, .int v7)]) rfl ?_
        refine k_goto (pc := 34) (tgt := 2) h dX3_findHeld_34 rfl ?_
        obtain rfl := so1 hf
        exact k_drop [0, 1, 2, 3] rfl kc2
      clear hf
      have hf := hj
      clear hj
      refine k_icmp_ge (pc := 21) (tgt := 29) h dX3_findHeld_21 rfl (fun hc => ?_) (fun hc => ?_)
      · have hf := it_p hc hf
        refine k_iconst (pc := 29) h dX3_findHeld_29 kc_iconst_0 ?_
        obtain rfl := so1 hf
        exact k_drop [0, 1, 2, 3] rfl kj21
      · have hf := it_n hc hf
        refine k_ldc (pc := 24) h dX3_findHeld_24 wd_637 ?_
        refine k_goto (pc := 26) (tgt := 30) h dX3_findHeld_26 rfl ?_
        obtain rfl := so1 hf
        exact k_drop [0, 1, 2, 3] rfl kj21
  · refine k_aload_n (pc := 37) h dX3_findHeld_37 rfl 0 rfl ?_
    refine k_aload_n (pc := 38) h dX3_findHeld_38 rfl 1 rfl ?_
    refine k_getI (pc := 39) h fl_RX3_55 rfl rfl dX3_findHeld_39 ?_
    obtain ⟨v8, hj, hf⟩ := ob_s hf
    have kj42 : sh_K G shCK 50 [(0, .ref 19), (1, .ref 0), (2, .ref 11)] [.int v8, .ref 19] s3 := by
      obtain ⟨s9, es9, hf⟩ := lb_s hf
      refine k_put (pc := 50) h fl_RX3_31 fp_X3_6 rfl rfl rfl rfl dX3_findHeld_50 ?_
      refine k_heap es9 ?_
      refine k_iconst (pc := 53) h dX3_findHeld_53 kc_iconst_0 ?_
      refine k_istore_n (pc := 54) h dX3_findHeld_54 rfl (nk hL (by decide)) (lv' := [(0, .ref 19), (1, .ref 0), (2, .ref 11), (3, .int (0 : Int32))]) rfl ?_
      obtain ⟨s12, hl, hf⟩ := ob_s hf
      refine k_drop (lv' := [(0, .ref 19), (1, .ref 0), (2, .ref 11), (3, .int (0 : Int32))]) [0, 1, 2, 3] rfl ?_
      refine lp_s (P := (fun q : Int32 × sh_S => sh_K G shCK 55 [(0, .ref 19), (1, .ref 0), (2, .ref 11), (3, .int q.1)] [] q.2)) (Q := (fun q : sh_S => sh_K G shCK 149 [] [] q)) (s := ((0 : Int32), s9)) ?_ hl ?_
      · clear hf hl
        intro q rr hf kc55
        obtain ⟨v10, s11⟩ := q
        have hf : f_X3_findHeld_L55 v10 s11 = some rr := hf
        unfold f_X3_findHeld_L55 at hf
        refine k_aload_n (pc := 55) h dX3_findHeld_55 rfl 0 rfl ?_
        refine k_getI (pc := 56) h fl_RX3_31 rfl rfl dX3_findHeld_56 ?_
        refine k_if_eq (pc := 59) (tgt := 149) h dX3_findHeld_59 rfl (fun hc => ?_) (fun hc => ?_)
        · have hf := it_p hc hf
          obtain rfl := so1 hf
          exact k_drop [] rfl kc55
        · have hf := it_n hc hf
          refine k_iload_n (pc := 62) h dX3_findHeld_62 rfl 3 rfl ?_
          refine k_sipush (pc := 63) h dX3_findHeld_63 kc_sipush_1000 ?_
          refine k_icmp_ge (pc := 66) (tgt := 149) h dX3_findHeld_66 rfl (fun hc => ?_) (fun hc => ?_)
          · have hf := it_p hc hf
            obtain rfl := so1 hf
            exact k_drop [] rfl kc55
          · have hf := it_n hc hf
            refine k_iconst (pc := 69) h dX3_findHeld_69 kc_iconst_0 ?_
            refine k_istore (pc := 70) h dX3_findHeld_70 (nk hL (by decide)) (lv' := [(0, .ref 19), (1, .ref 0), (2, .ref 11), (3, .int v10), (4, .int (0 : Int32))]) rfl ?_
            obtain ⟨s15, hl, hf⟩ := ob_s hf
            refine k_drop (lv' := [(0, .ref 19), (1, .ref 0), (2, .ref 11), (3, .int v10), (4, .int (0 : Int32))]) [0, 1, 2, 3, 4] rfl ?_
            refine lp_s (P := (fun q : Int32 × sh_S => sh_K G shCK 72 [(0, .ref 19), (1, .ref 0), (2, .ref 11), (3, .int v10), (4, .int q.1)] [] q.2)) (Q := (fun q : sh_S => sh_K G shCK 143 [(0, .ref 19), (1, .ref 0), (2, .ref 11), (3, .int v10)] [] q)) (s := ((0 : Int32), s11)) ?_ hl ?_
            · clear hf hl
              intro q rr hf kc72
              obtain ⟨v13, s14⟩ := q
              have hf : f_X3_findHeld_L72 v13 s14 = some rr := hf
              unfold f_X3_findHeld_L72 at hf
              refine k_iload (pc := 72) h dX3_findHeld_72 4 rfl ?_
              refine k_aload_n (pc := 74) h dX3_findHeld_74 rfl 1 rfl ?_
              refine k_getI (pc := 75) h fl_RX3_55 rfl rfl dX3_findHeld_75 ?_
              refine k_icmp_ge (pc := 78) (tgt := 143) h dX3_findHeld_78 rfl (fun hc => ?_) (fun hc => ?_)
              · have hf := it_p hc hf
                obtain rfl := so1 hf
                exact k_drop [0, 1, 2, 3] rfl kc72
              · have hf := it_n hc hf
                refine k_aload_n (pc := 81) h dX3_findHeld_81 rfl 0 rfl ?_
                refine k_getI (pc := 82) h fl_RX3_31 rfl rfl dX3_findHeld_82 ?_
                refine k_iload (pc := 85) h dX3_findHeld_85 4 rfl ?_
                obtain ⟨v16, cv16, hf⟩ := ob_s hf
                refine k_callNp (pc := 87) h cn_RX3_64 (c_X9_hasBit (s14 19 6) v13 _ v16 cv16) rfl rfl (st1 := [.int v16]) rfl ⟨rfl, rfl⟩ (rk hR (Nat.le_of_ble_eq_true rfl) (Nat.le_of_ble_eq_true rfl)) (Nat.le_of_ble_eq_true rfl) dX3_findHeld_87 ?_
                obtain ⟨s17, hj, hf⟩ := ob_s hf
                have kj90 : sh_K G shCK 137 [(0, .ref 19), (1, .ref 0), (2, .ref 11), (3, .int v10), (4, .int v13)] [] s17 := by
                  obtain ⟨v24, ev24, hf⟩ := lb_s hf
                  refine k_iinc (pc := 137) h dX3_findHeld_137 4 rfl ((congrArg (_ + ·) kc_iconst_1).trans ev24.symm) (nk hL (by decide)) (lv' := [(0, .ref 19), (1, .ref 0), (2, .ref 11), (3, .int v10), (4, .int v24)]) rfl ?_
                  refine k_goto (pc := 140) (tgt := 72) h dX3_findHeld_140 rfl ?_
                  obtain rfl := so1 hf
                  exact k_drop [0, 1, 2, 3, 4] rfl kc72
                clear hf
                have hf := hj
                clear hj
                refine k_if_eq (pc := 90) (tgt := 137) h dX3_findHeld_90 rfl (fun hc => ?_) (fun hc => ?_)
                · have hf := it_p hc hf
                  obtain rfl := so1 hf
                  exact k_drop [0, 1, 2, 3, 4] rfl kj90
                · have hf := it_n hc hf
                  refine k_aload_n (pc := 93) h dX3_findHeld_93 rfl 0 rfl ?_
                  refine k_dup (pc := 94) h dX3_findHeld_94 rfl ?_
                  refine k_getI (pc := 95) h fl_RX3_31 rfl rfl dX3_findHeld_95 ?_
                  refine k_iconst (pc := 98) h dX3_findHeld_98 kc_iconst_1 ?_
                  refine k_iload (pc := 99) h dX3_findHeld_99 4 rfl ?_
                  refine k_ishl (pc := 101) h dX3_findHeld_101 ?_
                  refine k_iconst (pc := 102) h dX3_findHeld_102 kc_iconst_m1 ?_
                  refine k_ixor (pc := 103) h dX3_findHeld_103 ?_
                  refine k_iand (pc := 104) h dX3_findHeld_104 ?_
                  obtain ⟨s18, es18, hf⟩ := lb_s hf
                  refine k_put (pc := 105) h fl_RX3_31 fp_X3_6 rfl rfl rfl rfl dX3_findHeld_105 ?_
                  refine k_heap es18 ?_
                  refine k_aload_n (pc := 108) h dX3_findHeld_108 rfl 0 rfl ?_
                  refine k_aload_n (pc := 109) h dX3_findHeld_109 rfl 1 rfl ?_
                  refine k_iload (pc := 110) h dX3_findHeld_110 4 rfl ?_
                  obtain ⟨s19, cs19, hf⟩ := ob_s hf
                  refine k_callV0 (pc := 112) h cv_RX3_85 (c_X3_stepBehind v13 s18 s19 cs19) rfl rfl rfl (st1 := []) rfl ⟨rfl, rfl⟩ (rk hR (Nat.le_of_ble_eq_true rfl) (Nat.le_of_ble_eq_true rfl)) (Nat.le_of_ble_eq_true rfl) dX3_findHeld_112 ?_
                  refine k_aload_n (pc := 115) h dX3_findHeld_115 rfl 0 rfl ?_
                  refine k_aload_n (pc := 116) h dX3_findHeld_116 rfl 2 rfl ?_
                  refine k_getR (pc := 117) h fl_RX3_88 rfl rfl dX3_findHeld_117 ?_
                  refine k_iload (pc := 120) h dX3_findHeld_120 4 rfl ?_
                  obtain ⟨g20, hf⟩ := gu_s hf
                  refine k_iald (pc := 122) (n := 24) h rfl g20 dX3_findHeld_122 ?_
                  obtain ⟨s21, cs21, hf⟩ := ob_s hf
                  refine k_callV0 (pc := 123) h cv_RX3_93 (c_X3_join (s19 12 (ix v13)) s19 s21 cs21) rfl rfl rfl (st1 := []) rfl ⟨rfl, rfl⟩ (rk hR (Nat.le_of_ble_eq_true rfl) (Nat.le_of_ble_eq_true rfl)) (Nat.le_of_ble_eq_true rfl) dX3_findHeld_123 ?_
                  refine k_aload_n (pc := 126) h dX3_findHeld_126 rfl 0 rfl ?_
                  refine k_aload_n (pc := 127) h dX3_findHeld_127 rfl 2 rfl ?_
                  refine k_getR (pc := 128) h fl_RX3_97 rfl rfl dX3_findHeld_128 ?_
                  refine k_iload (pc := 131) h dX3_findHeld_131 4 rfl ?_
                  obtain ⟨g22, hf⟩ := gu_s hf
                  refine k_iald (pc := 133) (n := 24) h rfl g22 dX3_findHeld_133 ?_
                  obtain ⟨s23, cs23, hf⟩ := ob_s hf
                  refine k_callV0 (pc := 134) h cv_RX3_93 (c_X3_join (s21 13 (ix v13)) s21 s23 cs23) rfl rfl rfl (st1 := []) rfl ⟨rfl, rfl⟩ (rk hR (Nat.le_of_ble_eq_true rfl) (Nat.le_of_ble_eq_true rfl)) (Nat.le_of_ble_eq_true rfl) dX3_findHeld_134 ?_
                  obtain rfl := so1 hf
                  exact k_drop [0, 1, 2, 3, 4] rfl kj90
            · obtain ⟨v25, ev25, hf⟩ := lb_s hf
              refine k_iinc (pc := 143) h dX3_findHeld_143 3 rfl ((congrArg (_ + ·) kc_iconst_1).trans ev25.symm) (nk hL (by decide)) (lv' := [(0, .ref 19), (1, .ref 0), (2, .ref 11), (3, .int v25)]) rfl ?_
              refine k_goto (pc := 146) (tgt := 55) h dX3_findHeld_146 rfl ?_
              obtain rfl := so1 hf
              exact k_drop [0, 1, 2, 3] rfl kc55
      · obtain rfl := so1 hf
        exact hret 149 _ dX3_findHeld_149 trivial
    clear hf
    have hf := hj
    clear hj
    refine k_if_le (pc := 42) (tgt := 49) h dX3_findHeld_42 rfl (fun hc => ?_) (fun hc => ?_)
    · have hf := it_p hc hf
      refine k_iconst (pc := 49) h dX3_findHeld_49 kc_iconst_0 ?_
      obtain rfl := so1 hf
      exact k_drop [0, 1, 2] rfl kj42
    · have hf := it_n hc hf
      refine k_iconst (pc := 45) h dX3_findHeld_45 kc_iconst_1 ?_
      refine k_goto (pc := 46) (tgt := 50) h dX3_findHeld_46 rfl ?_
      obtain rfl := so1 hf
      exact k_drop [0, 1, 2] rfl kj42
theorem dX3_heldThrough_0 : decode cX3_heldThrough 0 = .ok (.aload_n 1, 1) := by decide +kernel
theorem dX3_heldThrough_1 : decode cX3_heldThrough 1 = .ok (.getfield 75, 3) := by decide +kernel
theorem dX3_heldThrough_4 : decode cX3_heldThrough 4 = .ok (.iload_n 2, 1) := by decide +kernel
theorem dX3_heldThrough_5 : decode cX3_heldThrough 5 = .ok (.baload, 1) := by decide +kernel
theorem dX3_heldThrough_6 : decode cX3_heldThrough 6 = .ok (.ifCond .eq 22, 3) := by decide +kernel
theorem dX3_heldThrough_9 : decode cX3_heldThrough 9 = .ok (.aload_n 0, 1) := by decide +kernel
theorem dX3_heldThrough_10 : decode cX3_heldThrough 10 = .ok (.getfield 24, 3) := by decide +kernel
theorem dX3_heldThrough_13 : decode cX3_heldThrough 13 = .ok (.iload_n 2, 1) := by decide +kernel
theorem dX3_heldThrough_14 : decode cX3_heldThrough 14 = .ok (.bipush 8, 2) := by decide +kernel
theorem dX3_heldThrough_16 : decode cX3_heldThrough 16 = .ok (.imul, 1) := by decide +kernel
theorem dX3_heldThrough_17 : decode cX3_heldThrough 17 = .ok (.aload_n 1, 1) := by decide +kernel
theorem dX3_heldThrough_18 : decode cX3_heldThrough 18 = .ok (.getfield 78, 3) := by decide +kernel
theorem dX3_heldThrough_21 : decode cX3_heldThrough 21 = .ok (.iload_n 2, 1) := by decide +kernel
theorem dX3_heldThrough_22 : decode cX3_heldThrough 22 = .ok (.iaload, 1) := by decide +kernel
theorem dX3_heldThrough_23 : decode cX3_heldThrough 23 = .ok (.iadd, 1) := by decide +kernel
theorem dX3_heldThrough_24 : decode cX3_heldThrough 24 = .ok (.iaload, 1) := by decide +kernel
theorem dX3_heldThrough_25 : decode cX3_heldThrough 25 = .ok (.goto 4, 3) := by decide +kernel
theorem dX3_heldThrough_28 : decode cX3_heldThrough 28 = .ok (.iconst 0, 1) := by decide +kernel
theorem dX3_heldThrough_29 : decode cX3_heldThrough 29 = .ok (.ireturn, 1) := by decide +kernel
def f_X3_heldThrough (p2 : Int32) (s0 : sh_S) : Option (Int32) := gu (inb p2 24) (ob (if (s0 9 (ix p2)) = 0 then some (0 : Int32) else gu (inb p2 24) (gu (inb ((p2 * (8 : Int32)) + (s0 6 (ix p2))) 192) (some (s0 20 (ix ((p2 * (8 : Int32)) + (s0 6 (ix p2)))))))) (fun v2 => some v2))
set_option maxRecDepth 100000 in
set_option maxHeartbeats 4000000 in
theorem c_X3_heldThrough (p2 : Int32) (s0 : sh_S) (r : Int32) (hf : f_X3_heldThrough p2 s0 = some r) : Ctr yX3_heldThrough cX3_heldThrough 3 (some .int) ({ frames := 0, cells := 0, slots := 0, locals := 0 } : Room) shCK [.ref 19, .ref 0, .int p2] s0 (some (.int r)) s0 := by
  refine Ctr.mk (ri := .ireturn) (by decide) (Nat.le_of_ble_eq_true rfl) (Rt_i r) ?_
  intro G h hL hR hret
  refine k_drop (lv' := [(0, .ref 19), (1, .ref 0), (2, .int p2)]) [0, 1, 2] rfl ?_
  unfold f_X3_heldThrough at hf
  refine k_aload_n (pc := 0) h dX3_heldThrough_0 rfl 1 rfl ?_
  refine k_getR (pc := 1) h fl_RX3_75 rfl rfl dX3_heldThrough_1 ?_
  refine k_iload_n (pc := 4) h dX3_heldThrough_4 rfl 2 rfl ?_
  obtain ⟨g1, hf⟩ := gu_s hf
  refine k_zald (pc := 5) (n := 24) h rfl g1 dX3_heldThrough_5 ?_
  obtain ⟨v2, hj, hf⟩ := ob_s hf
  have kj6 : sh_K G shCK 29 [] [.int v2] s0 := by
    obtain rfl := so1 hf
    exact hret 29 _ dX3_heldThrough_29 trivial
  clear hf
  have hf := hj
  clear hj
  refine k_if_eq (pc := 6) (tgt := 28) h dX3_heldThrough_6 rfl (fun hc => ?_) (fun hc => ?_)
  · have hf := it_p hc hf
    refine k_iconst (pc := 28) h dX3_heldThrough_28 kc_iconst_0 ?_
    obtain rfl := so1 hf
    exact k_drop [] rfl kj6
  · have hf := it_n hc hf
    refine k_aload_n (pc := 9) h dX3_heldThrough_9 rfl 0 rfl ?_
    refine k_getR (pc := 10) h fl_RX3_24 rfl rfl dX3_heldThrough_10 ?_
    refine k_iload_n (pc := 13) h dX3_heldThrough_13 rfl 2 rfl ?_
    refine k_bipush (pc := 14) h dX3_heldThrough_14 kc_bipush_8 ?_
    refine k_imul (pc := 16) h dX3_heldThrough_16 ?_
    refine k_aload_n (pc := 17) h dX3_heldThrough_17 rfl 1 rfl ?_
    refine k_getR (pc := 18) h fl_RX3_78 rfl rfl dX3_heldThrough_18 ?_
    refine k_iload_n (pc := 21) h dX3_heldThrough_21 rfl 2 rfl ?_
    obtain ⟨g3, hf⟩ := gu_s hf
    refine k_iald (pc := 22) (n := 24) h rfl g3 dX3_heldThrough_22 ?_
    refine k_iadd (pc := 23) h dX3_heldThrough_23 ?_
    obtain ⟨g4, hf⟩ := gu_s hf
    refine k_iald (pc := 24) (n := 192) h rfl g4 dX3_heldThrough_24 ?_
    refine k_goto (pc := 25) (tgt := 29) h dX3_heldThrough_25 rfl ?_
    obtain rfl := so1 hf
    exact k_drop [] rfl kj6
theorem dX3_markPoints_0 : decode cX3_markPoints 0 = .ok (.iconst 0, 1) := by decide +kernel
theorem dX3_markPoints_1 : decode cX3_markPoints 1 = .ok (.istore_n 3, 1) := by decide +kernel
theorem dX3_markPoints_2 : decode cX3_markPoints 2 = .ok (.iload_n 3, 1) := by decide +kernel
theorem dX3_markPoints_3 : decode cX3_markPoints 3 = .ok (.aload_n 1, 1) := by decide +kernel
theorem dX3_markPoints_4 : decode cX3_markPoints 4 = .ok (.getfield 55, 3) := by decide +kernel
theorem dX3_markPoints_7 : decode cX3_markPoints 7 = .ok (.if_icmp .ge 138, 3) := by decide +kernel
theorem dX3_markPoints_10 : decode cX3_markPoints 10 = .ok (.iconst 0, 1) := by decide +kernel
theorem dX3_markPoints_11 : decode cX3_markPoints 11 = .ok (.istore 4, 2) := by decide +kernel
theorem dX3_markPoints_13 : decode cX3_markPoints 13 = .ok (.iconst 0, 1) := by decide +kernel
theorem dX3_markPoints_14 : decode cX3_markPoints 14 = .ok (.istore 5, 2) := by decide +kernel
theorem dX3_markPoints_16 : decode cX3_markPoints 16 = .ok (.iconst 0, 1) := by decide +kernel
theorem dX3_markPoints_17 : decode cX3_markPoints 17 = .ok (.istore 6, 2) := by decide +kernel
theorem dX3_markPoints_19 : decode cX3_markPoints 19 = .ok (.iload 6, 2) := by decide +kernel
theorem dX3_markPoints_21 : decode cX3_markPoints 21 = .ok (.bipush 8, 2) := by decide +kernel
theorem dX3_markPoints_23 : decode cX3_markPoints 23 = .ok (.if_icmp .ge 69, 3) := by decide +kernel
theorem dX3_markPoints_26 : decode cX3_markPoints 26 = .ok (.iload 4, 2) := by decide +kernel
theorem dX3_markPoints_28 : decode cX3_markPoints 28 = .ok (.aload_n 2, 1) := by decide +kernel
theorem dX3_markPoints_29 : decode cX3_markPoints 29 = .ok (.getfield 106, 3) := by decide +kernel
theorem dX3_markPoints_32 : decode cX3_markPoints 32 = .ok (.iload_n 3, 1) := by decide +kernel
theorem dX3_markPoints_33 : decode cX3_markPoints 33 = .ok (.iaload, 1) := by decide +kernel
theorem dX3_markPoints_34 : decode cX3_markPoints 34 = .ok (.iload 6, 2) := by decide +kernel
theorem dX3_markPoints_36 : decode cX3_markPoints 36 = .ok (.invokestatic 64, 3) := by decide +kernel
theorem dX3_markPoints_39 : decode cX3_markPoints 39 = .ok (.ifCond .eq 13, 3) := by decide +kernel
theorem dX3_markPoints_42 : decode cX3_markPoints 42 = .ok (.aload_n 0, 1) := by decide +kernel
theorem dX3_markPoints_43 : decode cX3_markPoints 43 = .ok (.getfield 49, 3) := by decide +kernel
theorem dX3_markPoints_46 : decode cX3_markPoints 46 = .ok (.iload 6, 2) := by decide +kernel
theorem dX3_markPoints_48 : decode cX3_markPoints 48 = .ok (.iaload, 1) := by decide +kernel
theorem dX3_markPoints_49 : decode cX3_markPoints 49 = .ok (.goto 4, 3) := by decide +kernel
theorem dX3_markPoints_52 : decode cX3_markPoints 52 = .ok (.iconst 0, 1) := by decide +kernel
theorem dX3_markPoints_53 : decode cX3_markPoints 53 = .ok (.ior, 1) := by decide +kernel
theorem dX3_markPoints_54 : decode cX3_markPoints 54 = .ok (.istore 4, 2) := by decide +kernel
theorem dX3_markPoints_56 : decode cX3_markPoints 56 = .ok (.iload 5, 2) := by decide +kernel
theorem dX3_markPoints_58 : decode cX3_markPoints 58 = .ok (.aload_n 2, 1) := by decide +kernel
theorem dX3_markPoints_59 : decode cX3_markPoints 59 = .ok (.getfield 109, 3) := by decide +kernel
theorem dX3_markPoints_62 : decode cX3_markPoints 62 = .ok (.iload 6, 2) := by decide +kernel
theorem dX3_markPoints_64 : decode cX3_markPoints 64 = .ok (.iaload, 1) := by decide +kernel
theorem dX3_markPoints_65 : decode cX3_markPoints 65 = .ok (.iload_n 3, 1) := by decide +kernel
theorem dX3_markPoints_66 : decode cX3_markPoints 66 = .ok (.invokestatic 64, 3) := by decide +kernel
theorem dX3_markPoints_69 : decode cX3_markPoints 69 = .ok (.ifCond .eq 13, 3) := by decide +kernel
theorem dX3_markPoints_72 : decode cX3_markPoints 72 = .ok (.aload_n 0, 1) := by decide +kernel
theorem dX3_markPoints_73 : decode cX3_markPoints 73 = .ok (.getfield 52, 3) := by decide +kernel
theorem dX3_markPoints_76 : decode cX3_markPoints 76 = .ok (.iload 6, 2) := by decide +kernel
theorem dX3_markPoints_78 : decode cX3_markPoints 78 = .ok (.iaload, 1) := by decide +kernel
theorem dX3_markPoints_79 : decode cX3_markPoints 79 = .ok (.goto 4, 3) := by decide +kernel
theorem dX3_markPoints_82 : decode cX3_markPoints 82 = .ok (.iconst 0, 1) := by decide +kernel
theorem dX3_markPoints_83 : decode cX3_markPoints 83 = .ok (.ior, 1) := by decide +kernel
theorem dX3_markPoints_84 : decode cX3_markPoints 84 = .ok (.istore 5, 2) := by decide +kernel
theorem dX3_markPoints_86 : decode cX3_markPoints 86 = .ok (.iinc 6 1, 3) := by decide +kernel
theorem dX3_markPoints_89 : decode cX3_markPoints 89 = .ok (.goto (-70), 3) := by decide +kernel
theorem dX3_markPoints_92 : decode cX3_markPoints 92 = .ok (.aload_n 0, 1) := by decide +kernel
theorem dX3_markPoints_93 : decode cX3_markPoints 93 = .ok (.getfield 40, 3) := by decide +kernel
theorem dX3_markPoints_96 : decode cX3_markPoints 96 = .ok (.iload_n 3, 1) := by decide +kernel
theorem dX3_markPoints_97 : decode cX3_markPoints 97 = .ok (.iload 4, 2) := by decide +kernel
theorem dX3_markPoints_99 : decode cX3_markPoints 99 = .ok (.iastore, 1) := by decide +kernel
theorem dX3_markPoints_100 : decode cX3_markPoints 100 = .ok (.aload_n 0, 1) := by decide +kernel
theorem dX3_markPoints_101 : decode cX3_markPoints 101 = .ok (.getfield 43, 3) := by decide +kernel
theorem dX3_markPoints_104 : decode cX3_markPoints 104 = .ok (.iload_n 3, 1) := by decide +kernel
theorem dX3_markPoints_105 : decode cX3_markPoints 105 = .ok (.iload 5, 2) := by decide +kernel
theorem dX3_markPoints_107 : decode cX3_markPoints 107 = .ok (.iastore, 1) := by decide +kernel
theorem dX3_markPoints_108 : decode cX3_markPoints 108 = .ok (.aload_n 0, 1) := by decide +kernel
theorem dX3_markPoints_109 : decode cX3_markPoints 109 = .ok (.getfield 46, 3) := by decide +kernel
theorem dX3_markPoints_112 : decode cX3_markPoints 112 = .ok (.iload_n 3, 1) := by decide +kernel
theorem dX3_markPoints_113 : decode cX3_markPoints 113 = .ok (.aload_n 0, 1) := by decide +kernel
theorem dX3_markPoints_114 : decode cX3_markPoints 114 = .ok (.aload_n 1, 1) := by decide +kernel
theorem dX3_markPoints_115 : decode cX3_markPoints 115 = .ok (.iload_n 3, 1) := by decide +kernel
theorem dX3_markPoints_116 : decode cX3_markPoints 116 = .ok (.invokevirtual 112, 3) := by decide +kernel
theorem dX3_markPoints_119 : decode cX3_markPoints 119 = .ok (.aload_n 0, 1) := by decide +kernel
theorem dX3_markPoints_120 : decode cX3_markPoints 120 = .ok (.getfield 21, 3) := by decide +kernel
theorem dX3_markPoints_123 : decode cX3_markPoints 123 = .ok (.iand, 1) := by decide +kernel
theorem dX3_markPoints_124 : decode cX3_markPoints 124 = .ok (.iastore, 1) := by decide +kernel
theorem dX3_markPoints_125 : decode cX3_markPoints 125 = .ok (.aload_n 0, 1) := by decide +kernel
theorem dX3_markPoints_126 : decode cX3_markPoints 126 = .ok (.getfield 34, 3) := by decide +kernel
theorem dX3_markPoints_129 : decode cX3_markPoints 129 = .ok (.iload_n 3, 1) := by decide +kernel
theorem dX3_markPoints_130 : decode cX3_markPoints 130 = .ok (.iconst 0, 1) := by decide +kernel
theorem dX3_markPoints_131 : decode cX3_markPoints 131 = .ok (.iastore, 1) := by decide +kernel
theorem dX3_markPoints_132 : decode cX3_markPoints 132 = .ok (.aload_n 0, 1) := by decide +kernel
theorem dX3_markPoints_133 : decode cX3_markPoints 133 = .ok (.getfield 37, 3) := by decide +kernel
theorem dX3_markPoints_136 : decode cX3_markPoints 136 = .ok (.iload_n 3, 1) := by decide +kernel
theorem dX3_markPoints_137 : decode cX3_markPoints 137 = .ok (.iconst 0, 1) := by decide +kernel
theorem dX3_markPoints_138 : decode cX3_markPoints 138 = .ok (.iastore, 1) := by decide +kernel
theorem dX3_markPoints_139 : decode cX3_markPoints 139 = .ok (.iinc 3 1, 3) := by decide +kernel
theorem dX3_markPoints_142 : decode cX3_markPoints 142 = .ok (.goto (-140), 3) := by decide +kernel
theorem dX3_markPoints_145 : decode cX3_markPoints 145 = .ok (.return_, 1) := by decide +kernel
def f_X3_markPoints_L19 (s2 : sh_S) (v1 : Int32) (v4 : Int32) (v5 : Int32) (v6 : Int32) : Option ((Int32 × Int32 × Int32) ⊕ (Int32 × Int32)) := (if (8 : Int32) ≤ v6 then some (.inr (v4, v5)) else gu (inb v1 24) (ob (f_X9_hasBit (s2 15 (ix v1)) v6) (fun v10 => ob (if v10 = 0 then some (0 : Int32) else gu (inb v6 8) (some (s2 27 (ix v6)))) (fun v11 => lb ((v4 ||| v11)) (fun v13 => gu (inb v6 8) (ob (f_X9_hasBit (s2 18 (ix v6)) v1) (fun v15 => ob (if v15 = 0 then some (0 : Int32) else gu (inb v6 8) (some (s2 28 (ix v6)))) (fun v16 => lb ((v5 ||| v16)) (fun v18 => lb (v6 + (1 : Int32)) (fun v19 => some (.inl (v13, v18, v19))))))))))))
def f_X3_markPoints_L2 (v1 : Int32) (s2 : sh_S) : Option ((Int32 × sh_S) ⊕ (sh_S)) := (if (s2 0 9) ≤ v1 then some (.inr s2) else ob2 (lp (fun q => f_X3_markPoints_L19 s2 v1 q.1 q.2.1 q.2.2) FU ((0 : Int32), (0 : Int32), (0 : Int32))) (fun v7 v8 => gu (inb v1 24) (lb (ur s2 24 (upd (s2 24) (ix v1) v7)) (fun s21 => gu (inb v1 24) (lb (ur s21 25 (upd (s21 25) (ix v1) v8)) (fun s23 => ob (f_X3_heldThrough v1 s23) (fun v24 => gu (inb v1 24) (lb (ur s23 26 (upd (s23 26) (ix v1) (v24 &&& (s23 19 3)))) (fun s26 => gu (inb v1 24) (lb (ur s26 22 (upd (s26 22) (ix v1) (0 : Int32))) (fun s28 => gu (inb v1 24) (lb (ur s28 23 (upd (s28 23) (ix v1) (0 : Int32))) (fun s30 => lb (v1 + (1 : Int32)) (fun v31 => some (.inl (v31, s30))))))))))))))))
def f_X3_markPoints  (s0 : sh_S) : Option (sh_S) := ob (lp (fun q => f_X3_markPoints_L2 q.1 q.2) FU ((0 : Int32), s0)) (fun s3 => some s3)
set_option maxRecDepth 100000 in
set_option maxHeartbeats 4000000 in
theorem c_X3_markPoints  (s0 : sh_S) (s9x : sh_S) (hf : f_X3_markPoints  s0 = some s9x) : Ctr yX3_markPoints cX3_markPoints 7 none ({ frames := 1, cells := 0, slots := 0, locals := 22 } : Room) shCK [.ref 19, .ref 0, .ref 11] s0 none s9x := by
  refine Ctr.mk (ri := .return_) (by decide) (Nat.le_of_ble_eq_true rfl) (Rt_v) ?_
  intro G h hL hR hret
  refine k_drop (lv' := [(0, .ref 19), (1, .ref 0), (2, .ref 11)]) [0, 1, 2] rfl ?_
  unfold f_X3_markPoints at hf
  refine k_iconst (pc := 0) h dX3_markPoints_0 kc_iconst_0 ?_
  refine k_istore_n (pc := 1) h dX3_markPoints_1 rfl (nk hL (by decide)) (lv' := [(0, .ref 19), (1, .ref 0), (2, .ref 11), (3, .int (0 : Int32))]) rfl ?_
  obtain ⟨s3, hl, hf⟩ := ob_s hf
  refine k_drop (lv' := [(0, .ref 19), (1, .ref 0), (2, .ref 11), (3, .int (0 : Int32))]) [0, 1, 2, 3] rfl ?_
  refine lp_s (P := (fun q : Int32 × sh_S => sh_K G shCK 2 [(0, .ref 19), (1, .ref 0), (2, .ref 11), (3, .int q.1)] [] q.2)) (Q := (fun q : sh_S => sh_K G shCK 145 [] [] q)) (s := ((0 : Int32), s0)) ?_ hl ?_
  · clear hf hl
    intro q rr hf kc2
    obtain ⟨v1, s2⟩ := q
    have hf : f_X3_markPoints_L2 v1 s2 = some rr := hf
    unfold f_X3_markPoints_L2 at hf
    refine k_iload_n (pc := 2) h dX3_markPoints_2 rfl 3 rfl ?_
    refine k_aload_n (pc := 3) h dX3_markPoints_3 rfl 1 rfl ?_
    refine k_getI (pc := 4) h fl_RX3_55 rfl rfl dX3_markPoints_4 ?_
    refine k_icmp_ge (pc := 7) (tgt := 145) h dX3_markPoints_7 rfl (fun hc => ?_) (fun hc => ?_)
    · have hf := it_p hc hf
      obtain rfl := so1 hf
      exact k_drop [] rfl kc2
    · have hf := it_n hc hf
      refine k_iconst (pc := 10) h dX3_markPoints_10 kc_iconst_0 ?_
      refine k_istore (pc := 11) h dX3_markPoints_11 (nk hL (by decide)) (lv' := [(0, .ref 19), (1, .ref 0), (2, .ref 11), (3, .int v1), (4, .int (0 : Int32))]) rfl ?_
      refine k_iconst (pc := 13) h dX3_markPoints_13 kc_iconst_0 ?_
      refine k_istore (pc := 14) h dX3_markPoints_14 (nk hL (by decide)) (lv' := [(0, .ref 19), (1, .ref 0), (2, .ref 11), (3, .int v1), (4, .int (0 : Int32)), (5, .int (0 : Int32))]) rfl ?_
      refine k_iconst (pc := 16) h dX3_markPoints_16 kc_iconst_0 ?_
      refine k_istore (pc := 17) h dX3_markPoints_17 (nk hL (by decide)) (lv' := [(0, .ref 19), (1, .ref 0), (2, .ref 11), (3, .int v1), (4, .int (0 : Int32)), (5, .int (0 : Int32)), (6, .int (0 : Int32))]) rfl ?_
      obtain ⟨v7, v8, hl, hf⟩ := ob2_s hf
      refine k_drop (lv' := [(0, .ref 19), (1, .ref 0), (2, .ref 11), (3, .int v1), (4, .int (0 : Int32)), (5, .int (0 : Int32)), (6, .int (0 : Int32))]) [0, 1, 2, 3, 4, 5, 6] rfl ?_
      refine lp_s (P := (fun q : Int32 × Int32 × Int32 => sh_K G shCK 19 [(0, .ref 19), (1, .ref 0), (2, .ref 11), (3, .int v1), (4, .int q.1), (5, .int q.2.1), (6, .int q.2.2)] [] s2)) (Q := (fun q : Int32 × Int32 => sh_K G shCK 92 [(0, .ref 19), (1, .ref 0), (2, .ref 11), (3, .int v1), (4, .int q.1), (5, .int q.2)] [] s2)) (s := ((0 : Int32), (0 : Int32), (0 : Int32))) ?_ hl ?_
      · clear hf hl
        intro q rr hf kc19
        obtain ⟨v4, v5, v6⟩ := q
        have hf : f_X3_markPoints_L19 s2 v1 v4 v5 v6 = some rr := hf
        unfold f_X3_markPoints_L19 at hf
        refine k_iload (pc := 19) h dX3_markPoints_19 6 rfl ?_
        refine k_bipush (pc := 21) h dX3_markPoints_21 kc_bipush_8 ?_
        refine k_icmp_ge (pc := 23) (tgt := 92) h dX3_markPoints_23 rfl (fun hc => ?_) (fun hc => ?_)
        · have hf := it_p hc hf
          obtain rfl := so1 hf
          exact k_drop [0, 1, 2, 3, 4, 5] rfl kc19
        · have hf := it_n hc hf
          refine k_iload (pc := 26) h dX3_markPoints_26 4 rfl ?_
          refine k_aload_n (pc := 28) h dX3_markPoints_28 rfl 2 rfl ?_
          refine k_getR (pc := 29) h fl_RX3_106 rfl rfl dX3_markPoints_29 ?_
          refine k_iload_n (pc := 32) h dX3_markPoints_32 rfl 3 rfl ?_
          obtain ⟨g9, hf⟩ := gu_s hf
          refine k_iald (pc := 33) (n := 24) h rfl g9 dX3_markPoints_33 ?_
          refine k_iload (pc := 34) h dX3_markPoints_34 6 rfl ?_
          obtain ⟨v10, cv10, hf⟩ := ob_s hf
          refine k_callNp (pc := 36) h cn_RX3_64 (c_X9_hasBit (s2 15 (ix v1)) v6 _ v10 cv10) rfl rfl (st1 := [.int v10, .int v4]) rfl ⟨rfl, rfl⟩ (rk hR (Nat.le_of_ble_eq_true rfl) (Nat.le_of_ble_eq_true rfl)) (Nat.le_of_ble_eq_true rfl) dX3_markPoints_36 ?_
          obtain ⟨v11, hj, hf⟩ := ob_s hf
          have kj39 : sh_K G shCK 53 [(0, .ref 19), (1, .ref 0), (2, .ref 11), (3, .int v1), (5, .int v5), (6, .int v6)] [.int v11, .int v4] s2 := by
            refine k_ior (pc := 53) h dX3_markPoints_53 ?_
            obtain ⟨v13, ev13, hf⟩ := lb_s hf
            refine k_top ev13 ?_
            refine k_istore (pc := 54) h dX3_markPoints_54 (nk hL (by decide)) (lv' := [(0, .ref 19), (1, .ref 0), (2, .ref 11), (3, .int v1), (4, .int v13), (5, .int v5), (6, .int v6)]) rfl ?_
            refine k_iload (pc := 56) h dX3_markPoints_56 5 rfl ?_
            refine k_aload_n (pc := 58) h dX3_markPoints_58 rfl 2 rfl ?_
            refine k_getR (pc := 59) h fl_RX3_109 rfl rfl dX3_markPoints_59 ?_
            refine k_iload (pc := 62) h dX3_markPoints_62 6 rfl ?_
            obtain ⟨g14, hf⟩ := gu_s hf
            refine k_iald (pc := 64) (n := 8) h rfl g14 dX3_markPoints_64 ?_
            refine k_iload_n (pc := 65) h dX3_markPoints_65 rfl 3 rfl ?_
            obtain ⟨v15, cv15, hf⟩ := ob_s hf
            refine k_callNp (pc := 66) h cn_RX3_64 (c_X9_hasBit (s2 18 (ix v6)) v1 _ v15 cv15) rfl rfl (st1 := [.int v15, .int v5]) rfl ⟨rfl, rfl⟩ (rk hR (Nat.le_of_ble_eq_true rfl) (Nat.le_of_ble_eq_true rfl)) (Nat.le_of_ble_eq_true rfl) dX3_markPoints_66 ?_
            obtain ⟨v16, hj, hf⟩ := ob_s hf
            have kj69 : sh_K G shCK 83 [(0, .ref 19), (1, .ref 0), (2, .ref 11), (3, .int v1), (4, .int v13), (6, .int v6)] [.int v16, .int v5] s2 := by
              refine k_ior (pc := 83) h dX3_markPoints_83 ?_
              obtain ⟨v18, ev18, hf⟩ := lb_s hf
              refine k_top ev18 ?_
              refine k_istore (pc := 84) h dX3_markPoints_84 (nk hL (by decide)) (lv' := [(0, .ref 19), (1, .ref 0), (2, .ref 11), (3, .int v1), (4, .int v13), (5, .int v18), (6, .int v6)]) rfl ?_
              obtain ⟨v19, ev19, hf⟩ := lb_s hf
              refine k_iinc (pc := 86) h dX3_markPoints_86 6 rfl ((congrArg (_ + ·) kc_iconst_1).trans ev19.symm) (nk hL (by decide)) (lv' := [(0, .ref 19), (1, .ref 0), (2, .ref 11), (3, .int v1), (4, .int v13), (5, .int v18), (6, .int v19)]) rfl ?_
              refine k_goto (pc := 89) (tgt := 19) h dX3_markPoints_89 rfl ?_
              obtain rfl := so1 hf
              exact k_drop [0, 1, 2, 3, 4, 5, 6] rfl kc19
            clear hf
            have hf := hj
            clear hj
            refine k_if_eq (pc := 69) (tgt := 82) h dX3_markPoints_69 rfl (fun hc => ?_) (fun hc => ?_)
            · have hf := it_p hc hf
              refine k_iconst (pc := 82) h dX3_markPoints_82 kc_iconst_0 ?_
              obtain rfl := so1 hf
              exact k_drop [0, 1, 2, 3, 4, 6] rfl kj69
            · have hf := it_n hc hf
              refine k_aload_n (pc := 72) h dX3_markPoints_72 rfl 0 rfl ?_
              refine k_getR (pc := 73) h fl_RX3_52 rfl rfl dX3_markPoints_73 ?_
              refine k_iload (pc := 76) h dX3_markPoints_76 6 rfl ?_
              obtain ⟨g17, hf⟩ := gu_s hf
              refine k_iald (pc := 78) (n := 8) h rfl g17 dX3_markPoints_78 ?_
              refine k_goto (pc := 79) (tgt := 83) h dX3_markPoints_79 rfl ?_
              obtain rfl := so1 hf
              exact k_drop [0, 1, 2, 3, 4, 6] rfl kj69
          clear hf
          have hf := hj
          clear hj
          refine k_if_eq (pc := 39) (tgt := 52) h dX3_markPoints_39 rfl (fun hc => ?_) (fun hc => ?_)
          · have hf := it_p hc hf
            refine k_iconst (pc := 52) h dX3_markPoints_52 kc_iconst_0 ?_
            obtain rfl := so1 hf
            exact k_drop [0, 1, 2, 3, 5, 6] rfl kj39
          · have hf := it_n hc hf
            refine k_aload_n (pc := 42) h dX3_markPoints_42 rfl 0 rfl ?_
            refine k_getR (pc := 43) h fl_RX3_49 rfl rfl dX3_markPoints_43 ?_
            refine k_iload (pc := 46) h dX3_markPoints_46 6 rfl ?_
            obtain ⟨g12, hf⟩ := gu_s hf
            refine k_iald (pc := 48) (n := 8) h rfl g12 dX3_markPoints_48 ?_
            refine k_goto (pc := 49) (tgt := 53) h dX3_markPoints_49 rfl ?_
            obtain rfl := so1 hf
            exact k_drop [0, 1, 2, 3, 5, 6] rfl kj39
      · refine k_aload_n (pc := 92) h dX3_markPoints_92 rfl 0 rfl ?_
        refine k_getR (pc := 93) h fl_RX3_40 rfl rfl dX3_markPoints_93 ?_
        refine k_iload_n (pc := 96) h dX3_markPoints_96 rfl 3 rfl ?_
        refine k_iload (pc := 97) h dX3_markPoints_97 4 rfl ?_
        obtain ⟨g20, hf⟩ := gu_s hf
        obtain ⟨s21, es21, hf⟩ := lb_s hf
        refine k_iast (pc := 99) (n := 24) h rfl g20 dX3_markPoints_99 ?_
        refine k_heap es21 ?_
        refine k_aload_n (pc := 100) h dX3_markPoints_100 rfl 0 rfl ?_
        refine k_getR (pc := 101) h fl_RX3_43 rfl rfl dX3_markPoints_101 ?_
        refine k_iload_n (pc := 104) h dX3_markPoints_104 rfl 3 rfl ?_
        refine k_iload (pc := 105) h dX3_markPoints_105 5 rfl ?_
        obtain ⟨g22, hf⟩ := gu_s hf
        obtain ⟨s23, es23, hf⟩ := lb_s hf
        refine k_iast (pc := 107) (n := 24) h rfl g22 dX3_markPoints_107 ?_
        refine k_heap es23 ?_
        refine k_aload_n (pc := 108) h dX3_markPoints_108 rfl 0 rfl ?_
        refine k_getR (pc := 109) h fl_RX3_46 rfl rfl dX3_markPoints_109 ?_
        refine k_iload_n (pc := 112) h dX3_markPoints_112 rfl 3 rfl ?_
        refine k_aload_n (pc := 113) h dX3_markPoints_113 rfl 0 rfl ?_
        refine k_aload_n (pc := 114) h dX3_markPoints_114 rfl 1 rfl ?_
        refine k_iload_n (pc := 115) h dX3_markPoints_115 rfl 3 rfl ?_
        obtain ⟨v24, cv24, hf⟩ := ob_s hf
        refine k_callV0 (pc := 116) h cv_RX3_112 (c_X3_heldThrough v1 s23 v24 cv24) rfl rfl rfl (st1 := [.int v24, .int v1, .ref 26]) rfl ⟨rfl, rfl⟩ (rk hR (Nat.le_of_ble_eq_true rfl) (Nat.le_of_ble_eq_true rfl)) (Nat.le_of_ble_eq_true rfl) dX3_markPoints_116 ?_
        refine k_aload_n (pc := 119) h dX3_markPoints_119 rfl 0 rfl ?_
        refine k_getI (pc := 120) h fl_RX3_21 rfl rfl dX3_markPoints_120 ?_
        refine k_iand (pc := 123) h dX3_markPoints_123 ?_
        obtain ⟨g25, hf⟩ := gu_s hf
        obtain ⟨s26, es26, hf⟩ := lb_s hf
        refine k_iast (pc := 124) (n := 24) h rfl g25 dX3_markPoints_124 ?_
        refine k_heap es26 ?_
        refine k_aload_n (pc := 125) h dX3_markPoints_125 rfl 0 rfl ?_
        refine k_getR (pc := 126) h fl_RX3_34 rfl rfl dX3_markPoints_126 ?_
        refine k_iload_n (pc := 129) h dX3_markPoints_129 rfl 3 rfl ?_
        refine k_iconst (pc := 130) h dX3_markPoints_130 kc_iconst_0 ?_
        obtain ⟨g27, hf⟩ := gu_s hf
        obtain ⟨s28, es28, hf⟩ := lb_s hf
        refine k_iast (pc := 131) (n := 24) h rfl g27 dX3_markPoints_131 ?_
        refine k_heap es28 ?_
        refine k_aload_n (pc := 132) h dX3_markPoints_132 rfl 0 rfl ?_
        refine k_getR (pc := 133) h fl_RX3_37 rfl rfl dX3_markPoints_133 ?_
        refine k_iload_n (pc := 136) h dX3_markPoints_136 rfl 3 rfl ?_
        refine k_iconst (pc := 137) h dX3_markPoints_137 kc_iconst_0 ?_
        obtain ⟨g29, hf⟩ := gu_s hf
        obtain ⟨s30, es30, hf⟩ := lb_s hf
        refine k_iast (pc := 138) (n := 24) h rfl g29 dX3_markPoints_138 ?_
        refine k_heap es30 ?_
        obtain ⟨v31, ev31, hf⟩ := lb_s hf
        refine k_iinc (pc := 139) h dX3_markPoints_139 3 rfl ((congrArg (_ + ·) kc_iconst_1).trans ev31.symm) (nk hL (by decide)) (lv' := [(0, .ref 19), (1, .ref 0), (2, .ref 11), (3, .int v31), (4, .int v7), (5, .int v8)]) rfl ?_
        refine k_goto (pc := 142) (tgt := 2) h dX3_markPoints_142 rfl ?_
        obtain rfl := so1 hf
        exact k_drop [0, 1, 2, 3] rfl kc2
  · obtain rfl := so1 hf
    exact hret 145 _ dX3_markPoints_145 trivial
theorem dX3_pass_0 : decode cX3_pass 0 = .ok (.iload_n 1, 1) := by decide +kernel
theorem dX3_pass_1 : decode cX3_pass 1 = .ok (.iconst (-1), 1) := by decide +kernel
theorem dX3_pass_2 : decode cX3_pass 2 = .ok (.if_icmp .ne 5, 3) := by decide +kernel
theorem dX3_pass_5 : decode cX3_pass 5 = .ok (.iconst 0, 1) := by decide +kernel
theorem dX3_pass_6 : decode cX3_pass 6 = .ok (.ireturn, 1) := by decide +kernel
theorem dX3_pass_7 : decode cX3_pass 7 = .ok (.aload_n 0, 1) := by decide +kernel
theorem dX3_pass_8 : decode cX3_pass 8 = .ok (.getfield 34, 3) := by decide +kernel
theorem dX3_pass_11 : decode cX3_pass 11 = .ok (.iload_n 1, 1) := by decide +kernel
theorem dX3_pass_12 : decode cX3_pass 12 = .ok (.iaload, 1) := by decide +kernel
theorem dX3_pass_13 : decode cX3_pass 13 = .ok (.iload_n 2, 1) := by decide +kernel
theorem dX3_pass_14 : decode cX3_pass 14 = .ok (.aload_n 0, 1) := by decide +kernel
theorem dX3_pass_15 : decode cX3_pass 15 = .ok (.getfield 43, 3) := by decide +kernel
theorem dX3_pass_18 : decode cX3_pass 18 = .ok (.iload_n 1, 1) := by decide +kernel
theorem dX3_pass_19 : decode cX3_pass 19 = .ok (.iaload, 1) := by decide +kernel
theorem dX3_pass_20 : decode cX3_pass 20 = .ok (.iand, 1) := by decide +kernel
theorem dX3_pass_21 : decode cX3_pass 21 = .ok (.ior, 1) := by decide +kernel
theorem dX3_pass_22 : decode cX3_pass 22 = .ok (.istore 4, 2) := by decide +kernel
theorem dX3_pass_24 : decode cX3_pass 24 = .ok (.aload_n 0, 1) := by decide +kernel
theorem dX3_pass_25 : decode cX3_pass 25 = .ok (.getfield 37, 3) := by decide +kernel
theorem dX3_pass_28 : decode cX3_pass 28 = .ok (.iload_n 1, 1) := by decide +kernel
theorem dX3_pass_29 : decode cX3_pass 29 = .ok (.iaload, 1) := by decide +kernel
theorem dX3_pass_30 : decode cX3_pass 30 = .ok (.iload_n 3, 1) := by decide +kernel
theorem dX3_pass_31 : decode cX3_pass 31 = .ok (.aload_n 0, 1) := by decide +kernel
theorem dX3_pass_32 : decode cX3_pass 32 = .ok (.getfield 43, 3) := by decide +kernel
theorem dX3_pass_35 : decode cX3_pass 35 = .ok (.iload_n 1, 1) := by decide +kernel
theorem dX3_pass_36 : decode cX3_pass 36 = .ok (.iaload, 1) := by decide +kernel
theorem dX3_pass_37 : decode cX3_pass 37 = .ok (.iand, 1) := by decide +kernel
theorem dX3_pass_38 : decode cX3_pass 38 = .ok (.ior, 1) := by decide +kernel
theorem dX3_pass_39 : decode cX3_pass 39 = .ok (.istore 5, 2) := by decide +kernel
theorem dX3_pass_41 : decode cX3_pass 41 = .ok (.iload 4, 2) := by decide +kernel
theorem dX3_pass_43 : decode cX3_pass 43 = .ok (.aload_n 0, 1) := by decide +kernel
theorem dX3_pass_44 : decode cX3_pass 44 = .ok (.getfield 34, 3) := by decide +kernel
theorem dX3_pass_47 : decode cX3_pass 47 = .ok (.iload_n 1, 1) := by decide +kernel
theorem dX3_pass_48 : decode cX3_pass 48 = .ok (.iaload, 1) := by decide +kernel
theorem dX3_pass_49 : decode cX3_pass 49 = .ok (.if_icmp .ne 14, 3) := by decide +kernel
theorem dX3_pass_52 : decode cX3_pass 52 = .ok (.iload 5, 2) := by decide +kernel
theorem dX3_pass_54 : decode cX3_pass 54 = .ok (.aload_n 0, 1) := by decide +kernel
theorem dX3_pass_55 : decode cX3_pass 55 = .ok (.getfield 37, 3) := by decide +kernel
theorem dX3_pass_58 : decode cX3_pass 58 = .ok (.iload_n 1, 1) := by decide +kernel
theorem dX3_pass_59 : decode cX3_pass 59 = .ok (.iaload, 1) := by decide +kernel
theorem dX3_pass_60 : decode cX3_pass 60 = .ok (.if_icmp .eq 7, 3) := by decide +kernel
theorem dX3_pass_63 : decode cX3_pass 63 = .ok (.iconst 1, 1) := by decide +kernel
theorem dX3_pass_64 : decode cX3_pass 64 = .ok (.goto 4, 3) := by decide +kernel
theorem dX3_pass_67 : decode cX3_pass 67 = .ok (.iconst 0, 1) := by decide +kernel
theorem dX3_pass_68 : decode cX3_pass 68 = .ok (.istore 6, 2) := by decide +kernel
theorem dX3_pass_70 : decode cX3_pass 70 = .ok (.aload_n 0, 1) := by decide +kernel
theorem dX3_pass_71 : decode cX3_pass 71 = .ok (.getfield 34, 3) := by decide +kernel
theorem dX3_pass_74 : decode cX3_pass 74 = .ok (.iload_n 1, 1) := by decide +kernel
theorem dX3_pass_75 : decode cX3_pass 75 = .ok (.iload 4, 2) := by decide +kernel
theorem dX3_pass_77 : decode cX3_pass 77 = .ok (.iastore, 1) := by decide +kernel
theorem dX3_pass_78 : decode cX3_pass 78 = .ok (.aload_n 0, 1) := by decide +kernel
theorem dX3_pass_79 : decode cX3_pass 79 = .ok (.getfield 37, 3) := by decide +kernel
theorem dX3_pass_82 : decode cX3_pass 82 = .ok (.iload_n 1, 1) := by decide +kernel
theorem dX3_pass_83 : decode cX3_pass 83 = .ok (.iload 5, 2) := by decide +kernel
theorem dX3_pass_85 : decode cX3_pass 85 = .ok (.iastore, 1) := by decide +kernel
theorem dX3_pass_86 : decode cX3_pass 86 = .ok (.iload 6, 2) := by decide +kernel
theorem dX3_pass_88 : decode cX3_pass 88 = .ok (.ireturn, 1) := by decide +kernel
def f_X3_pass (p1 : Int32) (p2 : Int32) (p3 : Int32) (s0 : sh_S) : Option (Int32 × sh_S) := (if p1 = (-1 : Int32) then some ((0 : Int32), s0) else gu (inb p1 24) (gu (inb p1 24) (lb (((s0 22 (ix p1)) ||| (p2 &&& (s0 25 (ix p1))))) (fun v3 => gu (inb p1 24) (gu (inb p1 24) (lb (((s0 23 (ix p1)) ||| (p3 &&& (s0 25 (ix p1))))) (fun v6 => gu (inb p1 24) (ob (if v3 = (s0 22 (ix p1)) then gu (inb p1 24) ((if v6 = (s0 23 (ix p1)) then some (0 : Int32) else some (1 : Int32))) else some (1 : Int32)) (fun v8 => gu (inb p1 24) (lb (ur s0 22 (upd (s0 22) (ix p1) v3)) (fun s11 => gu (inb p1 24) (lb (ur s11 23 (upd (s11 23) (ix p1) v6)) (fun s13 => gu (v8 = 0 ∨ v8 = 1) (some (v8, s13)))))))))))))))
set_option maxRecDepth 100000 in
set_option maxHeartbeats 4000000 in
theorem c_X3_pass (p1 : Int32) (p2 : Int32) (p3 : Int32) (s0 : sh_S) (r : Int32) (s9x : sh_S) (hf : f_X3_pass p1 p2 p3 s0 = some (r, s9x)) : Ctr yX3_pass cX3_pass 7 (some .boolean) ({ frames := 0, cells := 0, slots := 0, locals := 0 } : Room) shCK [.ref 19, .int p1, .int p2, .int p3] s0 (some (.int r)) s9x := by
  refine Ctr.mk (ri := .ireturn) (by decide) (Nat.le_of_ble_eq_true rfl) (Rt_z r) ?_
  intro G h hL hR hret
  refine k_drop (lv' := [(0, .ref 19), (1, .int p1), (2, .int p2), (3, .int p3)]) [0, 1, 2, 3] rfl ?_
  unfold f_X3_pass at hf
  refine k_iload_n (pc := 0) h dX3_pass_0 rfl 1 rfl ?_
  refine k_iconst (pc := 1) h dX3_pass_1 kc_iconst_m1 ?_
  refine k_icmp_ne (pc := 2) (tgt := 7) h dX3_pass_2 rfl (fun hc => ?_) (fun hc => ?_)
  · have hf := it_n hc hf
    refine k_aload_n (pc := 7) h dX3_pass_7 rfl 0 rfl ?_
    refine k_getR (pc := 8) h fl_RX3_34 rfl rfl dX3_pass_8 ?_
    refine k_iload_n (pc := 11) h dX3_pass_11 rfl 1 rfl ?_
    obtain ⟨g1, hf⟩ := gu_s hf
    refine k_iald (pc := 12) (n := 24) h rfl g1 dX3_pass_12 ?_
    refine k_iload_n (pc := 13) h dX3_pass_13 rfl 2 rfl ?_
    refine k_aload_n (pc := 14) h dX3_pass_14 rfl 0 rfl ?_
    refine k_getR (pc := 15) h fl_RX3_43 rfl rfl dX3_pass_15 ?_
    refine k_iload_n (pc := 18) h dX3_pass_18 rfl 1 rfl ?_
    obtain ⟨g2, hf⟩ := gu_s hf
    refine k_iald (pc := 19) (n := 24) h rfl g2 dX3_pass_19 ?_
    refine k_iand (pc := 20) h dX3_pass_20 ?_
    refine k_ior (pc := 21) h dX3_pass_21 ?_
    obtain ⟨v3, ev3, hf⟩ := lb_s hf
    refine k_top ev3 ?_
    refine k_istore (pc := 22) h dX3_pass_22 (nk hL (by decide)) (lv' := [(0, .ref 19), (1, .int p1), (2, .int p2), (3, .int p3), (4, .int v3)]) rfl ?_
    refine k_aload_n (pc := 24) h dX3_pass_24 rfl 0 rfl ?_
    refine k_getR (pc := 25) h fl_RX3_37 rfl rfl dX3_pass_25 ?_
    refine k_iload_n (pc := 28) h dX3_pass_28 rfl 1 rfl ?_
    obtain ⟨g4, hf⟩ := gu_s hf
    refine k_iald (pc := 29) (n := 24) h rfl g4 dX3_pass_29 ?_
    refine k_iload_n (pc := 30) h dX3_pass_30 rfl 3 rfl ?_
    refine k_aload_n (pc := 31) h dX3_pass_31 rfl 0 rfl ?_
    refine k_getR (pc := 32) h fl_RX3_43 rfl rfl dX3_pass_32 ?_
    refine k_iload_n (pc := 35) h dX3_pass_35 rfl 1 rfl ?_
    obtain ⟨g5, hf⟩ := gu_s hf
    refine k_iald (pc := 36) (n := 24) h rfl g5 dX3_pass_36 ?_
    refine k_iand (pc := 37) h dX3_pass_37 ?_
    refine k_ior (pc := 38) h dX3_pass_38 ?_
    obtain ⟨v6, ev6, hf⟩ := lb_s hf
    refine k_top ev6 ?_
    refine k_istore (pc := 39) h dX3_pass_39 (nk hL (by decide)) (lv' := [(0, .ref 19), (1, .int p1), (2, .int p2), (3, .int p3), (4, .int v3), (5, .int v6)]) rfl ?_
    refine k_iload (pc := 41) h dX3_pass_41 4 rfl ?_
    refine k_aload_n (pc := 43) h dX3_pass_43 rfl 0 rfl ?_
    refine k_getR (pc := 44) h fl_RX3_34 rfl rfl dX3_pass_44 ?_
    refine k_iload_n (pc := 47) h dX3_pass_47 rfl 1 rfl ?_
    obtain ⟨g7, hf⟩ := gu_s hf
    refine k_iald (pc := 48) (n := 24) h rfl g7 dX3_pass_48 ?_
    obtain ⟨v8, hj, hf⟩ := ob_s hf
    have kj49 : sh_K G shCK 68 [(0, .ref 19), (1, .int p1), (4, .int v3), (5, .int v6)] [.int v8] s0 := by
      refine k_istore (pc := 68) h dX3_pass_68 (nk hL (by decide)) (lv' := [(0, .ref 19), (1, .int p1), (4, .int v3), (5, .int v6), (6, .int v8)]) rfl ?_
      refine k_aload_n (pc := 70) h dX3_pass_70 rfl 0 rfl ?_
      refine k_getR (pc := 71) h fl_RX3_34 rfl rfl dX3_pass_71 ?_
      refine k_iload_n (pc := 74) h dX3_pass_74 rfl 1 rfl ?_
      refine k_iload (pc := 75) h dX3_pass_75 2 rfl ?_
      obtain ⟨g10, hf⟩ := gu_s hf
      obtain ⟨s11, es11, hf⟩ := lb_s hf
      refine k_iast (pc := 77) (n := 24) h rfl g10 dX3_pass_77 ?_
      refine k_heap es11 ?_
      refine k_aload_n (pc := 78) h dX3_pass_78 rfl 0 rfl ?_
      refine k_getR (pc := 79) h fl_RX3_37 rfl rfl dX3_pass_79 ?_
      refine k_iload_n (pc := 82) h dX3_pass_82 rfl 1 rfl ?_
      refine k_iload (pc := 83) h dX3_pass_83 3 rfl ?_
      obtain ⟨g12, hf⟩ := gu_s hf
      obtain ⟨s13, es13, hf⟩ := lb_s hf
      refine k_iast (pc := 85) (n := 24) h rfl g12 dX3_pass_85 ?_
      refine k_heap es13 ?_
      refine k_iload (pc := 86) h dX3_pass_86 4 rfl ?_
      obtain ⟨g14, hf⟩ := gu_s hf
      obtain ⟨rfl, rfl⟩ := so2 hf
      exact hret 88 _ dX3_pass_88 g14
    clear hf
    have hf := hj
    clear hj
    refine k_icmp_ne (pc := 49) (tgt := 63) h dX3_pass_49 rfl (fun hc => ?_) (fun hc => ?_)
    · have hf := it_n hc hf
      refine k_iconst (pc := 63) h dX3_pass_63 kc_iconst_1 ?_
      refine k_goto (pc := 64) (tgt := 68) h dX3_pass_64 rfl ?_
      obtain rfl := so1 hf
      exact k_drop [0, 1, 4, 5] rfl kj49
    · have hf := it_p hc hf
      refine k_iload (pc := 52) h dX3_pass_52 5 rfl ?_
      refine k_aload_n (pc := 54) h dX3_pass_54 rfl 0 rfl ?_
      refine k_getR (pc := 55) h fl_RX3_37 rfl rfl dX3_pass_55 ?_
      refine k_iload_n (pc := 58) h dX3_pass_58 rfl 1 rfl ?_
      obtain ⟨g9, hf⟩ := gu_s hf
      refine k_iald (pc := 59) (n := 24) h rfl g9 dX3_pass_59 ?_
      refine k_icmp_eq (pc := 60) (tgt := 67) h dX3_pass_60 rfl (fun hc => ?_) (fun hc => ?_)
      · have hf := it_p hc hf
        refine k_iconst (pc := 67) h dX3_pass_67 kc_iconst_0 ?_
        obtain rfl := so1 hf
        exact k_drop [0, 1, 4, 5] rfl kj49
      · have hf := it_n hc hf
        refine k_iconst (pc := 63) h dX3_pass_63 kc_iconst_1 ?_
        refine k_goto (pc := 64) (tgt := 68) h dX3_pass_64 rfl ?_
        obtain rfl := so1 hf
        exact k_drop [0, 1, 4, 5] rfl kj49
  · have hf := it_p hc hf
    refine k_iconst (pc := 5) h dX3_pass_5 kc_iconst_0 ?_
    obtain ⟨rfl, rfl⟩ := so2 hf
    exact hret 6 _ dX3_pass_6 (Or.inl rfl)
theorem dX3_findScopes_0 : decode cX3_findScopes 0 = .ok (.iconst 1, 1) := by decide +kernel
theorem dX3_findScopes_1 : decode cX3_findScopes 1 = .ok (.istore_n 3, 1) := by decide +kernel
theorem dX3_findScopes_2 : decode cX3_findScopes 2 = .ok (.iconst 0, 1) := by decide +kernel
theorem dX3_findScopes_3 : decode cX3_findScopes 3 = .ok (.istore 4, 2) := by decide +kernel
theorem dX3_findScopes_5 : decode cX3_findScopes 5 = .ok (.iload_n 3, 1) := by decide +kernel
theorem dX3_findScopes_6 : decode cX3_findScopes 6 = .ok (.ifCond .eq 141, 3) := by decide +kernel
theorem dX3_findScopes_9 : decode cX3_findScopes 9 = .ok (.iload 4, 2) := by decide +kernel
theorem dX3_findScopes_11 : decode cX3_findScopes 11 = .ok (.sipush 1000, 3) := by decide +kernel
theorem dX3_findScopes_14 : decode cX3_findScopes 14 = .ok (.if_icmp .ge 133, 3) := by decide +kernel
theorem dX3_findScopes_17 : decode cX3_findScopes 17 = .ok (.iconst 0, 1) := by decide +kernel
theorem dX3_findScopes_18 : decode cX3_findScopes 18 = .ok (.istore_n 3, 1) := by decide +kernel
theorem dX3_findScopes_19 : decode cX3_findScopes 19 = .ok (.iconst 0, 1) := by decide +kernel
theorem dX3_findScopes_20 : decode cX3_findScopes 20 = .ok (.istore 5, 2) := by decide +kernel
theorem dX3_findScopes_22 : decode cX3_findScopes 22 = .ok (.iload 5, 2) := by decide +kernel
theorem dX3_findScopes_24 : decode cX3_findScopes 24 = .ok (.iload_n 2, 1) := by decide +kernel
theorem dX3_findScopes_25 : decode cX3_findScopes 25 = .ok (.if_icmp .ge 116, 3) := by decide +kernel
theorem dX3_findScopes_28 : decode cX3_findScopes 28 = .ok (.aload_n 0, 1) := by decide +kernel
theorem dX3_findScopes_29 : decode cX3_findScopes 29 = .ok (.getfield 34, 3) := by decide +kernel
theorem dX3_findScopes_32 : decode cX3_findScopes 32 = .ok (.iload 5, 2) := by decide +kernel
theorem dX3_findScopes_34 : decode cX3_findScopes 34 = .ok (.iaload, 1) := by decide +kernel
theorem dX3_findScopes_35 : decode cX3_findScopes 35 = .ok (.aload_n 0, 1) := by decide +kernel
theorem dX3_findScopes_36 : decode cX3_findScopes 36 = .ok (.getfield 40, 3) := by decide +kernel
theorem dX3_findScopes_39 : decode cX3_findScopes 39 = .ok (.iload 5, 2) := by decide +kernel
theorem dX3_findScopes_41 : decode cX3_findScopes 41 = .ok (.iaload, 1) := by decide +kernel
theorem dX3_findScopes_42 : decode cX3_findScopes 42 = .ok (.iconst (-1), 1) := by decide +kernel
theorem dX3_findScopes_43 : decode cX3_findScopes 43 = .ok (.ixor, 1) := by decide +kernel
theorem dX3_findScopes_44 : decode cX3_findScopes 44 = .ok (.iand, 1) := by decide +kernel
theorem dX3_findScopes_45 : decode cX3_findScopes 45 = .ok (.istore 6, 2) := by decide +kernel
theorem dX3_findScopes_47 : decode cX3_findScopes 47 = .ok (.iload 6, 2) := by decide +kernel
theorem dX3_findScopes_49 : decode cX3_findScopes 49 = .ok (.aload_n 0, 1) := by decide +kernel
theorem dX3_findScopes_50 : decode cX3_findScopes 50 = .ok (.getfield 37, 3) := by decide +kernel
theorem dX3_findScopes_53 : decode cX3_findScopes 53 = .ok (.iload 5, 2) := by decide +kernel
theorem dX3_findScopes_55 : decode cX3_findScopes 55 = .ok (.iaload, 1) := by decide +kernel
theorem dX3_findScopes_56 : decode cX3_findScopes 56 = .ok (.aload_n 0, 1) := by decide +kernel
theorem dX3_findScopes_57 : decode cX3_findScopes 57 = .ok (.getfield 46, 3) := by decide +kernel
theorem dX3_findScopes_60 : decode cX3_findScopes 60 = .ok (.iload 5, 2) := by decide +kernel
theorem dX3_findScopes_62 : decode cX3_findScopes 62 = .ok (.iaload, 1) := by decide +kernel
theorem dX3_findScopes_63 : decode cX3_findScopes 63 = .ok (.ior, 1) := by decide +kernel
theorem dX3_findScopes_64 : decode cX3_findScopes 64 = .ok (.iand, 1) := by decide +kernel
theorem dX3_findScopes_65 : decode cX3_findScopes 65 = .ok (.istore 7, 2) := by decide +kernel
theorem dX3_findScopes_67 : decode cX3_findScopes 67 = .ok (.iload 6, 2) := by decide +kernel
theorem dX3_findScopes_69 : decode cX3_findScopes 69 = .ok (.aload_n 0, 1) := by decide +kernel
theorem dX3_findScopes_70 : decode cX3_findScopes 70 = .ok (.getfield 9, 3) := by decide +kernel
theorem dX3_findScopes_73 : decode cX3_findScopes 73 = .ok (.iconst 1, 1) := by decide +kernel
theorem dX3_findScopes_74 : decode cX3_findScopes 74 = .ok (.iload 5, 2) := by decide +kernel
theorem dX3_findScopes_76 : decode cX3_findScopes 76 = .ok (.ishl, 1) := by decide +kernel
theorem dX3_findScopes_77 : decode cX3_findScopes 77 = .ok (.iand, 1) := by decide +kernel
theorem dX3_findScopes_78 : decode cX3_findScopes 78 = .ok (.ior, 1) := by decide +kernel
theorem dX3_findScopes_79 : decode cX3_findScopes 79 = .ok (.istore 8, 2) := by decide +kernel
theorem dX3_findScopes_81 : decode cX3_findScopes 81 = .ok (.aload_n 0, 1) := by decide +kernel
theorem dX3_findScopes_82 : decode cX3_findScopes 82 = .ok (.aload_n 1, 1) := by decide +kernel
theorem dX3_findScopes_83 : decode cX3_findScopes 83 = .ok (.getfield 88, 3) := by decide +kernel
theorem dX3_findScopes_86 : decode cX3_findScopes 86 = .ok (.iload 5, 2) := by decide +kernel
theorem dX3_findScopes_88 : decode cX3_findScopes 88 = .ok (.iaload, 1) := by decide +kernel
theorem dX3_findScopes_89 : decode cX3_findScopes 89 = .ok (.iload 8, 2) := by decide +kernel
theorem dX3_findScopes_91 : decode cX3_findScopes 91 = .ok (.iload 7, 2) := by decide +kernel
theorem dX3_findScopes_93 : decode cX3_findScopes 93 = .ok (.invokevirtual 116, 3) := by decide +kernel
theorem dX3_findScopes_96 : decode cX3_findScopes 96 = .ok (.istore 9, 2) := by decide +kernel
theorem dX3_findScopes_98 : decode cX3_findScopes 98 = .ok (.aload_n 0, 1) := by decide +kernel
theorem dX3_findScopes_99 : decode cX3_findScopes 99 = .ok (.aload_n 1, 1) := by decide +kernel
theorem dX3_findScopes_100 : decode cX3_findScopes 100 = .ok (.getfield 97, 3) := by decide +kernel
theorem dX3_findScopes_103 : decode cX3_findScopes 103 = .ok (.iload 5, 2) := by decide +kernel
theorem dX3_findScopes_105 : decode cX3_findScopes 105 = .ok (.iaload, 1) := by decide +kernel
theorem dX3_findScopes_106 : decode cX3_findScopes 106 = .ok (.iload 8, 2) := by decide +kernel
theorem dX3_findScopes_108 : decode cX3_findScopes 108 = .ok (.iload 7, 2) := by decide +kernel
theorem dX3_findScopes_110 : decode cX3_findScopes 110 = .ok (.invokevirtual 116, 3) := by decide +kernel
theorem dX3_findScopes_113 : decode cX3_findScopes 113 = .ok (.istore 10, 2) := by decide +kernel
theorem dX3_findScopes_115 : decode cX3_findScopes 115 = .ok (.iload_n 3, 1) := by decide +kernel
theorem dX3_findScopes_116 : decode cX3_findScopes 116 = .ok (.ifCond .ne 13, 3) := by decide +kernel
theorem dX3_findScopes_119 : decode cX3_findScopes 119 = .ok (.iload 9, 2) := by decide +kernel
theorem dX3_findScopes_121 : decode cX3_findScopes 121 = .ok (.ifCond .ne 8, 3) := by decide +kernel
theorem dX3_findScopes_124 : decode cX3_findScopes 124 = .ok (.iload 10, 2) := by decide +kernel
theorem dX3_findScopes_126 : decode cX3_findScopes 126 = .ok (.ifCond .eq 7, 3) := by decide +kernel
theorem dX3_findScopes_129 : decode cX3_findScopes 129 = .ok (.iconst 1, 1) := by decide +kernel
theorem dX3_findScopes_130 : decode cX3_findScopes 130 = .ok (.goto 4, 3) := by decide +kernel
theorem dX3_findScopes_133 : decode cX3_findScopes 133 = .ok (.iconst 0, 1) := by decide +kernel
theorem dX3_findScopes_134 : decode cX3_findScopes 134 = .ok (.istore_n 3, 1) := by decide +kernel
theorem dX3_findScopes_135 : decode cX3_findScopes 135 = .ok (.iinc 5 1, 3) := by decide +kernel
theorem dX3_findScopes_138 : decode cX3_findScopes 138 = .ok (.goto (-116), 3) := by decide +kernel
theorem dX3_findScopes_141 : decode cX3_findScopes 141 = .ok (.iinc 4 1, 3) := by decide +kernel
theorem dX3_findScopes_144 : decode cX3_findScopes 144 = .ok (.goto (-139), 3) := by decide +kernel
theorem dX3_findScopes_147 : decode cX3_findScopes 147 = .ok (.return_, 1) := by decide +kernel
def f_X3_findScopes_L22 (p2 : Int32) (v5 : Int32) (v6 : Int32) (s7 : sh_S) : Option ((Int32 × Int32 × sh_S) ⊕ (Int32 × sh_S)) := (if p2 ≤ v6 then some (.inr (v5, s7)) else gu (inb v6 24) (gu (inb v6 24) (lb (((s7 22 (ix v6)) &&& ((s7 24 (ix v6)) ^^^ (-1 : Int32)))) (fun v12 => gu (inb v6 24) (gu (inb v6 24) (lb ((v12 &&& ((s7 23 (ix v6)) ||| (s7 26 (ix v6))))) (fun v15 => lb ((v12 ||| ((s7 19 0) &&& ((1 : Int32) <<< (v6 &&& 31))))) (fun v16 => gu (inb v6 24) (ob2 (f_X3_pass (s7 12 (ix v6)) v16 v15 s7) (fun v18 s19 => gu (inb v6 24) (ob2 (f_X3_pass (s19 13 (ix v6)) v16 v15 s19) (fun v21 s22 => ob (if v5 = 0 then (if v18 = 0 then (if v21 = 0 then some (0 : Int32) else some (1 : Int32)) else some (1 : Int32)) else some (1 : Int32)) (fun v23 => lb (v6 + (1 : Int32)) (fun v24 => some (.inl (v23, v24, s22))))))))))))))))
def f_X3_findScopes_L5 (p2 : Int32) (v1 : Int32) (v2 : Int32) (s3 : sh_S) : Option ((Int32 × Int32 × sh_S) ⊕ (sh_S)) := (if v1 = 0 then some (.inr s3) else (if (1000 : Int32) ≤ v2 then some (.inr s3) else ob2 (lp (fun q => f_X3_findScopes_L22 p2 q.1 q.2.1 q.2.2) FU ((0 : Int32), (0 : Int32), s3)) (fun v8 s9 => lb (v2 + (1 : Int32)) (fun v25 => some (.inl (v8, v25, s9))))))
def f_X3_findScopes (p2 : Int32) (s0 : sh_S) : Option (sh_S) := ob (lp (fun q => f_X3_findScopes_L5 p2 q.1 q.2.1 q.2.2) FU ((1 : Int32), (0 : Int32), s0)) (fun s4 => some s4)
set_option maxRecDepth 100000 in
set_option maxHeartbeats 4000000 in
theorem c_X3_findScopes (p2 : Int32) (s0 : sh_S) (s9x : sh_S) (hf : f_X3_findScopes p2 s0 = some s9x) : Ctr yX3_findScopes cX3_findScopes 11 none ({ frames := 1, cells := 0, slots := 0, locals := 26 } : Room) shCK [.ref 19, .ref 11, .int p2] s0 none s9x := by
  refine Ctr.mk (ri := .return_) (by decide) (Nat.le_of_ble_eq_true rfl) (Rt_v) ?_
  intro G h hL hR hret
  refine k_drop (lv' := [(0, .ref 19), (1, .ref 11), (2, .int p2)]) [0, 1, 2] rfl ?_
  unfold f_X3_findScopes at hf
  refine k_iconst (pc := 0) h dX3_findScopes_0 kc_iconst_1 ?_
  refine k_istore_n (pc := 1) h dX3_findScopes_1 rfl (nk hL (by decide)) (lv' := [(0, .ref 19), (1, .ref 11), (2, .int p2), (3, .int (1 : Int32))]) rfl ?_
  refine k_iconst (pc := 2) h dX3_findScopes_2 kc_iconst_0 ?_
  refine k_istore (pc := 3) h dX3_findScopes_3 (nk hL (by decide)) (lv' := [(0, .ref 19), (1, .ref 11), (2, .int p2), (3, .int (1 : Int32)), (4, .int (0 : Int32))]) rfl ?_
  obtain ⟨s4, hl, hf⟩ := ob_s hf
  refine k_drop (lv' := [(0, .ref 19), (1, .ref 11), (2, .int p2), (3, .int (1 : Int32)), (4, .int (0 : Int32))]) [0, 1, 2, 3, 4] rfl ?_
  refine lp_s (P := (fun q : Int32 × Int32 × sh_S => sh_K G shCK 5 [(0, .ref 19), (1, .ref 11), (2, .int p2), (3, .int q.1), (4, .int q.2.1)] [] q.2.2)) (Q := (fun q : sh_S => sh_K G shCK 147 [] [] q)) (s := ((1 : Int32), (0 : Int32), s0)) ?_ hl ?_
  · clear hf hl
    intro q rr hf kc5
    obtain ⟨v1, v2, s3⟩ := q
    have hf : f_X3_findScopes_L5 p2 v1 v2 s3 = some rr := hf
    unfold f_X3_findScopes_L5 at hf
    refine k_iload_n (pc := 5) h dX3_findScopes_5 rfl 3 rfl ?_
    refine k_if_eq (pc := 6) (tgt := 147) h dX3_findScopes_6 rfl (fun hc => ?_) (fun hc => ?_)
    · have hf := it_p hc hf
      obtain rfl := so1 hf
      exact k_drop [] rfl kc5
    · have hf := it_n hc hf
      refine k_iload (pc := 9) h dX3_findScopes_9 4 rfl ?_
      refine k_sipush (pc := 11) h dX3_findScopes_11 kc_sipush_1000 ?_
      refine k_icmp_ge (pc := 14) (tgt := 147) h dX3_findScopes_14 rfl (fun hc => ?_) (fun hc => ?_)
      · have hf := it_p hc hf
        obtain rfl := so1 hf
        exact k_drop [] rfl kc5
      · have hf := it_n hc hf
        refine k_iconst (pc := 17) h dX3_findScopes_17 kc_iconst_0 ?_
        refine k_istore_n (pc := 18) h dX3_findScopes_18 rfl (nk hL (by decide)) (lv' := [(0, .ref 19), (1, .ref 11), (2, .int p2), (3, .int (0 : Int32)), (4, .int v2)]) rfl ?_
        refine k_iconst (pc := 19) h dX3_findScopes_19 kc_iconst_0 ?_
        refine k_istore (pc := 20) h dX3_findScopes_20 (nk hL (by decide)) (lv' := [(0, .ref 19), (1, .ref 11), (2, .int p2), (3, .int (0 : Int32)), (4, .int v2), (5, .int (0 : Int32))]) rfl ?_
        obtain ⟨v8, s9, hl, hf⟩ := ob2_s hf
        refine k_drop (lv' := [(0, .ref 19), (1, .ref 11), (2, .int p2), (3, .int (0 : Int32)), (4, .int v2), (5, .int (0 : Int32))]) [0, 1, 2, 3, 4, 5] rfl ?_
        refine lp_s (P := (fun q : Int32 × Int32 × sh_S => sh_K G shCK 22 [(0, .ref 19), (1, .ref 11), (2, .int p2), (3, .int q.1), (4, .int v2), (5, .int q.2.1)] [] q.2.2)) (Q := (fun q : Int32 × sh_S => sh_K G shCK 141 [(0, .ref 19), (1, .ref 11), (2, .int p2), (3, .int q.1), (4, .int v2)] [] q.2)) (s := ((0 : Int32), (0 : Int32), s3)) ?_ hl ?_
        · clear hf hl
          intro q rr hf kc22
          obtain ⟨v5, v6, s7⟩ := q
          have hf : f_X3_findScopes_L22 p2 v5 v6 s7 = some rr := hf
          unfold f_X3_findScopes_L22 at hf
          refine k_iload (pc := 22) h dX3_findScopes_22 5 rfl ?_
          refine k_iload_n (pc := 24) h dX3_findScopes_24 rfl 2 rfl ?_
          refine k_icmp_ge (pc := 25) (tgt := 141) h dX3_findScopes_25 rfl (fun hc => ?_) (fun hc => ?_)
          · have hf := it_p hc hf
            obtain rfl := so1 hf
            exact k_drop [0, 1, 2, 3, 4] rfl kc22
          · have hf := it_n hc hf
            refine k_aload_n (pc := 28) h dX3_findScopes_28 rfl 0 rfl ?_
            refine k_getR (pc := 29) h fl_RX3_34 rfl rfl dX3_findScopes_29 ?_
            refine k_iload (pc := 32) h dX3_findScopes_32 5 rfl ?_
            obtain ⟨g10, hf⟩ := gu_s hf
            refine k_iald (pc := 34) (n := 24) h rfl g10 dX3_findScopes_34 ?_
            refine k_aload_n (pc := 35) h dX3_findScopes_35 rfl 0 rfl ?_
            refine k_getR (pc := 36) h fl_RX3_40 rfl rfl dX3_findScopes_36 ?_
            refine k_iload (pc := 39) h dX3_findScopes_39 5 rfl ?_
            obtain ⟨g11, hf⟩ := gu_s hf
            refine k_iald (pc := 41) (n := 24) h rfl g11 dX3_findScopes_41 ?_
            refine k_iconst (pc := 42) h dX3_findScopes_42 kc_iconst_m1 ?_
            refine k_ixor (pc := 43) h dX3_findScopes_43 ?_
            refine k_iand (pc := 44) h dX3_findScopes_44 ?_
            obtain ⟨v12, ev12, hf⟩ := lb_s hf
            refine k_top ev12 ?_
            refine k_istore (pc := 45) h dX3_findScopes_45 (nk hL (by decide)) (lv' := [(0, .ref 19), (1, .ref 11), (2, .int p2), (3, .int v5), (4, .int v2), (5, .int v6), (6, .int v12)]) rfl ?_
            refine k_iload (pc := 47) h dX3_findScopes_47 6 rfl ?_
            refine k_aload_n (pc := 49) h dX3_findScopes_49 rfl 0 rfl ?_
            refine k_getR (pc := 50) h fl_RX3_37 rfl rfl dX3_findScopes_50 ?_
            refine k_iload (pc := 53) h dX3_findScopes_53 5 rfl ?_
            obtain ⟨g13, hf⟩ := gu_s hf
            refine k_iald (pc := 55) (n := 24) h rfl g13 dX3_findScopes_55 ?_
            refine k_aload_n (pc := 56) h dX3_findScopes_56 rfl 0 rfl ?_
            refine k_getR (pc := 57) h fl_RX3_46 rfl rfl dX3_findScopes_57 ?_
            refine k_iload (pc := 60) h dX3_findScopes_60 5 rfl ?_
            obtain ⟨g14, hf⟩ := gu_s hf
            refine k_iald (pc := 62) (n := 24) h rfl g14 dX3_findScopes_62 ?_
            refine k_ior (pc := 63) h dX3_findScopes_63 ?_
            refine k_iand (pc := 64) h dX3_findScopes_64 ?_
            obtain ⟨v15, ev15, hf⟩ := lb_s hf
            refine k_top ev15 ?_
            refine k_istore (pc := 65) h dX3_findScopes_65 (nk hL (by decide)) (lv' := [(0, .ref 19), (1, .ref 11), (2, .int p2), (3, .int v5), (4, .int v2), (5, .int v6), (6, .int v12), (7, .int v15)]) rfl ?_
            refine k_iload (pc := 67) h dX3_findScopes_67 6 rfl ?_
            refine k_aload_n (pc := 69) h dX3_findScopes_69 rfl 0 rfl ?_
            refine k_getI (pc := 70) h fl_RX3_9 rfl rfl dX3_findScopes_70 ?_
            refine k_iconst (pc := 73) h dX3_findScopes_73 kc_iconst_1 ?_
            refine k_iload (pc := 74) h dX3_findScopes_74 5 rfl ?_
            refine k_ishl (pc := 76) h dX3_findScopes_76 ?_
            refine k_iand (pc := 77) h dX3_findScopes_77 ?_
            refine k_ior (pc := 78) h dX3_findScopes_78 ?_
            obtain ⟨v16, ev16, hf⟩ := lb_s hf
            refine k_top ev16 ?_
            refine k_istore (pc := 79) h dX3_findScopes_79 (nk hL (by decide)) (lv' := [(0, .ref 19), (1, .ref 11), (2, .int p2), (3, .int v5), (4, .int v2), (5, .int v6), (6, .int v12), (7, .int v15), (8, .int v16)]) rfl ?_
            refine k_aload_n (pc := 81) h dX3_findScopes_81 rfl 0 rfl ?_
            refine k_aload_n (pc := 82) h dX3_findScopes_82 rfl 1 rfl ?_
            refine k_getR (pc := 83) h fl_RX3_88 rfl rfl dX3_findScopes_83 ?_
            refine k_iload (pc := 86) h dX3_findScopes_86 5 rfl ?_
            obtain ⟨g17, hf⟩ := gu_s hf
            refine k_iald (pc := 88) (n := 24) h rfl g17 dX3_findScopes_88 ?_
            refine k_iload (pc := 89) h dX3_findScopes_89 8 rfl ?_
            refine k_iload (pc := 91) h dX3_findScopes_91 7 rfl ?_
            obtain ⟨v18, s19, cv18, hf⟩ := ob2_s hf
            refine k_callV0 (pc := 93) h cv_RX3_116 (c_X3_pass (s7 12 (ix v6)) v16 v15 s7 v18 s19 cv18) rfl rfl rfl (st1 := [.int v18]) rfl ⟨rfl, rfl⟩ (rk hR (Nat.le_of_ble_eq_true rfl) (Nat.le_of_ble_eq_true rfl)) (Nat.le_of_ble_eq_true rfl) dX3_findScopes_93 ?_
            refine k_istore (pc := 96) h dX3_findScopes_96 (nk hL (by decide)) (lv' := [(0, .ref 19), (1, .ref 11), (2, .int p2), (3, .int v5), (4, .int v2), (5, .int v6), (6, .int v12), (7, .int v15), (8, .int v16), (9, .int v18)]) rfl ?_
            refine k_aload_n (pc := 98) h dX3_findScopes_98 rfl 0 rfl ?_
            refine k_aload_n (pc := 99) h dX3_findScopes_99 rfl 1 rfl ?_
            refine k_getR (pc := 100) h fl_RX3_97 rfl rfl dX3_findScopes_100 ?_
            refine k_iload (pc := 103) h dX3_findScopes_103 5 rfl ?_
            obtain ⟨g20, hf⟩ := gu_s hf
            refine k_iald (pc := 105) (n := 24) h rfl g20 dX3_findScopes_105 ?_
            refine k_iload (pc := 106) h dX3_findScopes_106 8 rfl ?_
            refine k_iload (pc := 108) h dX3_findScopes_108 7 rfl ?_
            obtain ⟨v21, s22, cv21, hf⟩ := ob2_s hf
            refine k_callV0 (pc := 110) h cv_RX3_116 (c_X3_pass (s19 13 (ix v6)) v16 v15 s19 v21 s22 cv21) rfl rfl rfl (st1 := [.int v21]) rfl ⟨rfl, rfl⟩ (rk hR (Nat.le_of_ble_eq_true rfl) (Nat.le_of_ble_eq_true rfl)) (Nat.le_of_ble_eq_true rfl) dX3_findScopes_110 ?_
            refine k_istore (pc := 113) h dX3_findScopes_113 (nk hL (by decide)) (lv' := [(0, .ref 19), (1, .ref 11), (2, .int p2), (3, .int v5), (4, .int v2), (5, .int v6), (6, .int v12), (7, .int v15), (8, .int v16), (9, .int v18), (10, .int v21)]) rfl ?_
            refine k_iload_n (pc := 115) h dX3_findScopes_115 rfl 3 rfl ?_
            obtain ⟨v23, hj, hf⟩ := ob_s hf
            have kj116 : sh_K G shCK 134 [(0, .ref 19), (1, .ref 11), (2, .int p2), (4, .int v2), (5, .int v6)] [.int v23] s22 := by
              refine k_istore_n (pc := 134) h dX3_findScopes_134 rfl (nk hL (by decide)) (lv' := [(0, .ref 19), (1, .ref 11), (2, .int p2), (3, .int v23), (4, .int v2), (5, .int v6)]) rfl ?_
              obtain ⟨v24, ev24, hf⟩ := lb_s hf
              refine k_iinc (pc := 135) h dX3_findScopes_135 5 rfl ((congrArg (_ + ·) kc_iconst_1).trans ev24.symm) (nk hL (by decide)) (lv' := [(0, .ref 19), (1, .ref 11), (2, .int p2), (3, .int v23), (4, .int v2), (5, .int v24)]) rfl ?_
              refine k_goto (pc := 138) (tgt := 22) h dX3_findScopes_138 rfl ?_
              obtain rfl := so1 hf
              exact k_drop [0, 1, 2, 3, 4, 5] rfl kc22
            clear hf
            have hf := hj
            clear hj
            refine k_if_ne (pc := 116) (tgt := 129) h dX3_findScopes_116 rfl (fun hc => ?_) (fun hc => ?_)
            · have hf := it_n hc hf
              refine k_iconst (pc := 129) h dX3_findScopes_129 kc_iconst_1 ?_
              refine k_goto (pc := 130) (tgt := 134) h dX3_findScopes_130 rfl ?_
              obtain rfl := so1 hf
              exact k_drop [0, 1, 2, 4, 5] rfl kj116
            · have hf := it_p hc hf
              refine k_iload (pc := 119) h dX3_findScopes_119 9 rfl ?_
              refine k_if_ne (pc := 121) (tgt := 129) h dX3_findScopes_121 rfl (fun hc => ?_) (fun hc => ?_)
              · have hf := it_n hc hf
                refine k_iconst (pc := 129) h dX3_findScopes_129 kc_iconst_1 ?_
                refine k_goto (pc := 130) (tgt := 134) h dX3_findScopes_130 rfl ?_
                obtain rfl := so1 hf
                exact k_drop [0, 1, 2, 4, 5] rfl kj116
              · have hf := it_p hc hf
                refine k_iload (pc := 124) h dX3_findScopes_124 10 rfl ?_
                refine k_if_eq (pc := 126) (tgt := 133) h dX3_findScopes_126 rfl (fun hc => ?_) (fun hc => ?_)
                · have hf := it_p hc hf
                  refine k_iconst (pc := 133) h dX3_findScopes_133 kc_iconst_0 ?_
                  obtain rfl := so1 hf
                  exact k_drop [0, 1, 2, 4, 5] rfl kj116
                · have hf := it_n hc hf
                  refine k_iconst (pc := 129) h dX3_findScopes_129 kc_iconst_1 ?_
                  refine k_goto (pc := 130) (tgt := 134) h dX3_findScopes_130 rfl ?_
                  obtain rfl := so1 hf
                  exact k_drop [0, 1, 2, 4, 5] rfl kj116
        · obtain ⟨v25, ev25, hf⟩ := lb_s hf
          refine k_iinc (pc := 141) h dX3_findScopes_141 4 rfl ((congrArg (_ + ·) kc_iconst_1).trans ev25.symm) (nk hL (by decide)) (lv' := [(0, .ref 19), (1, .ref 11), (2, .int p2), (3, .int v8), (4, .int v25)]) rfl ?_
          refine k_goto (pc := 144) (tgt := 5) h dX3_findScopes_144 rfl ?_
          obtain rfl := so1 hf
          exact k_drop [0, 1, 2, 3, 4] rfl kc5
  · obtain rfl := so1 hf
    exact hret 147 _ dX3_findScopes_147 trivial
theorem dX1_struck_0 : decode cX1_struck 0 = .ok (.iload_n 2, 1) := by decide +kernel
theorem dX1_struck_1 : decode cX1_struck 1 = .ok (.bipush 6, 2) := by decide +kernel
theorem dX1_struck_3 : decode cX1_struck 3 = .ok (.idiv, 1) := by decide +kernel
theorem dX1_struck_4 : decode cX1_struck 4 = .ok (.istore 4, 2) := by decide +kernel
theorem dX1_struck_6 : decode cX1_struck 6 = .ok (.iload_n 2, 1) := by decide +kernel
theorem dX1_struck_7 : decode cX1_struck 7 = .ok (.bipush 6, 2) := by decide +kernel
theorem dX1_struck_9 : decode cX1_struck 9 = .ok (.irem, 1) := by decide +kernel
theorem dX1_struck_10 : decode cX1_struck 10 = .ok (.istore 5, 2) := by decide +kernel
theorem dX1_struck_12 : decode cX1_struck 12 = .ok (.iconst 0, 1) := by decide +kernel
theorem dX1_struck_13 : decode cX1_struck 13 = .ok (.istore 6, 2) := by decide +kernel
theorem dX1_struck_15 : decode cX1_struck 15 = .ok (.iconst 0, 1) := by decide +kernel
theorem dX1_struck_16 : decode cX1_struck 16 = .ok (.istore 7, 2) := by decide +kernel
theorem dX1_struck_18 : decode cX1_struck 18 = .ok (.iload_n 1, 1) := by decide +kernel
theorem dX1_struck_19 : decode cX1_struck 19 = .ok (.iload 7, 2) := by decide +kernel
theorem dX1_struck_21 : decode cX1_struck 21 = .ok (.ishr, 1) := by decide +kernel
theorem dX1_struck_22 : decode cX1_struck 22 = .ok (.ifCond .eq 129, 3) := by decide +kernel
theorem dX1_struck_25 : decode cX1_struck 25 = .ok (.iload 7, 2) := by decide +kernel
theorem dX1_struck_27 : decode cX1_struck 27 = .ok (.bipush 24, 2) := by decide +kernel
theorem dX1_struck_29 : decode cX1_struck 29 = .ok (.if_icmp .ge 122, 3) := by decide +kernel
theorem dX1_struck_32 : decode cX1_struck 32 = .ok (.iload_n 1, 1) := by decide +kernel
theorem dX1_struck_33 : decode cX1_struck 33 = .ok (.iload 7, 2) := by decide +kernel
theorem dX1_struck_35 : decode cX1_struck 35 = .ok (.ishr, 1) := by decide +kernel
theorem dX1_struck_36 : decode cX1_struck 36 = .ok (.iconst 1, 1) := by decide +kernel
theorem dX1_struck_37 : decode cX1_struck 37 = .ok (.iand, 1) := by decide +kernel
theorem dX1_struck_38 : decode cX1_struck 38 = .ok (.iconst 1, 1) := by decide +kernel
theorem dX1_struck_39 : decode cX1_struck 39 = .ok (.if_icmp .ne 106, 3) := by decide +kernel
theorem dX1_struck_42 : decode cX1_struck 42 = .ok (.aload_n 0, 1) := by decide +kernel
theorem dX1_struck_43 : decode cX1_struck 43 = .ok (.getfield 50, 3) := by decide +kernel
theorem dX1_struck_46 : decode cX1_struck 46 = .ok (.iload 7, 2) := by decide +kernel
theorem dX1_struck_48 : decode cX1_struck 48 = .ok (.iaload, 1) := by decide +kernel
theorem dX1_struck_49 : decode cX1_struck 49 = .ok (.iload 4, 2) := by decide +kernel
theorem dX1_struck_51 : decode cX1_struck 51 = .ok (.if_icmp .ne 94, 3) := by decide +kernel
theorem dX1_struck_54 : decode cX1_struck 54 = .ok (.aload_n 0, 1) := by decide +kernel
theorem dX1_struck_55 : decode cX1_struck 55 = .ok (.getfield 63, 3) := by decide +kernel
theorem dX1_struck_58 : decode cX1_struck 58 = .ok (.iload 7, 2) := by decide +kernel
theorem dX1_struck_60 : decode cX1_struck 60 = .ok (.iaload, 1) := by decide +kernel
theorem dX1_struck_61 : decode cX1_struck 61 = .ok (.istore 8, 2) := by decide +kernel
theorem dX1_struck_63 : decode cX1_struck 63 = .ok (.iload 8, 2) := by decide +kernel
theorem dX1_struck_65 : decode cX1_struck 65 = .ok (.iload 5, 2) := by decide +kernel
theorem dX1_struck_67 : decode cX1_struck 67 = .ok (.if_icmp .eq 25, 3) := by decide +kernel
theorem dX1_struck_70 : decode cX1_struck 70 = .ok (.iload 8, 2) := by decide +kernel
theorem dX1_struck_72 : decode cX1_struck 72 = .ok (.ifCond .eq 20, 3) := by decide +kernel
theorem dX1_struck_75 : decode cX1_struck 75 = .ok (.iload 5, 2) := by decide +kernel
theorem dX1_struck_77 : decode cX1_struck 77 = .ok (.ifCond .eq 15, 3) := by decide +kernel
theorem dX1_struck_80 : decode cX1_struck 80 = .ok (.iload 8, 2) := by decide +kernel
theorem dX1_struck_82 : decode cX1_struck 82 = .ok (.iconst 3, 1) := by decide +kernel
theorem dX1_struck_83 : decode cX1_struck 83 = .ok (.if_icmp .lt 13, 3) := by decide +kernel
theorem dX1_struck_86 : decode cX1_struck 86 = .ok (.iload 5, 2) := by decide +kernel
theorem dX1_struck_88 : decode cX1_struck 88 = .ok (.iconst 3, 1) := by decide +kernel
theorem dX1_struck_89 : decode cX1_struck 89 = .ok (.if_icmp .lt 7, 3) := by decide +kernel
theorem dX1_struck_92 : decode cX1_struck 92 = .ok (.iconst 1, 1) := by decide +kernel
theorem dX1_struck_93 : decode cX1_struck 93 = .ok (.goto 4, 3) := by decide +kernel
theorem dX1_struck_96 : decode cX1_struck 96 = .ok (.iconst 0, 1) := by decide +kernel
theorem dX1_struck_97 : decode cX1_struck 97 = .ok (.istore 9, 2) := by decide +kernel
theorem dX1_struck_99 : decode cX1_struck 99 = .ok (.iload_n 3, 1) := by decide +kernel
theorem dX1_struck_100 : decode cX1_struck 100 = .ok (.ifCond .eq 19, 3) := by decide +kernel
theorem dX1_struck_103 : decode cX1_struck 103 = .ok (.iload 8, 2) := by decide +kernel
theorem dX1_struck_105 : decode cX1_struck 105 = .ok (.iconst 3, 1) := by decide +kernel
theorem dX1_struck_106 : decode cX1_struck 106 = .ok (.if_icmp .lt 13, 3) := by decide +kernel
theorem dX1_struck_109 : decode cX1_struck 109 = .ok (.iload 5, 2) := by decide +kernel
theorem dX1_struck_111 : decode cX1_struck 111 = .ok (.iconst 3, 1) := by decide +kernel
theorem dX1_struck_112 : decode cX1_struck 112 = .ok (.if_icmp .ge 7, 3) := by decide +kernel
theorem dX1_struck_115 : decode cX1_struck 115 = .ok (.iconst 1, 1) := by decide +kernel
theorem dX1_struck_116 : decode cX1_struck 116 = .ok (.goto 4, 3) := by decide +kernel
theorem dX1_struck_119 : decode cX1_struck 119 = .ok (.iconst 0, 1) := by decide +kernel
theorem dX1_struck_120 : decode cX1_struck 120 = .ok (.istore 10, 2) := by decide +kernel
theorem dX1_struck_122 : decode cX1_struck 122 = .ok (.iload 6, 2) := by decide +kernel
theorem dX1_struck_124 : decode cX1_struck 124 = .ok (.iload 9, 2) := by decide +kernel
theorem dX1_struck_126 : decode cX1_struck 126 = .ok (.ifCond .eq 15, 3) := by decide +kernel
theorem dX1_struck_129 : decode cX1_struck 129 = .ok (.iload 10, 2) := by decide +kernel
theorem dX1_struck_131 : decode cX1_struck 131 = .ok (.ifCond .ne 10, 3) := by decide +kernel
theorem dX1_struck_134 : decode cX1_struck 134 = .ok (.iconst 1, 1) := by decide +kernel
theorem dX1_struck_135 : decode cX1_struck 135 = .ok (.iload 7, 2) := by decide +kernel
theorem dX1_struck_137 : decode cX1_struck 137 = .ok (.ishl, 1) := by decide +kernel
theorem dX1_struck_138 : decode cX1_struck 138 = .ok (.goto 4, 3) := by decide +kernel
theorem dX1_struck_141 : decode cX1_struck 141 = .ok (.iconst 0, 1) := by decide +kernel
theorem dX1_struck_142 : decode cX1_struck 142 = .ok (.ior, 1) := by decide +kernel
theorem dX1_struck_143 : decode cX1_struck 143 = .ok (.istore 6, 2) := by decide +kernel
theorem dX1_struck_145 : decode cX1_struck 145 = .ok (.iinc 7 1, 3) := by decide +kernel
theorem dX1_struck_148 : decode cX1_struck 148 = .ok (.goto (-130), 3) := by decide +kernel
theorem dX1_struck_151 : decode cX1_struck 151 = .ok (.iload 6, 2) := by decide +kernel
theorem dX1_struck_153 : decode cX1_struck 153 = .ok (.ireturn, 1) := by decide +kernel
def f_X1_struck_L18 (p1 : Int32) (p3 : Int32) (s0 : sh_S) (v1 : Int32) (v2 : Int32) (v3 : Int32) (v4 : Int32) : Option ((Int32 × Int32) ⊕ (Int32)) := (if (p1 >>> (v4 &&& 31)) = 0 then some (.inr v3) else (if (24 : Int32) ≤ v4 then some (.inr v3) else ob (if ((p1 >>> (v4 &&& 31)) &&& (1 : Int32)) = (1 : Int32) then gu (inb v4 24) ((if (s0 6 (ix v4)) = v1 then gu (inb v4 24) (lb ((s0 7 (ix v4))) (fun v9 => ob (if v9 = v2 then some (1 : Int32) else (if v9 = 0 then some (1 : Int32) else (if v2 = 0 then some (1 : Int32) else (if v9 < (3 : Int32) then some (0 : Int32) else (if v2 < (3 : Int32) then some (0 : Int32) else some (1 : Int32)))))) (fun v10 => ob (if p3 = 0 then some (0 : Int32) else (if v9 < (3 : Int32) then some (0 : Int32) else (if (3 : Int32) ≤ v2 then some (0 : Int32) else some (1 : Int32)))) (fun v11 => ob (if v10 = 0 then some (0 : Int32) else (if v11 = 0 then some ((1 : Int32) <<< (v4 &&& 31)) else some (0 : Int32))) (fun v12 => lb ((v3 ||| v12)) (fun v13 => some v13)))))) else some v3)) else some v3) (fun v6 => lb (v4 + (1 : Int32)) (fun v14 => some (.inl (v6, v14))))))
def f_X1_struck (p1 : Int32) (p2 : Int32) (p3 : Int32) (s0 : sh_S) : Option (Int32) := lb ((p2 / (6 : Int32))) (fun v1 => lb ((p2 - p2 / (6 : Int32) * (6 : Int32))) (fun v2 => ob (lp (fun q => f_X1_struck_L18 p1 p3 s0 v1 v2 q.1 q.2) FU ((0 : Int32), (0 : Int32))) (fun v5 => some v5)))
set_option maxRecDepth 100000 in
set_option maxHeartbeats 4000000 in
theorem c_X1_struck (p1 : Int32) (p2 : Int32) (p3 : Int32) (s0 : sh_S) (r : Int32) (hf : f_X1_struck p1 p2 p3 s0 = some r) : Ctr yX1_struck cX1_struck 11 (some .int) ({ frames := 0, cells := 0, slots := 0, locals := 0 } : Room) shCK [.ref 0, .int p1, .int p2, .int p3] s0 (some (.int r)) s0 := by
  refine Ctr.mk (ri := .ireturn) (by decide) (Nat.le_of_ble_eq_true rfl) (Rt_i r) ?_
  intro G h hL hR hret
  refine k_drop (lv' := [(0, .ref 0), (1, .int p1), (2, .int p2), (3, .int p3)]) [0, 1, 2, 3] rfl ?_
  unfold f_X1_struck at hf
  refine k_iload_n (pc := 0) h dX1_struck_0 rfl 2 rfl ?_
  refine k_bipush (pc := 1) h dX1_struck_1 kc_bipush_6 ?_
  refine k_idiv (pc := 3) h dX1_struck_3 (by decide) ?_
  obtain ⟨v1, ev1, hf⟩ := lb_s hf
  refine k_top ev1 ?_
  refine k_istore (pc := 4) h dX1_struck_4 (nk hL (by decide)) (lv' := [(0, .ref 0), (1, .int p1), (2, .int p2), (3, .int p3), (4, .int v1)]) rfl ?_
  refine k_iload_n (pc := 6) h dX1_struck_6 rfl 2 rfl ?_
  refine k_bipush (pc := 7) h dX1_struck_7 kc_bipush_6 ?_
  refine k_irem (pc := 9) h dX1_struck_9 (by decide) ?_
  obtain ⟨v2, ev2, hf⟩ := lb_s hf
  refine k_top ev2 ?_
  refine k_istore (pc := 10) h dX1_struck_10 (nk hL (by decide)) (lv' := [(0, .ref 0), (1, .int p1), (2, .int p2), (3, .int p3), (4, .int v1), (5, .int v2)]) rfl ?_
  refine k_iconst (pc := 12) h dX1_struck_12 kc_iconst_0 ?_
  refine k_istore (pc := 13) h dX1_struck_13 (nk hL (by decide)) (lv' := [(0, .ref 0), (1, .int p1), (2, .int p2), (3, .int p3), (4, .int v1), (5, .int v2), (6, .int (0 : Int32))]) rfl ?_
  refine k_iconst (pc := 15) h dX1_struck_15 kc_iconst_0 ?_
  refine k_istore (pc := 16) h dX1_struck_16 (nk hL (by decide)) (lv' := [(0, .ref 0), (1, .int p1), (2, .int p2), (3, .int p3), (4, .int v1), (5, .int v2), (6, .int (0 : Int32)), (7, .int (0 : Int32))]) rfl ?_
  obtain ⟨v5, hl, hf⟩ := ob_s hf
  refine k_drop (lv' := [(0, .ref 0), (1, .int p1), (3, .int p3), (4, .int v1), (5, .int v2), (6, .int (0 : Int32)), (7, .int (0 : Int32))]) [0, 1, 3, 4, 5, 6, 7] rfl ?_
  refine lp_s (P := (fun q : Int32 × Int32 => sh_K G shCK 18 [(0, .ref 0), (1, .int p1), (3, .int p3), (4, .int v1), (5, .int v2), (6, .int q.1), (7, .int q.2)] [] s0)) (Q := (fun q : Int32 => sh_K G shCK 151 [(6, .int q)] [] s0)) (s := ((0 : Int32), (0 : Int32))) ?_ hl ?_
  · clear hf hl
    intro q rr hf kc18
    obtain ⟨v3, v4⟩ := q
    have hf : f_X1_struck_L18 p1 p3 s0 v1 v2 v3 v4 = some rr := hf
    unfold f_X1_struck_L18 at hf
    refine k_iload_n (pc := 18) h dX1_struck_18 rfl 1 rfl ?_
    refine k_iload (pc := 19) h dX1_struck_19 6 rfl ?_
    refine k_ishr (pc := 21) h dX1_struck_21 ?_
    refine k_if_eq (pc := 22) (tgt := 151) h dX1_struck_22 rfl (fun hc => ?_) (fun hc => ?_)
    · have hf := it_p hc hf
      obtain rfl := so1 hf
      exact k_drop [5] rfl kc18
    · have hf := it_n hc hf
      refine k_iload (pc := 25) h dX1_struck_25 6 rfl ?_
      refine k_bipush (pc := 27) h dX1_struck_27 kc_bipush_24 ?_
      refine k_icmp_ge (pc := 29) (tgt := 151) h dX1_struck_29 rfl (fun hc => ?_) (fun hc => ?_)
      · have hf := it_p hc hf
        obtain rfl := so1 hf
        exact k_drop [5] rfl kc18
      · have hf := it_n hc hf
        refine k_iload_n (pc := 32) h dX1_struck_32 rfl 1 rfl ?_
        refine k_iload (pc := 33) h dX1_struck_33 6 rfl ?_
        refine k_ishr (pc := 35) h dX1_struck_35 ?_
        refine k_iconst (pc := 36) h dX1_struck_36 kc_iconst_1 ?_
        refine k_iand (pc := 37) h dX1_struck_37 ?_
        refine k_iconst (pc := 38) h dX1_struck_38 kc_iconst_1 ?_
        obtain ⟨v6, hj, hf⟩ := ob_s hf
        have kj39 : sh_K G shCK 145 [(0, .ref 0), (1, .int p1), (3, .int p3), (4, .int v1), (5, .int v2), (6, .int v6), (7, .int v4)] [] s0 := by
          obtain ⟨v14, ev14, hf⟩ := lb_s hf
          refine k_iinc (pc := 145) h dX1_struck_145 6 rfl ((congrArg (_ + ·) kc_iconst_1).trans ev14.symm) (nk hL (by decide)) (lv' := [(0, .ref 0), (1, .int p1), (3, .int p3), (4, .int v1), (5, .int v2), (6, .int v6), (7, .int v14)]) rfl ?_
          refine k_goto (pc := 148) (tgt := 18) h dX1_struck_148 rfl ?_
          obtain rfl := so1 hf
          exact k_drop [0, 1, 2, 3, 4, 5, 6] rfl kc18
        clear hf
        have hf := hj
        clear hj
        refine k_icmp_ne (pc := 39) (tgt := 145) h dX1_struck_39 rfl (fun hc => ?_) (fun hc => ?_)
        · have hf := it_n hc hf
          obtain rfl := so1 hf
          exact k_drop [0, 1, 2, 3, 4, 5, 6] rfl kj39
        · have hf := it_p hc hf
          refine k_aload_n (pc := 42) h dX1_struck_42 rfl 0 rfl ?_
          refine k_getR (pc := 43) h fl_RX1_50 rfl rfl dX1_struck_43 ?_
          refine k_iload (pc := 46) h dX1_struck_46 6 rfl ?_
          obtain ⟨g7, hf⟩ := gu_s hf
          refine k_iald (pc := 48) (n := 24) h rfl g7 dX1_struck_48 ?_
          refine k_iload (pc := 49) h dX1_struck_49 3 rfl ?_
          refine k_icmp_ne (pc := 51) (tgt := 145) h dX1_struck_51 rfl (fun hc => ?_) (fun hc => ?_)
          · have hf := it_n hc hf
            obtain rfl := so1 hf
            exact k_drop [0, 1, 2, 3, 4, 5, 6] rfl kj39
          · have hf := it_p hc hf
            refine k_aload_n (pc := 54) h dX1_struck_54 rfl 0 rfl ?_
            refine k_getR (pc := 55) h fl_RX1_63 rfl rfl dX1_struck_55 ?_
            refine k_iload (pc := 58) h dX1_struck_58 6 rfl ?_
            obtain ⟨g8, hf⟩ := gu_s hf
            refine k_iald (pc := 60) (n := 24) h rfl g8 dX1_struck_60 ?_
            obtain ⟨v9, ev9, hf⟩ := lb_s hf
            refine k_top ev9 ?_
            refine k_istore (pc := 61) h dX1_struck_61 (nk hL (by decide)) (lv' := [(0, .ref 0), (1, .int p1), (3, .int p3), (4, .int v1), (5, .int v2), (6, .int v3), (7, .int v4), (8, .int v9)]) rfl ?_
            refine k_iload (pc := 63) h dX1_struck_63 7 rfl ?_
            refine k_iload (pc := 65) h dX1_struck_65 4 rfl ?_
            obtain ⟨v10, hj, hf⟩ := ob_s hf
            have kj67 : sh_K G shCK 97 [(0, .ref 0), (1, .int p1), (3, .int p3), (4, .int v1), (5, .int v2), (6, .int v3), (7, .int v4), (8, .int v9)] [.int v10] s0 := by
              refine k_istore (pc := 97) h dX1_struck_97 (nk hL (by decide)) (lv' := [(0, .ref 0), (1, .int p1), (3, .int p3), (4, .int v1), (5, .int v2), (6, .int v3), (7, .int v4), (8, .int v9), (9, .int v10)]) rfl ?_
              refine k_iload_n (pc := 99) h dX1_struck_99 rfl 2 rfl ?_
              obtain ⟨v11, hj, hf⟩ := ob_s hf
              have kj100 : sh_K G shCK 120 [(0, .ref 0), (1, .int p1), (3, .int p3), (4, .int v1), (5, .int v2), (6, .int v3), (7, .int v4), (9, .int v10)] [.int v11] s0 := by
                refine k_istore (pc := 120) h dX1_struck_120 (nk hL (by decide)) (lv' := [(0, .ref 0), (1, .int p1), (3, .int p3), (4, .int v1), (5, .int v2), (6, .int v3), (7, .int v4), (9, .int v10), (10, .int v11)]) rfl ?_
                refine k_iload (pc := 122) h dX1_struck_122 5 rfl ?_
                refine k_iload (pc := 124) h dX1_struck_124 7 rfl ?_
                obtain ⟨v12, hj, hf⟩ := ob_s hf
                have kj126 : sh_K G shCK 142 [(0, .ref 0), (1, .int p1), (3, .int p3), (4, .int v1), (5, .int v2), (7, .int v4)] [.int v12, .int v3] s0 := by
                  refine k_ior (pc := 142) h dX1_struck_142 ?_
                  obtain ⟨v13, ev13, hf⟩ := lb_s hf
                  refine k_top ev13 ?_
                  refine k_istore (pc := 143) h dX1_struck_143 (nk hL (by decide)) (lv' := [(0, .ref 0), (1, .int p1), (3, .int p3), (4, .int v1), (5, .int v2), (6, .int v13), (7, .int v4)]) rfl ?_
                  obtain rfl := so1 hf
                  exact k_drop [0, 1, 2, 3, 4, 5, 6] rfl kj39
                clear hf
                have hf := hj
                clear hj
                refine k_if_eq (pc := 126) (tgt := 141) h dX1_struck_126 rfl (fun hc => ?_) (fun hc => ?_)
                · have hf := it_p hc hf
                  refine k_iconst (pc := 141) h dX1_struck_141 kc_iconst_0 ?_
                  obtain rfl := so1 hf
                  exact k_drop [0, 1, 2, 3, 4, 6] rfl kj126
                · have hf := it_n hc hf
                  refine k_iload (pc := 129) h dX1_struck_129 8 rfl ?_
                  refine k_if_ne (pc := 131) (tgt := 141) h dX1_struck_131 rfl (fun hc => ?_) (fun hc => ?_)
                  · have hf := it_n hc hf
                    refine k_iconst (pc := 141) h dX1_struck_141 kc_iconst_0 ?_
                    obtain rfl := so1 hf
                    exact k_drop [0, 1, 2, 3, 4, 6] rfl kj126
                  · have hf := it_p hc hf
                    refine k_iconst (pc := 134) h dX1_struck_134 kc_iconst_1 ?_
                    refine k_iload (pc := 135) h dX1_struck_135 6 rfl ?_
                    refine k_ishl (pc := 137) h dX1_struck_137 ?_
                    refine k_goto (pc := 138) (tgt := 142) h dX1_struck_138 rfl ?_
                    obtain rfl := so1 hf
                    exact k_drop [0, 1, 2, 3, 4, 6] rfl kj126
              clear hf
              have hf := hj
              clear hj
              refine k_if_eq (pc := 100) (tgt := 119) h dX1_struck_100 rfl (fun hc => ?_) (fun hc => ?_)
              · have hf := it_p hc hf
                refine k_iconst (pc := 119) h dX1_struck_119 kc_iconst_0 ?_
                obtain rfl := so1 hf
                exact k_drop [0, 1, 2, 3, 4, 5, 6, 8] rfl kj100
              · have hf := it_n hc hf
                refine k_iload (pc := 103) h dX1_struck_103 7 rfl ?_
                refine k_iconst (pc := 105) h dX1_struck_105 kc_iconst_3 ?_
                refine k_icmp_lt (pc := 106) (tgt := 119) h dX1_struck_106 rfl (fun hc => ?_) (fun hc => ?_)
                · have hf := it_p hc hf
                  refine k_iconst (pc := 119) h dX1_struck_119 kc_iconst_0 ?_
                  obtain rfl := so1 hf
                  exact k_drop [0, 1, 2, 3, 4, 5, 6, 8] rfl kj100
                · have hf := it_n hc hf
                  refine k_iload (pc := 109) h dX1_struck_109 4 rfl ?_
                  refine k_iconst (pc := 111) h dX1_struck_111 kc_iconst_3 ?_
                  refine k_icmp_ge (pc := 112) (tgt := 119) h dX1_struck_112 rfl (fun hc => ?_) (fun hc => ?_)
                  · have hf := it_p hc hf
                    refine k_iconst (pc := 119) h dX1_struck_119 kc_iconst_0 ?_
                    obtain rfl := so1 hf
                    exact k_drop [0, 1, 2, 3, 4, 5, 6, 8] rfl kj100
                  · have hf := it_n hc hf
                    refine k_iconst (pc := 115) h dX1_struck_115 kc_iconst_1 ?_
                    refine k_goto (pc := 116) (tgt := 120) h dX1_struck_116 rfl ?_
                    obtain rfl := so1 hf
                    exact k_drop [0, 1, 2, 3, 4, 5, 6, 8] rfl kj100
            clear hf
            have hf := hj
            clear hj
            refine k_icmp_eq (pc := 67) (tgt := 92) h dX1_struck_67 rfl (fun hc => ?_) (fun hc => ?_)
            · have hf := it_p hc hf
              refine k_iconst (pc := 92) h dX1_struck_92 kc_iconst_1 ?_
              refine k_goto (pc := 93) (tgt := 97) h dX1_struck_93 rfl ?_
              obtain rfl := so1 hf
              exact k_drop [0, 1, 2, 3, 4, 5, 6, 7] rfl kj67
            · have hf := it_n hc hf
              refine k_iload (pc := 70) h dX1_struck_70 7 rfl ?_
              refine k_if_eq (pc := 72) (tgt := 92) h dX1_struck_72 rfl (fun hc => ?_) (fun hc => ?_)
              · have hf := it_p hc hf
                refine k_iconst (pc := 92) h dX1_struck_92 kc_iconst_1 ?_
                refine k_goto (pc := 93) (tgt := 97) h dX1_struck_93 rfl ?_
                obtain rfl := so1 hf
                exact k_drop [0, 1, 2, 3, 4, 5, 6, 7] rfl kj67
              · have hf := it_n hc hf
                refine k_iload (pc := 75) h dX1_struck_75 4 rfl ?_
                refine k_if_eq (pc := 77) (tgt := 92) h dX1_struck_77 rfl (fun hc => ?_) (fun hc => ?_)
                · have hf := it_p hc hf
                  refine k_iconst (pc := 92) h dX1_struck_92 kc_iconst_1 ?_
                  refine k_goto (pc := 93) (tgt := 97) h dX1_struck_93 rfl ?_
                  obtain rfl := so1 hf
                  exact k_drop [0, 1, 2, 3, 4, 5, 6, 7] rfl kj67
                · have hf := it_n hc hf
                  refine k_iload (pc := 80) h dX1_struck_80 7 rfl ?_
                  refine k_iconst (pc := 82) h dX1_struck_82 kc_iconst_3 ?_
                  refine k_icmp_lt (pc := 83) (tgt := 96) h dX1_struck_83 rfl (fun hc => ?_) (fun hc => ?_)
                  · have hf := it_p hc hf
                    refine k_iconst (pc := 96) h dX1_struck_96 kc_iconst_0 ?_
                    obtain rfl := so1 hf
                    exact k_drop [0, 1, 2, 3, 4, 5, 6, 7] rfl kj67
                  · have hf := it_n hc hf
                    refine k_iload (pc := 86) h dX1_struck_86 4 rfl ?_
                    refine k_iconst (pc := 88) h dX1_struck_88 kc_iconst_3 ?_
                    refine k_icmp_lt (pc := 89) (tgt := 96) h dX1_struck_89 rfl (fun hc => ?_) (fun hc => ?_)
                    · have hf := it_p hc hf
                      refine k_iconst (pc := 96) h dX1_struck_96 kc_iconst_0 ?_
                      obtain rfl := so1 hf
                      exact k_drop [0, 1, 2, 3, 4, 5, 6, 7] rfl kj67
                    · have hf := it_n hc hf
                      refine k_iconst (pc := 92) h dX1_struck_92 kc_iconst_1 ?_
                      refine k_goto (pc := 93) (tgt := 97) h dX1_struck_93 rfl ?_
                      obtain rfl := so1 hf
                      exact k_drop [0, 1, 2, 3, 4, 5, 6, 7] rfl kj67
  · refine k_iload (pc := 151) h dX1_struck_151 0 rfl ?_
    obtain rfl := so1 hf
    exact hret 153 _ dX1_struck_153 trivial
theorem dX1_clashes_0 : decode cX1_clashes 0 = .ok (.aload_n 1, 1) := by decide +kernel
theorem dX1_clashes_1 : decode cX1_clashes 1 = .ok (.getfield 25, 3) := by decide +kernel
theorem dX1_clashes_4 : decode cX1_clashes 4 = .ok (.iload_n 2, 1) := by decide +kernel
theorem dX1_clashes_5 : decode cX1_clashes 5 = .ok (.iaload, 1) := by decide +kernel
theorem dX1_clashes_6 : decode cX1_clashes 6 = .ok (.istore_n 3, 1) := by decide +kernel
theorem dX1_clashes_7 : decode cX1_clashes 7 = .ok (.aload_n 0, 1) := by decide +kernel
theorem dX1_clashes_8 : decode cX1_clashes 8 = .ok (.getfield 34, 3) := by decide +kernel
theorem dX1_clashes_11 : decode cX1_clashes 11 = .ok (.iload_n 2, 1) := by decide +kernel
theorem dX1_clashes_12 : decode cX1_clashes 12 = .ok (.iaload, 1) := by decide +kernel
theorem dX1_clashes_13 : decode cX1_clashes 13 = .ok (.istore 4, 2) := by decide +kernel
theorem dX1_clashes_15 : decode cX1_clashes 15 = .ok (.aload_n 0, 1) := by decide +kernel
theorem dX1_clashes_16 : decode cX1_clashes 16 = .ok (.getfield 37, 3) := by decide +kernel
theorem dX1_clashes_19 : decode cX1_clashes 19 = .ok (.iload_n 2, 1) := by decide +kernel
theorem dX1_clashes_20 : decode cX1_clashes 20 = .ok (.iaload, 1) := by decide +kernel
theorem dX1_clashes_21 : decode cX1_clashes 21 = .ok (.istore 5, 2) := by decide +kernel
theorem dX1_clashes_23 : decode cX1_clashes 23 = .ok (.iconst 0, 1) := by decide +kernel
theorem dX1_clashes_24 : decode cX1_clashes 24 = .ok (.istore 6, 2) := by decide +kernel
theorem dX1_clashes_26 : decode cX1_clashes 26 = .ok (.iload 4, 2) := by decide +kernel
theorem dX1_clashes_28 : decode cX1_clashes 28 = .ok (.iconst 1, 1) := by decide +kernel
theorem dX1_clashes_29 : decode cX1_clashes 29 = .ok (.if_icmp .eq 15, 3) := by decide +kernel
theorem dX1_clashes_32 : decode cX1_clashes 32 = .ok (.iload 4, 2) := by decide +kernel
theorem dX1_clashes_34 : decode cX1_clashes 34 = .ok (.iconst 3, 1) := by decide +kernel
theorem dX1_clashes_35 : decode cX1_clashes 35 = .ok (.if_icmp .eq 9, 3) := by decide +kernel
theorem dX1_clashes_38 : decode cX1_clashes 38 = .ok (.iload 4, 2) := by decide +kernel
theorem dX1_clashes_40 : decode cX1_clashes 40 = .ok (.iconst 5, 1) := by decide +kernel
theorem dX1_clashes_41 : decode cX1_clashes 41 = .ok (.if_icmp .ne 32, 3) := by decide +kernel
theorem dX1_clashes_44 : decode cX1_clashes 44 = .ok (.aload_n 1, 1) := by decide +kernel
theorem dX1_clashes_45 : decode cX1_clashes 45 = .ok (.getfield 40, 3) := by decide +kernel
theorem dX1_clashes_48 : decode cX1_clashes 48 = .ok (.aload_n 1, 1) := by decide +kernel
theorem dX1_clashes_49 : decode cX1_clashes 49 = .ok (.getfield 43, 3) := by decide +kernel
theorem dX1_clashes_52 : decode cX1_clashes 52 = .ok (.iload_n 2, 1) := by decide +kernel
theorem dX1_clashes_53 : decode cX1_clashes 53 = .ok (.iaload, 1) := by decide +kernel
theorem dX1_clashes_54 : decode cX1_clashes 54 = .ok (.ior, 1) := by decide +kernel
theorem dX1_clashes_55 : decode cX1_clashes 55 = .ok (.istore 7, 2) := by decide +kernel
theorem dX1_clashes_57 : decode cX1_clashes 57 = .ok (.aload_n 0, 1) := by decide +kernel
theorem dX1_clashes_58 : decode cX1_clashes 58 = .ok (.iload_n 3, 1) := by decide +kernel
theorem dX1_clashes_59 : decode cX1_clashes 59 = .ok (.iload 7, 2) := by decide +kernel
theorem dX1_clashes_61 : decode cX1_clashes 61 = .ok (.iand, 1) := by decide +kernel
theorem dX1_clashes_62 : decode cX1_clashes 62 = .ok (.iload 5, 2) := by decide +kernel
theorem dX1_clashes_64 : decode cX1_clashes 64 = .ok (.iconst 0, 1) := by decide +kernel
theorem dX1_clashes_65 : decode cX1_clashes 65 = .ok (.invokestatic 46, 3) := by decide +kernel
theorem dX1_clashes_68 : decode cX1_clashes 68 = .ok (.istore 6, 2) := by decide +kernel
theorem dX1_clashes_70 : decode cX1_clashes 70 = .ok (.goto 62, 3) := by decide +kernel
theorem dX1_clashes_73 : decode cX1_clashes 73 = .ok (.iload 4, 2) := by decide +kernel
theorem dX1_clashes_75 : decode cX1_clashes 75 = .ok (.iconst 2, 1) := by decide +kernel
theorem dX1_clashes_76 : decode cX1_clashes 76 = .ok (.if_icmp .eq 9, 3) := by decide +kernel
theorem dX1_clashes_79 : decode cX1_clashes 79 = .ok (.iload 4, 2) := by decide +kernel
theorem dX1_clashes_81 : decode cX1_clashes 81 = .ok (.iconst 4, 1) := by decide +kernel
theorem dX1_clashes_82 : decode cX1_clashes 82 = .ok (.if_icmp .ne 26, 3) := by decide +kernel
theorem dX1_clashes_85 : decode cX1_clashes 85 = .ok (.aload_n 0, 1) := by decide +kernel
theorem dX1_clashes_86 : decode cX1_clashes 86 = .ok (.iload_n 3, 1) := by decide +kernel
theorem dX1_clashes_87 : decode cX1_clashes 87 = .ok (.iload 5, 2) := by decide +kernel
theorem dX1_clashes_89 : decode cX1_clashes 89 = .ok (.iload 4, 2) := by decide +kernel
theorem dX1_clashes_91 : decode cX1_clashes 91 = .ok (.iconst 2, 1) := by decide +kernel
theorem dX1_clashes_92 : decode cX1_clashes 92 = .ok (.if_icmp .ne 7, 3) := by decide +kernel
theorem dX1_clashes_95 : decode cX1_clashes 95 = .ok (.iconst 1, 1) := by decide +kernel
theorem dX1_clashes_96 : decode cX1_clashes 96 = .ok (.goto 4, 3) := by decide +kernel
theorem dX1_clashes_99 : decode cX1_clashes 99 = .ok (.iconst 0, 1) := by decide +kernel
theorem dX1_clashes_100 : decode cX1_clashes 100 = .ok (.invokestatic 46, 3) := by decide +kernel
theorem dX1_clashes_103 : decode cX1_clashes 103 = .ok (.istore 6, 2) := by decide +kernel
theorem dX1_clashes_105 : decode cX1_clashes 105 = .ok (.goto 27, 3) := by decide +kernel
theorem dX1_clashes_108 : decode cX1_clashes 108 = .ok (.iload 4, 2) := by decide +kernel
theorem dX1_clashes_110 : decode cX1_clashes 110 = .ok (.bipush 6, 2) := by decide +kernel
theorem dX1_clashes_112 : decode cX1_clashes 112 = .ok (.if_icmp .ne 20, 3) := by decide +kernel
theorem dX1_clashes_115 : decode cX1_clashes 115 = .ok (.aload_n 0, 1) := by decide +kernel
theorem dX1_clashes_116 : decode cX1_clashes 116 = .ok (.iload_n 3, 1) := by decide +kernel
theorem dX1_clashes_117 : decode cX1_clashes 117 = .ok (.aload_n 0, 1) := by decide +kernel
theorem dX1_clashes_118 : decode cX1_clashes 118 = .ok (.getfield 50, 3) := by decide +kernel
theorem dX1_clashes_121 : decode cX1_clashes 121 = .ok (.iload_n 2, 1) := by decide +kernel
theorem dX1_clashes_122 : decode cX1_clashes 122 = .ok (.iaload, 1) := by decide +kernel
theorem dX1_clashes_123 : decode cX1_clashes 123 = .ok (.bipush 6, 2) := by decide +kernel
theorem dX1_clashes_125 : decode cX1_clashes 125 = .ok (.imul, 1) := by decide +kernel
theorem dX1_clashes_126 : decode cX1_clashes 126 = .ok (.iconst 0, 1) := by decide +kernel
theorem dX1_clashes_127 : decode cX1_clashes 127 = .ok (.invokestatic 46, 3) := by decide +kernel
theorem dX1_clashes_130 : decode cX1_clashes 130 = .ok (.istore 6, 2) := by decide +kernel
theorem dX1_clashes_132 : decode cX1_clashes 132 = .ok (.iload 4, 2) := by decide +kernel
theorem dX1_clashes_134 : decode cX1_clashes 134 = .ok (.iconst 5, 1) := by decide +kernel
theorem dX1_clashes_135 : decode cX1_clashes 135 = .ok (.if_icmp .ne 13, 3) := by decide +kernel
theorem dX1_clashes_138 : decode cX1_clashes 138 = .ok (.iload 6, 2) := by decide +kernel
theorem dX1_clashes_140 : decode cX1_clashes 140 = .ok (.iload_n 3, 1) := by decide +kernel
theorem dX1_clashes_141 : decode cX1_clashes 141 = .ok (.iconst 1, 1) := by decide +kernel
theorem dX1_clashes_142 : decode cX1_clashes 142 = .ok (.iload_n 2, 1) := by decide +kernel
theorem dX1_clashes_143 : decode cX1_clashes 143 = .ok (.ishl, 1) := by decide +kernel
theorem dX1_clashes_144 : decode cX1_clashes 144 = .ok (.iand, 1) := by decide +kernel
theorem dX1_clashes_145 : decode cX1_clashes 145 = .ok (.ior, 1) := by decide +kernel
theorem dX1_clashes_146 : decode cX1_clashes 146 = .ok (.istore 6, 2) := by decide +kernel
theorem dX1_clashes_148 : decode cX1_clashes 148 = .ok (.iload 4, 2) := by decide +kernel
theorem dX1_clashes_150 : decode cX1_clashes 150 = .ok (.bipush 6, 2) := by decide +kernel
theorem dX1_clashes_152 : decode cX1_clashes 152 = .ok (.if_icmp .eq 12, 3) := by decide +kernel
theorem dX1_clashes_155 : decode cX1_clashes 155 = .ok (.aload_n 0, 1) := by decide +kernel
theorem dX1_clashes_156 : decode cX1_clashes 156 = .ok (.getfield 53, 3) := by decide +kernel
theorem dX1_clashes_159 : decode cX1_clashes 159 = .ok (.iload_n 2, 1) := by decide +kernel
theorem dX1_clashes_160 : decode cX1_clashes 160 = .ok (.baload, 1) := by decide +kernel
theorem dX1_clashes_161 : decode cX1_clashes 161 = .ok (.ifCond .eq 23, 3) := by decide +kernel
theorem dX1_clashes_164 : decode cX1_clashes 164 = .ok (.iload 6, 2) := by decide +kernel
theorem dX1_clashes_166 : decode cX1_clashes 166 = .ok (.aload_n 0, 1) := by decide +kernel
theorem dX1_clashes_167 : decode cX1_clashes 167 = .ok (.iload_n 3, 1) := by decide +kernel
theorem dX1_clashes_168 : decode cX1_clashes 168 = .ok (.aload_n 0, 1) := by decide +kernel
theorem dX1_clashes_169 : decode cX1_clashes 169 = .ok (.getfield 57, 3) := by decide +kernel
theorem dX1_clashes_172 : decode cX1_clashes 172 = .ok (.iload_n 2, 1) := by decide +kernel
theorem dX1_clashes_173 : decode cX1_clashes 173 = .ok (.iaload, 1) := by decide +kernel
theorem dX1_clashes_174 : decode cX1_clashes 174 = .ok (.bipush 6, 2) := by decide +kernel
theorem dX1_clashes_176 : decode cX1_clashes 176 = .ok (.imul, 1) := by decide +kernel
theorem dX1_clashes_177 : decode cX1_clashes 177 = .ok (.iconst 1, 1) := by decide +kernel
theorem dX1_clashes_178 : decode cX1_clashes 178 = .ok (.invokestatic 46, 3) := by decide +kernel
theorem dX1_clashes_181 : decode cX1_clashes 181 = .ok (.ior, 1) := by decide +kernel
theorem dX1_clashes_182 : decode cX1_clashes 182 = .ok (.istore 6, 2) := by decide +kernel
theorem dX1_clashes_184 : decode cX1_clashes 184 = .ok (.aload_n 1, 1) := by decide +kernel
theorem dX1_clashes_185 : decode cX1_clashes 185 = .ok (.getfield 60, 3) := by decide +kernel
theorem dX1_clashes_188 : decode cX1_clashes 188 = .ok (.iload_n 2, 1) := by decide +kernel
theorem dX1_clashes_189 : decode cX1_clashes 189 = .ok (.iaload, 1) := by decide +kernel
theorem dX1_clashes_190 : decode cX1_clashes 190 = .ok (.istore 7, 2) := by decide +kernel
theorem dX1_clashes_192 : decode cX1_clashes 192 = .ok (.iconst 0, 1) := by decide +kernel
theorem dX1_clashes_193 : decode cX1_clashes 193 = .ok (.istore 8, 2) := by decide +kernel
theorem dX1_clashes_195 : decode cX1_clashes 195 = .ok (.iload 7, 2) := by decide +kernel
theorem dX1_clashes_197 : decode cX1_clashes 197 = .ok (.iload 8, 2) := by decide +kernel
theorem dX1_clashes_199 : decode cX1_clashes 199 = .ok (.ishr, 1) := by decide +kernel
theorem dX1_clashes_200 : decode cX1_clashes 200 = .ok (.ifCond .eq 52, 3) := by decide +kernel
theorem dX1_clashes_203 : decode cX1_clashes 203 = .ok (.iload 8, 2) := by decide +kernel
theorem dX1_clashes_205 : decode cX1_clashes 205 = .ok (.bipush 24, 2) := by decide +kernel
theorem dX1_clashes_207 : decode cX1_clashes 207 = .ok (.if_icmp .ge 45, 3) := by decide +kernel
theorem dX1_clashes_210 : decode cX1_clashes 210 = .ok (.iload 7, 2) := by decide +kernel
theorem dX1_clashes_212 : decode cX1_clashes 212 = .ok (.iload 8, 2) := by decide +kernel
theorem dX1_clashes_214 : decode cX1_clashes 214 = .ok (.ishr, 1) := by decide +kernel
theorem dX1_clashes_215 : decode cX1_clashes 215 = .ok (.iconst 1, 1) := by decide +kernel
theorem dX1_clashes_216 : decode cX1_clashes 216 = .ok (.iand, 1) := by decide +kernel
theorem dX1_clashes_217 : decode cX1_clashes 217 = .ok (.iconst 1, 1) := by decide +kernel
theorem dX1_clashes_218 : decode cX1_clashes 218 = .ok (.if_icmp .ne 28, 3) := by decide +kernel
theorem dX1_clashes_221 : decode cX1_clashes 221 = .ok (.iload 6, 2) := by decide +kernel
theorem dX1_clashes_223 : decode cX1_clashes 223 = .ok (.aload_n 0, 1) := by decide +kernel
theorem dX1_clashes_224 : decode cX1_clashes 224 = .ok (.iload_n 3, 1) := by decide +kernel
theorem dX1_clashes_225 : decode cX1_clashes 225 = .ok (.iconst 1, 1) := by decide +kernel
theorem dX1_clashes_226 : decode cX1_clashes 226 = .ok (.iload 8, 2) := by decide +kernel
theorem dX1_clashes_228 : decode cX1_clashes 228 = .ok (.ishl, 1) := by decide +kernel
theorem dX1_clashes_229 : decode cX1_clashes 229 = .ok (.iconst (-1), 1) := by decide +kernel
theorem dX1_clashes_230 : decode cX1_clashes 230 = .ok (.ixor, 1) := by decide +kernel
theorem dX1_clashes_231 : decode cX1_clashes 231 = .ok (.iand, 1) := by decide +kernel
theorem dX1_clashes_232 : decode cX1_clashes 232 = .ok (.aload_n 0, 1) := by decide +kernel
theorem dX1_clashes_233 : decode cX1_clashes 233 = .ok (.getfield 37, 3) := by decide +kernel
theorem dX1_clashes_236 : decode cX1_clashes 236 = .ok (.iload 8, 2) := by decide +kernel
theorem dX1_clashes_238 : decode cX1_clashes 238 = .ok (.iaload, 1) := by decide +kernel
theorem dX1_clashes_239 : decode cX1_clashes 239 = .ok (.iconst 0, 1) := by decide +kernel
theorem dX1_clashes_240 : decode cX1_clashes 240 = .ok (.invokestatic 46, 3) := by decide +kernel
theorem dX1_clashes_243 : decode cX1_clashes 243 = .ok (.ior, 1) := by decide +kernel
theorem dX1_clashes_244 : decode cX1_clashes 244 = .ok (.istore 6, 2) := by decide +kernel
theorem dX1_clashes_246 : decode cX1_clashes 246 = .ok (.iinc 8 1, 3) := by decide +kernel
theorem dX1_clashes_249 : decode cX1_clashes 249 = .ok (.goto (-54), 3) := by decide +kernel
theorem dX1_clashes_252 : decode cX1_clashes 252 = .ok (.iload 6, 2) := by decide +kernel
theorem dX1_clashes_254 : decode cX1_clashes 254 = .ok (.ireturn, 1) := by decide +kernel
def f_X1_clashes_B44_1 (p2 : Int32) (s0 : sh_S) (v2 : Int32) (v6 : Int32) : Option (Int32) := gu (inb p2 24) (lb (((s0 19 2) ||| (s0 23 (ix p2)))) (fun v12 => ob (f_X1_struck (v2 &&& v12) v6 (0 : Int32) s0) (fun v13 => some v13)))
def f_X1_clashes_B85_2 (s0 : sh_S) (v2 : Int32) (v4 : Int32) (v6 : Int32) : Option (Int32) := ob (if v4 = (2 : Int32) then some (1 : Int32) else some (0 : Int32)) (fun v14 => ob (f_X1_struck v2 v6 v14 s0) (fun v15 => some v15))
def f_X1_clashes_L195 (s0 : sh_S) (v2 : Int32) (v29 : Int32) (v30 : Int32) (v31 : Int32) : Option ((Int32 × Int32) ⊕ (Int32)) := (if (v29 >>> (v31 &&& 31)) = 0 then some (.inr v30) else (if (24 : Int32) ≤ v31 then some (.inr v30) else ob (if ((v29 >>> (v31 &&& 31)) &&& (1 : Int32)) = (1 : Int32) then gu (inb v31 24) (ob (f_X1_struck (v2 &&& (((1 : Int32) <<< (v31 &&& 31)) ^^^ (-1 : Int32))) (s0 3 (ix v31)) (0 : Int32) s0) (fun v35 => lb ((v30 ||| v35)) (fun v36 => some v36))) else some v30) (fun v33 => lb (v31 + (1 : Int32)) (fun v37 => some (.inl (v33, v37))))))
def f_X1_clashes (p2 : Int32) (s0 : sh_S) : Option (Int32) := gu (inb p2 24) (lb ((s0 22 (ix p2))) (fun v2 => gu (inb p2 24) (lb ((s0 5 (ix p2))) (fun v4 => gu (inb p2 24) (lb ((s0 3 (ix p2))) (fun v6 => ob (if v4 = (1 : Int32) then gu (inb p2 24) (lb (((s0 19 2) ||| (s0 23 (ix p2)))) (fun v9 => ob (f_X1_struck (v2 &&& v9) v6 (0 : Int32) s0) (fun v10 => some v10))) else (if v4 = (3 : Int32) then f_X1_clashes_B44_1 p2 s0 v2 v6 else (if v4 = (5 : Int32) then f_X1_clashes_B44_1 p2 s0 v2 v6 else (if v4 = (2 : Int32) then f_X1_clashes_B85_2 s0 v2 v4 v6 else (if v4 = (4 : Int32) then f_X1_clashes_B85_2 s0 v2 v4 v6 else (if v4 = (6 : Int32) then gu (inb p2 24) (ob (f_X1_struck v2 ((s0 6 (ix p2)) * (6 : Int32)) (0 : Int32) s0) (fun v17 => some v17)) else some (0 : Int32))))))) (fun v7 => ob (if v4 = (5 : Int32) then lb ((v7 ||| (v2 &&& ((1 : Int32) <<< (p2 &&& 31))))) (fun v19 => some v19) else some v7) (fun v18 => ob (if v4 = (6 : Int32) then gu (inb p2 24) (ob (f_X1_struck v2 ((s0 2 (ix p2)) * (6 : Int32)) (1 : Int32) s0) (fun v22 => lb ((v18 ||| v22)) (fun v23 => some v23))) else gu (inb p2 24) ((if (s0 8 (ix p2)) = 0 then some v18 else gu (inb p2 24) (ob (f_X1_struck v2 ((s0 2 (ix p2)) * (6 : Int32)) (1 : Int32) s0) (fun v26 => lb ((v18 ||| v26)) (fun v27 => some v27)))))) (fun v20 => gu (inb p2 24) (lb ((s0 26 (ix p2))) (fun v29 => ob (lp (fun q => f_X1_clashes_L195 s0 v2 v29 q.1 q.2) FU (v20, (0 : Int32))) (fun v32 => some v32))))))))))))
set_option maxRecDepth 100000 in
set_option maxHeartbeats 4000000 in
theorem c_X1_clashes (p2 : Int32) (s0 : sh_S) (r : Int32) (hf : f_X1_clashes p2 s0 = some r) : Ctr yX1_clashes cX1_clashes 9 (some .int) ({ frames := 1, cells := 0, slots := 0, locals := 30 } : Room) shCK [.ref 0, .ref 19, .int p2] s0 (some (.int r)) s0 := by
  refine Ctr.mk (ri := .ireturn) (by decide) (Nat.le_of_ble_eq_true rfl) (Rt_i r) ?_
  intro G h hL hR hret
  refine k_drop (lv' := [(0, .ref 0), (1, .ref 19), (2, .int p2)]) [0, 1, 2] rfl ?_
  unfold f_X1_clashes at hf
  refine k_aload_n (pc := 0) h dX1_clashes_0 rfl 1 rfl ?_
  refine k_getR (pc := 1) h fl_RX1_25 rfl rfl dX1_clashes_1 ?_
  refine k_iload_n (pc := 4) h dX1_clashes_4 rfl 2 rfl ?_
  obtain ⟨g1, hf⟩ := gu_s hf
  refine k_iald (pc := 5) (n := 24) h rfl g1 dX1_clashes_5 ?_
  obtain ⟨v2, ev2, hf⟩ := lb_s hf
  refine k_top ev2 ?_
  refine k_istore_n (pc := 6) h dX1_clashes_6 rfl (nk hL (by decide)) (lv' := [(0, .ref 0), (1, .ref 19), (2, .int p2), (3, .int v2)]) rfl ?_
  refine k_aload_n (pc := 7) h dX1_clashes_7 rfl 0 rfl ?_
  refine k_getR (pc := 8) h fl_RX1_34 rfl rfl dX1_clashes_8 ?_
  refine k_iload_n (pc := 11) h dX1_clashes_11 rfl 2 rfl ?_
  obtain ⟨g3, hf⟩ := gu_s hf
  refine k_iald (pc := 12) (n := 24) h rfl g3 dX1_clashes_12 ?_
  obtain ⟨v4, ev4, hf⟩ := lb_s hf
  refine k_top ev4 ?_
  refine k_istore (pc := 13) h dX1_clashes_13 (nk hL (by decide)) (lv' := [(0, .ref 0), (1, .ref 19), (2, .int p2), (3, .int v2), (4, .int v4)]) rfl ?_
  refine k_aload_n (pc := 15) h dX1_clashes_15 rfl 0 rfl ?_
  refine k_getR (pc := 16) h fl_RX1_37 rfl rfl dX1_clashes_16 ?_
  refine k_iload_n (pc := 19) h dX1_clashes_19 rfl 2 rfl ?_
  obtain ⟨g5, hf⟩ := gu_s hf
  refine k_iald (pc := 20) (n := 24) h rfl g5 dX1_clashes_20 ?_
  obtain ⟨v6, ev6, hf⟩ := lb_s hf
  refine k_top ev6 ?_
  refine k_istore (pc := 21) h dX1_clashes_21 (nk hL (by decide)) (lv' := [(0, .ref 0), (1, .ref 19), (2, .int p2), (3, .int v2), (4, .int v4), (5, .int v6)]) rfl ?_
  refine k_iconst (pc := 23) h dX1_clashes_23 kc_iconst_0 ?_
  refine k_istore (pc := 24) h dX1_clashes_24 (nk hL (by decide)) (lv' := [(0, .ref 0), (1, .ref 19), (2, .int p2), (3, .int v2), (4, .int v4), (5, .int v6), (6, .int (0 : Int32))]) rfl ?_
  refine k_iload (pc := 26) h dX1_clashes_26 4 rfl ?_
  refine k_iconst (pc := 28) h dX1_clashes_28 kc_iconst_1 ?_
  obtain ⟨v7, hj, hf⟩ := ob_s hf
  have kj29 : sh_K G shCK 132 [(0, .ref 0), (1, .ref 19), (2, .int p2), (3, .int v2), (4, .int v4), (6, .int v7)] [] s0 := by
    refine k_iload (pc := 132) h dX1_clashes_132 4 rfl ?_
    refine k_iconst (pc := 134) h dX1_clashes_134 kc_iconst_5 ?_
    obtain ⟨v18, hj, hf⟩ := ob_s hf
    have kj135 : sh_K G shCK 148 [(0, .ref 0), (1, .ref 19), (2, .int p2), (3, .int v2), (4, .int v4), (6, .int v18)] [] s0 := by
      refine k_iload (pc := 148) h dX1_clashes_148 4 rfl ?_
      refine k_bipush (pc := 150) h dX1_clashes_150 kc_bipush_6 ?_
      obtain ⟨v20, hj, hf⟩ := ob_s hf
      have kj152 : sh_K G shCK 184 [(0, .ref 0), (1, .ref 19), (2, .int p2), (3, .int v2), (6, .int v20)] [] s0 := by
        refine k_aload_n (pc := 184) h dX1_clashes_184 rfl 1 rfl ?_
        refine k_getR (pc := 185) h fl_RX1_60 rfl rfl dX1_clashes_185 ?_
        refine k_iload_n (pc := 188) h dX1_clashes_188 rfl 2 rfl ?_
        obtain ⟨g28, hf⟩ := gu_s hf
        refine k_iald (pc := 189) (n := 24) h rfl g28 dX1_clashes_189 ?_
        obtain ⟨v29, ev29, hf⟩ := lb_s hf
        refine k_top ev29 ?_
        refine k_istore (pc := 190) h dX1_clashes_190 (nk hL (by decide)) (lv' := [(0, .ref 0), (1, .ref 19), (2, .int p2), (3, .int v2), (6, .int v20), (7, .int v29)]) rfl ?_
        refine k_iconst (pc := 192) h dX1_clashes_192 kc_iconst_0 ?_
        refine k_istore (pc := 193) h dX1_clashes_193 (nk hL (by decide)) (lv' := [(0, .ref 0), (1, .ref 19), (2, .int p2), (3, .int v2), (6, .int v20), (7, .int v29), (8, .int (0 : Int32))]) rfl ?_
        obtain ⟨v32, hl, hf⟩ := ob_s hf
        refine k_drop (lv' := [(0, .ref 0), (3, .int v2), (6, .int v20), (7, .int v29), (8, .int (0 : Int32))]) [0, 3, 4, 5, 6] rfl ?_
        refine lp_s (P := (fun q : Int32 × Int32 => sh_K G shCK 195 [(0, .ref 0), (3, .int v2), (6, .int q.1), (7, .int v29), (8, .int q.2)] [] s0)) (Q := (fun q : Int32 => sh_K G shCK 252 [(6, .int q)] [] s0)) (s := (v20, (0 : Int32))) ?_ hl ?_
        · clear hf hl
          intro q rr hf kc195
          obtain ⟨v30, v31⟩ := q
          have hf : f_X1_clashes_L195 s0 v2 v29 v30 v31 = some rr := hf
          unfold f_X1_clashes_L195 at hf
          refine k_iload (pc := 195) h dX1_clashes_195 3 rfl ?_
          refine k_iload (pc := 197) h dX1_clashes_197 4 rfl ?_
          refine k_ishr (pc := 199) h dX1_clashes_199 ?_
          refine k_if_eq (pc := 200) (tgt := 252) h dX1_clashes_200 rfl (fun hc => ?_) (fun hc => ?_)
          · have hf := it_p hc hf
            obtain rfl := so1 hf
            exact k_drop [2] rfl kc195
          · have hf := it_n hc hf
            refine k_iload (pc := 203) h dX1_clashes_203 4 rfl ?_
            refine k_bipush (pc := 205) h dX1_clashes_205 kc_bipush_24 ?_
            refine k_icmp_ge (pc := 207) (tgt := 252) h dX1_clashes_207 rfl (fun hc => ?_) (fun hc => ?_)
            · have hf := it_p hc hf
              obtain rfl := so1 hf
              exact k_drop [2] rfl kc195
            · have hf := it_n hc hf
              refine k_iload (pc := 210) h dX1_clashes_210 3 rfl ?_
              refine k_iload (pc := 212) h dX1_clashes_212 4 rfl ?_
              refine k_ishr (pc := 214) h dX1_clashes_214 ?_
              refine k_iconst (pc := 215) h dX1_clashes_215 kc_iconst_1 ?_
              refine k_iand (pc := 216) h dX1_clashes_216 ?_
              refine k_iconst (pc := 217) h dX1_clashes_217 kc_iconst_1 ?_
              obtain ⟨v33, hj, hf⟩ := ob_s hf
              have kj218 : sh_K G shCK 246 [(0, .ref 0), (3, .int v2), (6, .int v33), (7, .int v29), (8, .int v31)] [] s0 := by
                obtain ⟨v37, ev37, hf⟩ := lb_s hf
                refine k_iinc (pc := 246) h dX1_clashes_246 4 rfl ((congrArg (_ + ·) kc_iconst_1).trans ev37.symm) (nk hL (by decide)) (lv' := [(0, .ref 0), (3, .int v2), (6, .int v33), (7, .int v29), (8, .int v37)]) rfl ?_
                refine k_goto (pc := 249) (tgt := 195) h dX1_clashes_249 rfl ?_
                obtain rfl := so1 hf
                exact k_drop [0, 1, 2, 3, 4] rfl kc195
              clear hf
              have hf := hj
              clear hj
              refine k_icmp_ne (pc := 218) (tgt := 246) h dX1_clashes_218 rfl (fun hc => ?_) (fun hc => ?_)
              · have hf := it_n hc hf
                obtain rfl := so1 hf
                exact k_drop [0, 1, 2, 3, 4] rfl kj218
              · have hf := it_p hc hf
                refine k_iload (pc := 221) h dX1_clashes_221 2 rfl ?_
                refine k_aload_n (pc := 223) h dX1_clashes_223 rfl 0 rfl ?_
                refine k_iload_n (pc := 224) h dX1_clashes_224 rfl 1 rfl ?_
                refine k_iconst (pc := 225) h dX1_clashes_225 kc_iconst_1 ?_
                refine k_iload (pc := 226) h dX1_clashes_226 4 rfl ?_
                refine k_ishl (pc := 228) h dX1_clashes_228 ?_
                refine k_iconst (pc := 229) h dX1_clashes_229 kc_iconst_m1 ?_
                refine k_ixor (pc := 230) h dX1_clashes_230 ?_
                refine k_iand (pc := 231) h dX1_clashes_231 ?_
                refine k_aload_n (pc := 232) h dX1_clashes_232 rfl 0 rfl ?_
                refine k_getR (pc := 233) h fl_RX1_37 rfl rfl dX1_clashes_233 ?_
                refine k_iload (pc := 236) h dX1_clashes_236 4 rfl ?_
                obtain ⟨g34, hf⟩ := gu_s hf
                refine k_iald (pc := 238) (n := 24) h rfl g34 dX1_clashes_238 ?_
                refine k_iconst (pc := 239) h dX1_clashes_239 kc_iconst_0 ?_
                obtain ⟨v35, cv35, hf⟩ := ob_s hf
                refine k_callS0 (pc := 240) h cs_RX1_46 (c_X1_struck (v2 &&& (((1 : Int32) <<< (v31 &&& 31)) ^^^ (-1 : Int32))) (s0 3 (ix v31)) (0 : Int32) s0 v35 cv35) rfl rfl (st1 := [.int v35, .int v30]) rfl ⟨rfl, rfl⟩ (rk hR (Nat.le_of_ble_eq_true rfl) (Nat.le_of_ble_eq_true rfl)) (Nat.le_of_ble_eq_true rfl) dX1_clashes_240 ?_
                refine k_ior (pc := 243) h dX1_clashes_243 ?_
                obtain ⟨v36, ev36, hf⟩ := lb_s hf
                refine k_top ev36 ?_
                refine k_istore (pc := 244) h dX1_clashes_244 (nk hL (by decide)) (lv' := [(0, .ref 0), (3, .int v2), (6, .int v36), (7, .int v29), (8, .int v31)]) rfl ?_
                obtain rfl := so1 hf
                exact k_drop [0, 1, 2, 3, 4] rfl kj218
        · refine k_iload (pc := 252) h dX1_clashes_252 0 rfl ?_
          obtain rfl := so1 hf
          exact hret 254 _ dX1_clashes_254 trivial
      clear hf
      have hf := hj
      clear hj
      refine k_icmp_eq (pc := 152) (tgt := 164) h dX1_clashes_152 rfl (fun hc => ?_) (fun hc => ?_)
      · have hf := it_p hc hf
        refine k_iload (pc := 164) h dX1_clashes_164 5 rfl ?_
        refine k_aload_n (pc := 166) h dX1_clashes_166 rfl 0 rfl ?_
        refine k_iload_n (pc := 167) h dX1_clashes_167 rfl 3 rfl ?_
        refine k_aload_n (pc := 168) h dX1_clashes_168 rfl 0 rfl ?_
        refine k_getR (pc := 169) h fl_RX1_57 rfl rfl dX1_clashes_169 ?_
        refine k_iload_n (pc := 172) h dX1_clashes_172 rfl 2 rfl ?_
        obtain ⟨g21, hf⟩ := gu_s hf
        refine k_iald (pc := 173) (n := 24) h rfl g21 dX1_clashes_173 ?_
        refine k_bipush (pc := 174) h dX1_clashes_174 kc_bipush_6 ?_
        refine k_imul (pc := 176) h dX1_clashes_176 ?_
        refine k_iconst (pc := 177) h dX1_clashes_177 kc_iconst_1 ?_
        obtain ⟨v22, cv22, hf⟩ := ob_s hf
        refine k_callS0 (pc := 178) h cs_RX1_46 (c_X1_struck v2 ((s0 2 (ix p2)) * (6 : Int32)) (1 : Int32) s0 v22 cv22) rfl rfl (st1 := [.int v22, .int v18]) rfl ⟨rfl, rfl⟩ (rk hR (Nat.le_of_ble_eq_true rfl) (Nat.le_of_ble_eq_true rfl)) (Nat.le_of_ble_eq_true rfl) dX1_clashes_178 ?_
        refine k_ior (pc := 181) h dX1_clashes_181 ?_
        obtain ⟨v23, ev23, hf⟩ := lb_s hf
        refine k_top ev23 ?_
        refine k_istore (pc := 182) h dX1_clashes_182 (nk hL (by decide)) (lv' := [(0, .ref 0), (1, .ref 19), (2, .int p2), (3, .int v2), (4, .int v4), (6, .int v23)]) rfl ?_
        obtain rfl := so1 hf
        exact k_drop [0, 1, 2, 3, 5] rfl kj152
      · have hf := it_n hc hf
        refine k_aload_n (pc := 155) h dX1_clashes_155 rfl 0 rfl ?_
        refine k_getR (pc := 156) h fl_RX1_53 rfl rfl dX1_clashes_156 ?_
        refine k_iload_n (pc := 159) h dX1_clashes_159 rfl 2 rfl ?_
        obtain ⟨g24, hf⟩ := gu_s hf
        refine k_zald (pc := 160) (n := 24) h rfl g24 dX1_clashes_160 ?_
        refine k_if_eq (pc := 161) (tgt := 184) h dX1_clashes_161 rfl (fun hc => ?_) (fun hc => ?_)
        · have hf := it_p hc hf
          obtain rfl := so1 hf
          exact k_drop [0, 1, 2, 3, 5] rfl kj152
        · have hf := it_n hc hf
          refine k_iload (pc := 164) h dX1_clashes_164 5 rfl ?_
          refine k_aload_n (pc := 166) h dX1_clashes_166 rfl 0 rfl ?_
          refine k_iload_n (pc := 167) h dX1_clashes_167 rfl 3 rfl ?_
          refine k_aload_n (pc := 168) h dX1_clashes_168 rfl 0 rfl ?_
          refine k_getR (pc := 169) h fl_RX1_57 rfl rfl dX1_clashes_169 ?_
          refine k_iload_n (pc := 172) h dX1_clashes_172 rfl 2 rfl ?_
          obtain ⟨g25, hf⟩ := gu_s hf
          refine k_iald (pc := 173) (n := 24) h rfl g25 dX1_clashes_173 ?_
          refine k_bipush (pc := 174) h dX1_clashes_174 kc_bipush_6 ?_
          refine k_imul (pc := 176) h dX1_clashes_176 ?_
          refine k_iconst (pc := 177) h dX1_clashes_177 kc_iconst_1 ?_
          obtain ⟨v26, cv26, hf⟩ := ob_s hf
          refine k_callS0 (pc := 178) h cs_RX1_46 (c_X1_struck v2 ((s0 2 (ix p2)) * (6 : Int32)) (1 : Int32) s0 v26 cv26) rfl rfl (st1 := [.int v26, .int v18]) rfl ⟨rfl, rfl⟩ (rk hR (Nat.le_of_ble_eq_true rfl) (Nat.le_of_ble_eq_true rfl)) (Nat.le_of_ble_eq_true rfl) dX1_clashes_178 ?_
          refine k_ior (pc := 181) h dX1_clashes_181 ?_
          obtain ⟨v27, ev27, hf⟩ := lb_s hf
          refine k_top ev27 ?_
          refine k_istore (pc := 182) h dX1_clashes_182 (nk hL (by decide)) (lv' := [(0, .ref 0), (1, .ref 19), (2, .int p2), (3, .int v2), (4, .int v4), (6, .int v27)]) rfl ?_
          obtain rfl := so1 hf
          exact k_drop [0, 1, 2, 3, 5] rfl kj152
    clear hf
    have hf := hj
    clear hj
    refine k_icmp_ne (pc := 135) (tgt := 148) h dX1_clashes_135 rfl (fun hc => ?_) (fun hc => ?_)
    · have hf := it_n hc hf
      obtain rfl := so1 hf
      exact k_drop [0, 1, 2, 3, 4, 5] rfl kj135
    · have hf := it_p hc hf
      refine k_iload (pc := 138) h dX1_clashes_138 5 rfl ?_
      refine k_iload_n (pc := 140) h dX1_clashes_140 rfl 3 rfl ?_
      refine k_iconst (pc := 141) h dX1_clashes_141 kc_iconst_1 ?_
      refine k_iload_n (pc := 142) h dX1_clashes_142 rfl 2 rfl ?_
      refine k_ishl (pc := 143) h dX1_clashes_143 ?_
      refine k_iand (pc := 144) h dX1_clashes_144 ?_
      refine k_ior (pc := 145) h dX1_clashes_145 ?_
      obtain ⟨v19, ev19, hf⟩ := lb_s hf
      refine k_top ev19 ?_
      refine k_istore (pc := 146) h dX1_clashes_146 (nk hL (by decide)) (lv' := [(0, .ref 0), (1, .ref 19), (2, .int p2), (3, .int v2), (4, .int v4), (6, .int v19)]) rfl ?_
      obtain rfl := so1 hf
      exact k_drop [0, 1, 2, 3, 4, 5] rfl kj135
  clear hf
  have hf := hj
  clear hj
  refine k_icmp_eq (pc := 29) (tgt := 44) h dX1_clashes_29 rfl (fun hc => ?_) (fun hc => ?_)
  · have hf := it_p hc hf
    refine k_aload_n (pc := 44) h dX1_clashes_44 rfl 1 rfl ?_
    refine k_getI (pc := 45) h fl_RX1_40 rfl rfl dX1_clashes_45 ?_
    refine k_aload_n (pc := 48) h dX1_clashes_48 rfl 1 rfl ?_
    refine k_getR (pc := 49) h fl_RX1_43 rfl rfl dX1_clashes_49 ?_
    refine k_iload_n (pc := 52) h dX1_clashes_52 rfl 2 rfl ?_
    obtain ⟨g8, hf⟩ := gu_s hf
    refine k_iald (pc := 53) (n := 24) h rfl g8 dX1_clashes_53 ?_
    refine k_ior (pc := 54) h dX1_clashes_54 ?_
    obtain ⟨v9, ev9, hf⟩ := lb_s hf
    refine k_top ev9 ?_
    refine k_istore (pc := 55) h dX1_clashes_55 (nk hL (by decide)) (lv' := [(0, .ref 0), (1, .ref 19), (2, .int p2), (3, .int v2), (4, .int v4), (5, .int v6), (6, .int (0 : Int32)), (7, .int v9)]) rfl ?_
    refine k_aload_n (pc := 57) h dX1_clashes_57 rfl 0 rfl ?_
    refine k_iload_n (pc := 58) h dX1_clashes_58 rfl 3 rfl ?_
    refine k_iload (pc := 59) h dX1_clashes_59 7 rfl ?_
    refine k_iand (pc := 61) h dX1_clashes_61 ?_
    refine k_iload (pc := 62) h dX1_clashes_62 5 rfl ?_
    refine k_iconst (pc := 64) h dX1_clashes_64 kc_iconst_0 ?_
    obtain ⟨v10, cv10, hf⟩ := ob_s hf
    refine k_callS0 (pc := 65) h cs_RX1_46 (c_X1_struck (v2 &&& v9) v6 (0 : Int32) s0 v10 cv10) rfl rfl (st1 := [.int v10]) rfl ⟨rfl, rfl⟩ (rk hR (Nat.le_of_ble_eq_true rfl) (Nat.le_of_ble_eq_true rfl)) (Nat.le_of_ble_eq_true rfl) dX1_clashes_65 ?_
    refine k_istore (pc := 68) h dX1_clashes_68 (nk hL (by decide)) (lv' := [(0, .ref 0), (1, .ref 19), (2, .int p2), (3, .int v2), (4, .int v4), (5, .int v6), (6, .int v10), (7, .int v9)]) rfl ?_
    refine k_goto (pc := 70) (tgt := 132) h dX1_clashes_70 rfl ?_
    obtain rfl := so1 hf
    exact k_drop [0, 1, 2, 3, 4, 6] rfl kj29
  · have hf := it_n hc hf
    refine k_iload (pc := 32) h dX1_clashes_32 4 rfl ?_
    refine k_iconst (pc := 34) h dX1_clashes_34 kc_iconst_3 ?_
    have kb44_1 : f_X1_clashes_B44_1 p2 s0 v2 v6 = some v7 → sh_K G shCK 44 [(0, .ref 0), (1, .ref 19), (2, .int p2), (3, .int v2), (4, .int v4), (5, .int v6)] [] s0 := by
      clear hf
      intro  hf
      unfold f_X1_clashes_B44_1 at hf
      refine k_aload_n (pc := 44) h dX1_clashes_44 rfl 1 rfl ?_
      refine k_getI (pc := 45) h fl_RX1_40 rfl rfl dX1_clashes_45 ?_
      refine k_aload_n (pc := 48) h dX1_clashes_48 rfl 1 rfl ?_
      refine k_getR (pc := 49) h fl_RX1_43 rfl rfl dX1_clashes_49 ?_
      refine k_iload_n (pc := 52) h dX1_clashes_52 rfl 2 rfl ?_
      obtain ⟨g11, hf⟩ := gu_s hf
      refine k_iald (pc := 53) (n := 24) h rfl g11 dX1_clashes_53 ?_
      refine k_ior (pc := 54) h dX1_clashes_54 ?_
      obtain ⟨v12, ev12, hf⟩ := lb_s hf
      refine k_top ev12 ?_
      refine k_istore (pc := 55) h dX1_clashes_55 (nk hL (by decide)) (lv' := [(0, .ref 0), (1, .ref 19), (2, .int p2), (3, .int v2), (4, .int v4), (5, .int v6), (7, .int v12)]) rfl ?_
      refine k_aload_n (pc := 57) h dX1_clashes_57 rfl 0 rfl ?_
      refine k_iload_n (pc := 58) h dX1_clashes_58 rfl 3 rfl ?_
      refine k_iload (pc := 59) h dX1_clashes_59 6 rfl ?_
      refine k_iand (pc := 61) h dX1_clashes_61 ?_
      refine k_iload (pc := 62) h dX1_clashes_62 5 rfl ?_
      refine k_iconst (pc := 64) h dX1_clashes_64 kc_iconst_0 ?_
      obtain ⟨v13, cv13, hf⟩ := ob_s hf
      refine k_callS0 (pc := 65) h cs_RX1_46 (c_X1_struck (v2 &&& v12) v6 (0 : Int32) s0 v13 cv13) rfl rfl (st1 := [.int v13]) rfl ⟨rfl, rfl⟩ (rk hR (Nat.le_of_ble_eq_true rfl) (Nat.le_of_ble_eq_true rfl)) (Nat.le_of_ble_eq_true rfl) dX1_clashes_65 ?_
      refine k_istore (pc := 68) h dX1_clashes_68 (nk hL (by decide)) (lv' := [(0, .ref 0), (1, .ref 19), (2, .int p2), (3, .int v2), (4, .int v4), (5, .int v6), (6, .int v13), (7, .int v12)]) rfl ?_
      refine k_goto (pc := 70) (tgt := 132) h dX1_clashes_70 rfl ?_
      obtain rfl := so1 hf
      exact k_drop [0, 1, 2, 3, 4, 6] rfl kj29
    refine k_icmp_eq (pc := 35) (tgt := 44) h dX1_clashes_35 rfl (fun hc => ?_) (fun hc => ?_)
    · have hf := it_p hc hf
      exact k_drop [0, 1, 2, 3, 4, 5] rfl (kb44_1  hf)
    · have hf := it_n hc hf
      refine k_iload (pc := 38) h dX1_clashes_38 4 rfl ?_
      refine k_iconst (pc := 40) h dX1_clashes_40 kc_iconst_5 ?_
      refine k_icmp_ne (pc := 41) (tgt := 73) h dX1_clashes_41 rfl (fun hc => ?_) (fun hc => ?_)
      · have hf := it_n hc hf
        refine k_iload (pc := 73) h dX1_clashes_73 4 rfl ?_
        refine k_iconst (pc := 75) h dX1_clashes_75 kc_iconst_2 ?_
        have kb85_2 : f_X1_clashes_B85_2 s0 v2 v4 v6 = some v7 → sh_K G shCK 85 [(0, .ref 0), (1, .ref 19), (2, .int p2), (3, .int v2), (4, .int v4), (5, .int v6)] [] s0 := by
          clear hf
          intro  hf
          unfold f_X1_clashes_B85_2 at hf
          refine k_aload_n (pc := 85) h dX1_clashes_85 rfl 0 rfl ?_
          refine k_iload_n (pc := 86) h dX1_clashes_86 rfl 3 rfl ?_
          refine k_iload (pc := 87) h dX1_clashes_87 5 rfl ?_
          refine k_iload (pc := 89) h dX1_clashes_89 4 rfl ?_
          refine k_iconst (pc := 91) h dX1_clashes_91 kc_iconst_2 ?_
          obtain ⟨v14, hj, hf⟩ := ob_s hf
          have kj92 : sh_K G shCK 100 [(0, .ref 0), (1, .ref 19), (2, .int p2), (3, .int v2), (4, .int v4)] [.int v14, .int v6, .int v2, .ref 0] s0 := by
            obtain ⟨v15, cv15, hf⟩ := ob_s hf
            refine k_callS0 (pc := 100) h cs_RX1_46 (c_X1_struck v2 v6 v14 s0 v15 cv15) rfl rfl (st1 := [.int v15]) rfl ⟨rfl, rfl⟩ (rk hR (Nat.le_of_ble_eq_true rfl) (Nat.le_of_ble_eq_true rfl)) (Nat.le_of_ble_eq_true rfl) dX1_clashes_100 ?_
            refine k_istore (pc := 103) h dX1_clashes_103 (nk hL (by decide)) (lv' := [(0, .ref 0), (1, .ref 19), (2, .int p2), (3, .int v2), (4, .int v4), (6, .int v15)]) rfl ?_
            refine k_goto (pc := 105) (tgt := 132) h dX1_clashes_105 rfl ?_
            obtain rfl := so1 hf
            exact k_drop [0, 1, 2, 3, 4, 5] rfl kj29
          clear hf
          have hf := hj
          clear hj
          refine k_icmp_ne (pc := 92) (tgt := 99) h dX1_clashes_92 rfl (fun hc => ?_) (fun hc => ?_)
          · have hf := it_n hc hf
            refine k_iconst (pc := 99) h dX1_clashes_99 kc_iconst_0 ?_
            obtain rfl := so1 hf
            exact k_drop [0, 1, 2, 3, 4] rfl kj92
          · have hf := it_p hc hf
            refine k_iconst (pc := 95) h dX1_clashes_95 kc_iconst_1 ?_
            refine k_goto (pc := 96) (tgt := 100) h dX1_clashes_96 rfl ?_
            obtain rfl := so1 hf
            exact k_drop [0, 1, 2, 3, 4] rfl kj92
        refine k_icmp_eq (pc := 76) (tgt := 85) h dX1_clashes_76 rfl (fun hc => ?_) (fun hc => ?_)
        · have hf := it_p hc hf
          exact k_drop [0, 1, 2, 3, 4, 5] rfl (kb85_2  hf)
        · have hf := it_n hc hf
          refine k_iload (pc := 79) h dX1_clashes_79 4 rfl ?_
          refine k_iconst (pc := 81) h dX1_clashes_81 kc_iconst_4 ?_
          refine k_icmp_ne (pc := 82) (tgt := 108) h dX1_clashes_82 rfl (fun hc => ?_) (fun hc => ?_)
          · have hf := it_n hc hf
            refine k_iload (pc := 108) h dX1_clashes_108 4 rfl ?_
            refine k_bipush (pc := 110) h dX1_clashes_110 kc_bipush_6 ?_
            refine k_icmp_ne (pc := 112) (tgt := 132) h dX1_clashes_112 rfl (fun hc => ?_) (fun hc => ?_)
            · have hf := it_n hc hf
              obtain rfl := so1 hf
              exact k_drop [0, 1, 2, 3, 4, 6] rfl kj29
            · have hf := it_p hc hf
              refine k_aload_n (pc := 115) h dX1_clashes_115 rfl 0 rfl ?_
              refine k_iload_n (pc := 116) h dX1_clashes_116 rfl 3 rfl ?_
              refine k_aload_n (pc := 117) h dX1_clashes_117 rfl 0 rfl ?_
              refine k_getR (pc := 118) h fl_RX1_50 rfl rfl dX1_clashes_118 ?_
              refine k_iload_n (pc := 121) h dX1_clashes_121 rfl 2 rfl ?_
              obtain ⟨g16, hf⟩ := gu_s hf
              refine k_iald (pc := 122) (n := 24) h rfl g16 dX1_clashes_122 ?_
              refine k_bipush (pc := 123) h dX1_clashes_123 kc_bipush_6 ?_
              refine k_imul (pc := 125) h dX1_clashes_125 ?_
              refine k_iconst (pc := 126) h dX1_clashes_126 kc_iconst_0 ?_
              obtain ⟨v17, cv17, hf⟩ := ob_s hf
              refine k_callS0 (pc := 127) h cs_RX1_46 (c_X1_struck v2 ((s0 6 (ix p2)) * (6 : Int32)) (0 : Int32) s0 v17 cv17) rfl rfl (st1 := [.int v17]) rfl ⟨rfl, rfl⟩ (rk hR (Nat.le_of_ble_eq_true rfl) (Nat.le_of_ble_eq_true rfl)) (Nat.le_of_ble_eq_true rfl) dX1_clashes_127 ?_
              refine k_istore (pc := 130) h dX1_clashes_130 (nk hL (by decide)) (lv' := [(0, .ref 0), (1, .ref 19), (2, .int p2), (3, .int v2), (4, .int v4), (5, .int v6), (6, .int v17)]) rfl ?_
              obtain rfl := so1 hf
              exact k_drop [0, 1, 2, 3, 4, 6] rfl kj29
          · have hf := it_p hc hf
            exact k_drop [0, 1, 2, 3, 4, 5] rfl (kb85_2  hf)
      · have hf := it_p hc hf
        exact k_drop [0, 1, 2, 3, 4, 5] rfl (kb44_1  hf)
theorem dX1_findClashes_0 : decode cX1_findClashes 0 = .ok (.iconst 0, 1) := by decide +kernel
theorem dX1_findClashes_1 : decode cX1_findClashes 1 = .ok (.istore_n 3, 1) := by decide +kernel
theorem dX1_findClashes_2 : decode cX1_findClashes 2 = .ok (.iload_n 3, 1) := by decide +kernel
theorem dX1_findClashes_3 : decode cX1_findClashes 3 = .ok (.aload_n 1, 1) := by decide +kernel
theorem dX1_findClashes_4 : decode cX1_findClashes 4 = .ok (.getfield 22, 3) := by decide +kernel
theorem dX1_findClashes_7 : decode cX1_findClashes 7 = .ok (.if_icmp .ge 42, 3) := by decide +kernel
theorem dX1_findClashes_10 : decode cX1_findClashes 10 = .ok (.aload_n 2, 1) := by decide +kernel
theorem dX1_findClashes_11 : decode cX1_findClashes 11 = .ok (.getfield 25, 3) := by decide +kernel
theorem dX1_findClashes_14 : decode cX1_findClashes 14 = .ok (.iload_n 3, 1) := by decide +kernel
theorem dX1_findClashes_15 : decode cX1_findClashes 15 = .ok (.iaload, 1) := by decide +kernel
theorem dX1_findClashes_16 : decode cX1_findClashes 16 = .ok (.istore 4, 2) := by decide +kernel
theorem dX1_findClashes_18 : decode cX1_findClashes 18 = .ok (.aload_n 0, 1) := by decide +kernel
theorem dX1_findClashes_19 : decode cX1_findClashes 19 = .ok (.getfield 9, 3) := by decide +kernel
theorem dX1_findClashes_22 : decode cX1_findClashes 22 = .ok (.iload_n 3, 1) := by decide +kernel
theorem dX1_findClashes_23 : decode cX1_findClashes 23 = .ok (.iconst 4, 1) := by decide +kernel
theorem dX1_findClashes_24 : decode cX1_findClashes 24 = .ok (.imul, 1) := by decide +kernel
theorem dX1_findClashes_25 : decode cX1_findClashes 25 = .ok (.iconst 0, 1) := by decide +kernel
theorem dX1_findClashes_26 : decode cX1_findClashes 26 = .ok (.iadd, 1) := by decide +kernel
theorem dX1_findClashes_27 : decode cX1_findClashes 27 = .ok (.iload 4, 2) := by decide +kernel
theorem dX1_findClashes_29 : decode cX1_findClashes 29 = .ok (.ifCond .ne 7, 3) := by decide +kernel
theorem dX1_findClashes_32 : decode cX1_findClashes 32 = .ok (.iconst 0, 1) := by decide +kernel
theorem dX1_findClashes_33 : decode cX1_findClashes 33 = .ok (.goto 9, 3) := by decide +kernel
theorem dX1_findClashes_36 : decode cX1_findClashes 36 = .ok (.aload_n 1, 1) := by decide +kernel
theorem dX1_findClashes_37 : decode cX1_findClashes 37 = .ok (.aload_n 2, 1) := by decide +kernel
theorem dX1_findClashes_38 : decode cX1_findClashes 38 = .ok (.iload_n 3, 1) := by decide +kernel
theorem dX1_findClashes_39 : decode cX1_findClashes 39 = .ok (.invokestatic 30, 3) := by decide +kernel
theorem dX1_findClashes_42 : decode cX1_findClashes 42 = .ok (.iastore, 1) := by decide +kernel
theorem dX1_findClashes_43 : decode cX1_findClashes 43 = .ok (.iinc 3 1, 3) := by decide +kernel
theorem dX1_findClashes_46 : decode cX1_findClashes 46 = .ok (.goto (-44), 3) := by decide +kernel
theorem dX1_findClashes_49 : decode cX1_findClashes 49 = .ok (.return_, 1) := by decide +kernel
def f_X1_findClashes_L2 (v1 : Int32) (s2 : sh_S) : Option ((Int32 × sh_S) ⊕ (sh_S)) := (if (s2 0 9) ≤ v1 then some (.inr s2) else gu (inb v1 24) (lb ((s2 22 (ix v1))) (fun v5 => ob (if v5 = 0 then some (0 : Int32) else ob (f_X1_clashes v1 s2) (fun v7 => some v7)) (fun v6 => gu (inb ((v1 * (4 : Int32)) + (0 : Int32)) 96) (lb (ur s2 30 (upd (s2 30) (ix ((v1 * (4 : Int32)) + (0 : Int32))) v6)) (fun s9 => lb (v1 + (1 : Int32)) (fun v10 => some (.inl (v10, s9)))))))))
def f_X1_findClashes  (s0 : sh_S) : Option (sh_S) := ob (lp (fun q => f_X1_findClashes_L2 q.1 q.2) FU ((0 : Int32), s0)) (fun s3 => some s3)
set_option maxRecDepth 100000 in
set_option maxHeartbeats 4000000 in
theorem c_X1_findClashes  (s0 : sh_S) (s9x : sh_S) (hf : f_X1_findClashes  s0 = some s9x) : Ctr yX1_findClashes cX1_findClashes 5 none ({ frames := 2, cells := 0, slots := 0, locals := 58 } : Room) shCK [.ref 29, .ref 0, .ref 19] s0 none s9x := by
  refine Ctr.mk (ri := .return_) (by decide) (Nat.le_of_ble_eq_true rfl) (Rt_v) ?_
  intro G h hL hR hret
  refine k_drop (lv' := [(0, .ref 29), (1, .ref 0), (2, .ref 19)]) [0, 1, 2] rfl ?_
  unfold f_X1_findClashes at hf
  refine k_iconst (pc := 0) h dX1_findClashes_0 kc_iconst_0 ?_
  refine k_istore_n (pc := 1) h dX1_findClashes_1 rfl (nk hL (by decide)) (lv' := [(0, .ref 29), (1, .ref 0), (2, .ref 19), (3, .int (0 : Int32))]) rfl ?_
  obtain ⟨s3, hl, hf⟩ := ob_s hf
  refine k_drop (lv' := [(0, .ref 29), (1, .ref 0), (2, .ref 19), (3, .int (0 : Int32))]) [0, 1, 2, 3] rfl ?_
  refine lp_s (P := (fun q : Int32 × sh_S => sh_K G shCK 2 [(0, .ref 29), (1, .ref 0), (2, .ref 19), (3, .int q.1)] [] q.2)) (Q := (fun q : sh_S => sh_K G shCK 49 [] [] q)) (s := ((0 : Int32), s0)) ?_ hl ?_
  · clear hf hl
    intro q rr hf kc2
    obtain ⟨v1, s2⟩ := q
    have hf : f_X1_findClashes_L2 v1 s2 = some rr := hf
    unfold f_X1_findClashes_L2 at hf
    refine k_iload_n (pc := 2) h dX1_findClashes_2 rfl 3 rfl ?_
    refine k_aload_n (pc := 3) h dX1_findClashes_3 rfl 1 rfl ?_
    refine k_getI (pc := 4) h fl_RX1_22 rfl rfl dX1_findClashes_4 ?_
    refine k_icmp_ge (pc := 7) (tgt := 49) h dX1_findClashes_7 rfl (fun hc => ?_) (fun hc => ?_)
    · have hf := it_p hc hf
      obtain rfl := so1 hf
      exact k_drop [] rfl kc2
    · have hf := it_n hc hf
      refine k_aload_n (pc := 10) h dX1_findClashes_10 rfl 2 rfl ?_
      refine k_getR (pc := 11) h fl_RX1_25 rfl rfl dX1_findClashes_11 ?_
      refine k_iload_n (pc := 14) h dX1_findClashes_14 rfl 3 rfl ?_
      obtain ⟨g4, hf⟩ := gu_s hf
      refine k_iald (pc := 15) (n := 24) h rfl g4 dX1_findClashes_15 ?_
      obtain ⟨v5, ev5, hf⟩ := lb_s hf
      refine k_top ev5 ?_
      refine k_istore (pc := 16) h dX1_findClashes_16 (nk hL (by decide)) (lv' := [(0, .ref 29), (1, .ref 0), (2, .ref 19), (3, .int v1), (4, .int v5)]) rfl ?_
      refine k_aload_n (pc := 18) h dX1_findClashes_18 rfl 0 rfl ?_
      refine k_getR (pc := 19) h fl_RX1_9 rfl rfl dX1_findClashes_19 ?_
      refine k_iload_n (pc := 22) h dX1_findClashes_22 rfl 3 rfl ?_
      refine k_iconst (pc := 23) h dX1_findClashes_23 kc_iconst_4 ?_
      refine k_imul (pc := 24) h dX1_findClashes_24 ?_
      refine k_iconst (pc := 25) h dX1_findClashes_25 kc_iconst_0 ?_
      refine k_iadd (pc := 26) h dX1_findClashes_26 ?_
      refine k_iload (pc := 27) h dX1_findClashes_27 4 rfl ?_
      obtain ⟨v6, hj, hf⟩ := ob_s hf
      have kj29 : sh_K G shCK 42 [(0, .ref 29), (1, .ref 0), (2, .ref 19), (3, .int v1)] [.int v6, .int ((v1 * (4 : Int32)) + (0 : Int32)), .ref 30] s2 := by
        obtain ⟨g8, hf⟩ := gu_s hf
        obtain ⟨s9, es9, hf⟩ := lb_s hf
        refine k_iast (pc := 42) (n := 96) h rfl g8 dX1_findClashes_42 ?_
        refine k_heap es9 ?_
        obtain ⟨v10, ev10, hf⟩ := lb_s hf
        refine k_iinc (pc := 43) h dX1_findClashes_43 3 rfl ((congrArg (_ + ·) kc_iconst_1).trans ev10.symm) (nk hL (by decide)) (lv' := [(0, .ref 29), (1, .ref 0), (2, .ref 19), (3, .int v10)]) rfl ?_
        refine k_goto (pc := 46) (tgt := 2) h dX1_findClashes_46 rfl ?_
        obtain rfl := so1 hf
        exact k_drop [0, 1, 2, 3] rfl kc2
      clear hf
      have hf := hj
      clear hj
      refine k_if_ne (pc := 29) (tgt := 36) h dX1_findClashes_29 rfl (fun hc => ?_) (fun hc => ?_)
      · have hf := it_n hc hf
        refine k_aload_n (pc := 36) h dX1_findClashes_36 rfl 1 rfl ?_
        refine k_aload_n (pc := 37) h dX1_findClashes_37 rfl 2 rfl ?_
        refine k_iload_n (pc := 38) h dX1_findClashes_38 rfl 3 rfl ?_
        obtain ⟨v7, cv7, hf⟩ := ob_s hf
        refine k_callS0 (pc := 39) h cs_RX1_30 (c_X1_clashes v1 s2 v7 cv7) rfl rfl (st1 := [.int v7, .int ((v1 * (4 : Int32)) + (0 : Int32)), .ref 30]) rfl ⟨rfl, rfl⟩ (rk hR (Nat.le_of_ble_eq_true rfl) (Nat.le_of_ble_eq_true rfl)) (Nat.le_of_ble_eq_true rfl) dX1_findClashes_39 ?_
        obtain rfl := so1 hf
        exact k_drop [0, 1, 2, 3] rfl kj29
      · have hf := it_p hc hf
        refine k_iconst (pc := 32) h dX1_findClashes_32 kc_iconst_0 ?_
        refine k_goto (pc := 33) (tgt := 42) h dX1_findClashes_33 rfl ?_
        obtain rfl := so1 hf
        exact k_drop [0, 1, 2, 3] rfl kj29
  · obtain rfl := so1 hf
    exact hret 49 _ dX1_findClashes_49 trivial
theorem dX1_findMisuses_0 : decode cX1_findMisuses 0 = .ok (.iconst 0, 1) := by decide +kernel
theorem dX1_findMisuses_1 : decode cX1_findMisuses 1 = .ok (.istore_n 3, 1) := by decide +kernel
theorem dX1_findMisuses_2 : decode cX1_findMisuses 2 = .ok (.iload_n 3, 1) := by decide +kernel
theorem dX1_findMisuses_3 : decode cX1_findMisuses 3 = .ok (.aload_n 1, 1) := by decide +kernel
theorem dX1_findMisuses_4 : decode cX1_findMisuses 4 = .ok (.getfield 22, 3) := by decide +kernel
theorem dX1_findMisuses_7 : decode cX1_findMisuses 7 = .ok (.if_icmp .ge 186, 3) := by decide +kernel
theorem dX1_findMisuses_10 : decode cX1_findMisuses 10 = .ok (.aload_n 1, 1) := by decide +kernel
theorem dX1_findMisuses_11 : decode cX1_findMisuses 11 = .ok (.getfield 34, 3) := by decide +kernel
theorem dX1_findMisuses_14 : decode cX1_findMisuses 14 = .ok (.iload_n 3, 1) := by decide +kernel
theorem dX1_findMisuses_15 : decode cX1_findMisuses 15 = .ok (.iaload, 1) := by decide +kernel
theorem dX1_findMisuses_16 : decode cX1_findMisuses 16 = .ok (.istore 4, 2) := by decide +kernel
theorem dX1_findMisuses_18 : decode cX1_findMisuses 18 = .ok (.aload_n 1, 1) := by decide +kernel
theorem dX1_findMisuses_19 : decode cX1_findMisuses 19 = .ok (.getfield 50, 3) := by decide +kernel
theorem dX1_findMisuses_22 : decode cX1_findMisuses 22 = .ok (.iload_n 3, 1) := by decide +kernel
theorem dX1_findMisuses_23 : decode cX1_findMisuses 23 = .ok (.iaload, 1) := by decide +kernel
theorem dX1_findMisuses_24 : decode cX1_findMisuses 24 = .ok (.istore 5, 2) := by decide +kernel
theorem dX1_findMisuses_26 : decode cX1_findMisuses 26 = .ok (.aload_n 2, 1) := by decide +kernel
theorem dX1_findMisuses_27 : decode cX1_findMisuses 27 = .ok (.aload_n 1, 1) := by decide +kernel
theorem dX1_findMisuses_28 : decode cX1_findMisuses 28 = .ok (.iload_n 3, 1) := by decide +kernel
theorem dX1_findMisuses_29 : decode cX1_findMisuses 29 = .ok (.invokevirtual 66, 3) := by decide +kernel
theorem dX1_findMisuses_32 : decode cX1_findMisuses 32 = .ok (.istore 6, 2) := by decide +kernel
theorem dX1_findMisuses_34 : decode cX1_findMisuses 34 = .ok (.iload 4, 2) := by decide +kernel
theorem dX1_findMisuses_36 : decode cX1_findMisuses 36 = .ok (.iconst 2, 1) := by decide +kernel
theorem dX1_findMisuses_37 : decode cX1_findMisuses 37 = .ok (.if_icmp .eq 15, 3) := by decide +kernel
theorem dX1_findMisuses_40 : decode cX1_findMisuses 40 = .ok (.iload 4, 2) := by decide +kernel
theorem dX1_findMisuses_42 : decode cX1_findMisuses 42 = .ok (.iconst 4, 1) := by decide +kernel
theorem dX1_findMisuses_43 : decode cX1_findMisuses 43 = .ok (.if_icmp .eq 9, 3) := by decide +kernel
theorem dX1_findMisuses_46 : decode cX1_findMisuses 46 = .ok (.iload 4, 2) := by decide +kernel
theorem dX1_findMisuses_48 : decode cX1_findMisuses 48 = .ok (.iconst 5, 1) := by decide +kernel
theorem dX1_findMisuses_49 : decode cX1_findMisuses 49 = .ok (.if_icmp .ne 7, 3) := by decide +kernel
theorem dX1_findMisuses_52 : decode cX1_findMisuses 52 = .ok (.iconst 1, 1) := by decide +kernel
theorem dX1_findMisuses_53 : decode cX1_findMisuses 53 = .ok (.goto 4, 3) := by decide +kernel
theorem dX1_findMisuses_56 : decode cX1_findMisuses 56 = .ok (.iconst 0, 1) := by decide +kernel
theorem dX1_findMisuses_57 : decode cX1_findMisuses 57 = .ok (.istore 7, 2) := by decide +kernel
theorem dX1_findMisuses_59 : decode cX1_findMisuses 59 = .ok (.aload_n 1, 1) := by decide +kernel
theorem dX1_findMisuses_60 : decode cX1_findMisuses 60 = .ok (.getfield 53, 3) := by decide +kernel
theorem dX1_findMisuses_63 : decode cX1_findMisuses 63 = .ok (.iload_n 3, 1) := by decide +kernel
theorem dX1_findMisuses_64 : decode cX1_findMisuses 64 = .ok (.baload, 1) := by decide +kernel
theorem dX1_findMisuses_65 : decode cX1_findMisuses 65 = .ok (.ifCond .eq 16, 3) := by decide +kernel
theorem dX1_findMisuses_68 : decode cX1_findMisuses 68 = .ok (.aload_n 1, 1) := by decide +kernel
theorem dX1_findMisuses_69 : decode cX1_findMisuses 69 = .ok (.getfield 70, 3) := by decide +kernel
theorem dX1_findMisuses_72 : decode cX1_findMisuses 72 = .ok (.iload_n 3, 1) := by decide +kernel
theorem dX1_findMisuses_73 : decode cX1_findMisuses 73 = .ok (.baload, 1) := by decide +kernel
theorem dX1_findMisuses_74 : decode cX1_findMisuses 74 = .ok (.ifCond .ne 7, 3) := by decide +kernel
theorem dX1_findMisuses_77 : decode cX1_findMisuses 77 = .ok (.iconst 1, 1) := by decide +kernel
theorem dX1_findMisuses_78 : decode cX1_findMisuses 78 = .ok (.goto 4, 3) := by decide +kernel
theorem dX1_findMisuses_81 : decode cX1_findMisuses 81 = .ok (.iconst 0, 1) := by decide +kernel
theorem dX1_findMisuses_82 : decode cX1_findMisuses 82 = .ok (.istore 8, 2) := by decide +kernel
theorem dX1_findMisuses_84 : decode cX1_findMisuses 84 = .ok (.iload 8, 2) := by decide +kernel
theorem dX1_findMisuses_86 : decode cX1_findMisuses 86 = .ok (.ifCond .eq 21, 3) := by decide +kernel
theorem dX1_findMisuses_89 : decode cX1_findMisuses 89 = .ok (.aload_n 2, 1) := by decide +kernel
theorem dX1_findMisuses_90 : decode cX1_findMisuses 90 = .ok (.getfield 73, 3) := by decide +kernel
theorem dX1_findMisuses_93 : decode cX1_findMisuses 93 = .ok (.iload_n 3, 1) := by decide +kernel
theorem dX1_findMisuses_94 : decode cX1_findMisuses 94 = .ok (.bipush 8, 2) := by decide +kernel
theorem dX1_findMisuses_96 : decode cX1_findMisuses 96 = .ok (.imul, 1) := by decide +kernel
theorem dX1_findMisuses_97 : decode cX1_findMisuses 97 = .ok (.iload 5, 2) := by decide +kernel
theorem dX1_findMisuses_99 : decode cX1_findMisuses 99 = .ok (.iadd, 1) := by decide +kernel
theorem dX1_findMisuses_100 : decode cX1_findMisuses 100 = .ok (.iaload, 1) := by decide +kernel
theorem dX1_findMisuses_101 : decode cX1_findMisuses 101 = .ok (.ldc 76, 2) := by decide +kernel
theorem dX1_findMisuses_103 : decode cX1_findMisuses 103 = .ok (.iand, 1) := by decide +kernel
theorem dX1_findMisuses_104 : decode cX1_findMisuses 104 = .ok (.goto 4, 3) := by decide +kernel
theorem dX1_findMisuses_107 : decode cX1_findMisuses 107 = .ok (.iconst 0, 1) := by decide +kernel
theorem dX1_findMisuses_108 : decode cX1_findMisuses 108 = .ok (.istore 9, 2) := by decide +kernel
theorem dX1_findMisuses_110 : decode cX1_findMisuses 110 = .ok (.iload_n 3, 1) := by decide +kernel
theorem dX1_findMisuses_111 : decode cX1_findMisuses 111 = .ok (.iconst 4, 1) := by decide +kernel
theorem dX1_findMisuses_112 : decode cX1_findMisuses 112 = .ok (.imul, 1) := by decide +kernel
theorem dX1_findMisuses_113 : decode cX1_findMisuses 113 = .ok (.istore 10, 2) := by decide +kernel
theorem dX1_findMisuses_115 : decode cX1_findMisuses 115 = .ok (.aload_n 0, 1) := by decide +kernel
theorem dX1_findMisuses_116 : decode cX1_findMisuses 116 = .ok (.getfield 9, 3) := by decide +kernel
theorem dX1_findMisuses_119 : decode cX1_findMisuses 119 = .ok (.iload 10, 2) := by decide +kernel
theorem dX1_findMisuses_121 : decode cX1_findMisuses 121 = .ok (.iconst 1, 1) := by decide +kernel
theorem dX1_findMisuses_122 : decode cX1_findMisuses 122 = .ok (.iadd, 1) := by decide +kernel
theorem dX1_findMisuses_123 : decode cX1_findMisuses 123 = .ok (.iload 6, 2) := by decide +kernel
theorem dX1_findMisuses_125 : decode cX1_findMisuses 125 = .ok (.ldc 77, 2) := by decide +kernel
theorem dX1_findMisuses_127 : decode cX1_findMisuses 127 = .ok (.iand, 1) := by decide +kernel
theorem dX1_findMisuses_128 : decode cX1_findMisuses 128 = .ok (.ifCond .eq 10, 3) := by decide +kernel
theorem dX1_findMisuses_131 : decode cX1_findMisuses 131 = .ok (.iconst 1, 1) := by decide +kernel
theorem dX1_findMisuses_132 : decode cX1_findMisuses 132 = .ok (.iload 5, 2) := by decide +kernel
theorem dX1_findMisuses_134 : decode cX1_findMisuses 134 = .ok (.ishl, 1) := by decide +kernel
theorem dX1_findMisuses_135 : decode cX1_findMisuses 135 = .ok (.goto 4, 3) := by decide +kernel
theorem dX1_findMisuses_138 : decode cX1_findMisuses 138 = .ok (.iconst 0, 1) := by decide +kernel
theorem dX1_findMisuses_139 : decode cX1_findMisuses 139 = .ok (.iastore, 1) := by decide +kernel
theorem dX1_findMisuses_140 : decode cX1_findMisuses 140 = .ok (.aload_n 0, 1) := by decide +kernel
theorem dX1_findMisuses_141 : decode cX1_findMisuses 141 = .ok (.getfield 9, 3) := by decide +kernel
theorem dX1_findMisuses_144 : decode cX1_findMisuses 144 = .ok (.iload 10, 2) := by decide +kernel
theorem dX1_findMisuses_146 : decode cX1_findMisuses 146 = .ok (.iconst 2, 1) := by decide +kernel
theorem dX1_findMisuses_147 : decode cX1_findMisuses 147 = .ok (.iadd, 1) := by decide +kernel
theorem dX1_findMisuses_148 : decode cX1_findMisuses 148 = .ok (.iload 7, 2) := by decide +kernel
theorem dX1_findMisuses_150 : decode cX1_findMisuses 150 = .ok (.ifCond .eq 13, 3) := by decide +kernel
theorem dX1_findMisuses_153 : decode cX1_findMisuses 153 = .ok (.iload 6, 2) := by decide +kernel
theorem dX1_findMisuses_155 : decode cX1_findMisuses 155 = .ok (.aload_n 2, 1) := by decide +kernel
theorem dX1_findMisuses_156 : decode cX1_findMisuses 156 = .ok (.getfield 78, 3) := by decide +kernel
theorem dX1_findMisuses_159 : decode cX1_findMisuses 159 = .ok (.iand, 1) := by decide +kernel
theorem dX1_findMisuses_160 : decode cX1_findMisuses 160 = .ok (.goto 4, 3) := by decide +kernel
theorem dX1_findMisuses_163 : decode cX1_findMisuses 163 = .ok (.iconst 0, 1) := by decide +kernel
theorem dX1_findMisuses_164 : decode cX1_findMisuses 164 = .ok (.iastore, 1) := by decide +kernel
theorem dX1_findMisuses_165 : decode cX1_findMisuses 165 = .ok (.aload_n 0, 1) := by decide +kernel
theorem dX1_findMisuses_166 : decode cX1_findMisuses 166 = .ok (.getfield 9, 3) := by decide +kernel
theorem dX1_findMisuses_169 : decode cX1_findMisuses 169 = .ok (.iload 10, 2) := by decide +kernel
theorem dX1_findMisuses_171 : decode cX1_findMisuses 171 = .ok (.iconst 3, 1) := by decide +kernel
theorem dX1_findMisuses_172 : decode cX1_findMisuses 172 = .ok (.iadd, 1) := by decide +kernel
theorem dX1_findMisuses_173 : decode cX1_findMisuses 173 = .ok (.iload 9, 2) := by decide +kernel
theorem dX1_findMisuses_175 : decode cX1_findMisuses 175 = .ok (.ifCond .eq 10, 3) := by decide +kernel
theorem dX1_findMisuses_178 : decode cX1_findMisuses 178 = .ok (.iconst 1, 1) := by decide +kernel
theorem dX1_findMisuses_179 : decode cX1_findMisuses 179 = .ok (.iload 5, 2) := by decide +kernel
theorem dX1_findMisuses_181 : decode cX1_findMisuses 181 = .ok (.ishl, 1) := by decide +kernel
theorem dX1_findMisuses_182 : decode cX1_findMisuses 182 = .ok (.goto 4, 3) := by decide +kernel
theorem dX1_findMisuses_185 : decode cX1_findMisuses 185 = .ok (.iconst 0, 1) := by decide +kernel
theorem dX1_findMisuses_186 : decode cX1_findMisuses 186 = .ok (.iastore, 1) := by decide +kernel
theorem dX1_findMisuses_187 : decode cX1_findMisuses 187 = .ok (.iinc 3 1, 3) := by decide +kernel
theorem dX1_findMisuses_190 : decode cX1_findMisuses 190 = .ok (.goto (-188), 3) := by decide +kernel
theorem dX1_findMisuses_193 : decode cX1_findMisuses 193 = .ok (.return_, 1) := by decide +kernel
def f_X1_findMisuses_L2 (v1 : Int32) (s2 : sh_S) : Option ((Int32 × sh_S) ⊕ (sh_S)) := (if (s2 0 9) ≤ v1 then some (.inr s2) else gu (inb v1 24) (lb ((s2 5 (ix v1))) (fun v5 => gu (inb v1 24) (lb ((s2 6 (ix v1))) (fun v7 => ob (f_X3_heldThrough v1 s2) (fun v8 => ob (if v5 = (2 : Int32) then some (1 : Int32) else (if v5 = (4 : Int32) then some (1 : Int32) else (if v5 = (5 : Int32) then some (1 : Int32) else some (0 : Int32)))) (fun v9 => gu (inb v1 24) (ob (if (s2 8 (ix v1)) = 0 then some (0 : Int32) else gu (inb v1 24) ((if (s2 9 (ix v1)) = 0 then some (1 : Int32) else some (0 : Int32)))) (fun v11 => ob (if v11 = 0 then some (0 : Int32) else gu (inb ((v1 * (8 : Int32)) + v7) 192) (some ((s2 20 (ix ((v1 * (8 : Int32)) + v7))) &&& (-16777217 : Int32)))) (fun v13 => lb ((v1 * (4 : Int32))) (fun v15 => ob (if (v8 &&& (16777216 : Int32)) = 0 then some (0 : Int32) else some ((1 : Int32) <<< (v7 &&& 31))) (fun v16 => gu (inb (v15 + (1 : Int32)) 96) (lb (ur s2 30 (upd (s2 30) (ix (v15 + (1 : Int32))) v16)) (fun s18 => ob (if v9 = 0 then some (0 : Int32) else some (v8 &&& (s18 19 1))) (fun v19 => gu (inb (v15 + (2 : Int32)) 96) (lb (ur s18 30 (upd (s18 30) (ix (v15 + (2 : Int32))) v19)) (fun s21 => ob (if v13 = 0 then some (0 : Int32) else some ((1 : Int32) <<< (v7 &&& 31))) (fun v22 => gu (inb (v15 + (3 : Int32)) 96) (lb (ur s21 30 (upd (s21 30) (ix (v15 + (3 : Int32))) v22)) (fun s24 => lb (v1 + (1 : Int32)) (fun v25 => some (.inl (v25, s24)))))))))))))))))))))))
def f_X1_findMisuses  (s0 : sh_S) : Option (sh_S) := ob (lp (fun q => f_X1_findMisuses_L2 q.1 q.2) FU ((0 : Int32), s0)) (fun s3 => some s3)
set_option maxRecDepth 100000 in
set_option maxHeartbeats 4000000 in
theorem c_X1_findMisuses  (s0 : sh_S) (s9x : sh_S) (hf : f_X1_findMisuses  s0 = some s9x) : Ctr yX1_findMisuses cX1_findMisuses 11 none ({ frames := 1, cells := 0, slots := 0, locals := 22 } : Room) shCK [.ref 29, .ref 0, .ref 19] s0 none s9x := by
  refine Ctr.mk (ri := .return_) (by decide) (Nat.le_of_ble_eq_true rfl) (Rt_v) ?_
  intro G h hL hR hret
  refine k_drop (lv' := [(0, .ref 29), (1, .ref 0), (2, .ref 19)]) [0, 1, 2] rfl ?_
  unfold f_X1_findMisuses at hf
  refine k_iconst (pc := 0) h dX1_findMisuses_0 kc_iconst_0 ?_
  refine k_istore_n (pc := 1) h dX1_findMisuses_1 rfl (nk hL (by decide)) (lv' := [(0, .ref 29), (1, .ref 0), (2, .ref 19), (3, .int (0 : Int32))]) rfl ?_
  obtain ⟨s3, hl, hf⟩ := ob_s hf
  refine k_drop (lv' := [(0, .ref 29), (1, .ref 0), (2, .ref 19), (3, .int (0 : Int32))]) [0, 1, 2, 3] rfl ?_
  refine lp_s (P := (fun q : Int32 × sh_S => sh_K G shCK 2 [(0, .ref 29), (1, .ref 0), (2, .ref 19), (3, .int q.1)] [] q.2)) (Q := (fun q : sh_S => sh_K G shCK 193 [] [] q)) (s := ((0 : Int32), s0)) ?_ hl ?_
  · clear hf hl
    intro q rr hf kc2
    obtain ⟨v1, s2⟩ := q
    have hf : f_X1_findMisuses_L2 v1 s2 = some rr := hf
    unfold f_X1_findMisuses_L2 at hf
    refine k_iload_n (pc := 2) h dX1_findMisuses_2 rfl 3 rfl ?_
    refine k_aload_n (pc := 3) h dX1_findMisuses_3 rfl 1 rfl ?_
    refine k_getI (pc := 4) h fl_RX1_22 rfl rfl dX1_findMisuses_4 ?_
    refine k_icmp_ge (pc := 7) (tgt := 193) h dX1_findMisuses_7 rfl (fun hc => ?_) (fun hc => ?_)
    · have hf := it_p hc hf
      obtain rfl := so1 hf
      exact k_drop [] rfl kc2
    · have hf := it_n hc hf
      refine k_aload_n (pc := 10) h dX1_findMisuses_10 rfl 1 rfl ?_
      refine k_getR (pc := 11) h fl_RX1_34 rfl rfl dX1_findMisuses_11 ?_
      refine k_iload_n (pc := 14) h dX1_findMisuses_14 rfl 3 rfl ?_
      obtain ⟨g4, hf⟩ := gu_s hf
      refine k_iald (pc := 15) (n := 24) h rfl g4 dX1_findMisuses_15 ?_
      obtain ⟨v5, ev5, hf⟩ := lb_s hf
      refine k_top ev5 ?_
      refine k_istore (pc := 16) h dX1_findMisuses_16 (nk hL (by decide)) (lv' := [(0, .ref 29), (1, .ref 0), (2, .ref 19), (3, .int v1), (4, .int v5)]) rfl ?_
      refine k_aload_n (pc := 18) h dX1_findMisuses_18 rfl 1 rfl ?_
      refine k_getR (pc := 19) h fl_RX1_50 rfl rfl dX1_findMisuses_19 ?_
      refine k_iload_n (pc := 22) h dX1_findMisuses_22 rfl 3 rfl ?_
      obtain ⟨g6, hf⟩ := gu_s hf
      refine k_iald (pc := 23) (n := 24) h rfl g6 dX1_findMisuses_23 ?_
      obtain ⟨v7, ev7, hf⟩ := lb_s hf
      refine k_top ev7 ?_
      refine k_istore (pc := 24) h dX1_findMisuses_24 (nk hL (by decide)) (lv' := [(0, .ref 29), (1, .ref 0), (2, .ref 19), (3, .int v1), (4, .int v5), (5, .int v7)]) rfl ?_
      refine k_aload_n (pc := 26) h dX1_findMisuses_26 rfl 2 rfl ?_
      refine k_aload_n (pc := 27) h dX1_findMisuses_27 rfl 1 rfl ?_
      refine k_iload_n (pc := 28) h dX1_findMisuses_28 rfl 3 rfl ?_
      obtain ⟨v8, cv8, hf⟩ := ob_s hf
      refine k_callV0 (pc := 29) h cv_RX1_66 (c_X3_heldThrough v1 s2 v8 cv8) rfl rfl rfl (st1 := [.int v8]) rfl ⟨rfl, rfl⟩ (rk hR (Nat.le_of_ble_eq_true rfl) (Nat.le_of_ble_eq_true rfl)) (Nat.le_of_ble_eq_true rfl) dX1_findMisuses_29 ?_
      refine k_istore (pc := 32) h dX1_findMisuses_32 (nk hL (by decide)) (lv' := [(0, .ref 29), (1, .ref 0), (2, .ref 19), (3, .int v1), (4, .int v5), (5, .int v7), (6, .int v8)]) rfl ?_
      refine k_iload (pc := 34) h dX1_findMisuses_34 4 rfl ?_
      refine k_iconst (pc := 36) h dX1_findMisuses_36 kc_iconst_2 ?_
      obtain ⟨v9, hj, hf⟩ := ob_s hf
      have kj37 : sh_K G shCK 57 [(0, .ref 29), (1, .ref 0), (2, .ref 19), (3, .int v1), (5, .int v7), (6, .int v8)] [.int v9] s2 := by
        refine k_istore (pc := 57) h dX1_findMisuses_57 (nk hL (by decide)) (lv' := [(0, .ref 29), (1, .ref 0), (2, .ref 19), (3, .int v1), (5, .int v7), (6, .int v8), (7, .int v9)]) rfl ?_
        refine k_aload_n (pc := 59) h dX1_findMisuses_59 rfl 1 rfl ?_
        refine k_getR (pc := 60) h fl_RX1_53 rfl rfl dX1_findMisuses_60 ?_
        refine k_iload_n (pc := 63) h dX1_findMisuses_63 rfl 3 rfl ?_
        obtain ⟨g10, hf⟩ := gu_s hf
        refine k_zald (pc := 64) (n := 24) h rfl g10 dX1_findMisuses_64 ?_
        obtain ⟨v11, hj, hf⟩ := ob_s hf
        have kj65 : sh_K G shCK 82 [(0, .ref 29), (1, .ref 0), (2, .ref 19), (3, .int v1), (5, .int v7), (6, .int v8), (7, .int v9)] [.int v11] s2 := by
          refine k_istore (pc := 82) h dX1_findMisuses_82 (nk hL (by decide)) (lv' := [(0, .ref 29), (1, .ref 0), (2, .ref 19), (3, .int v1), (5, .int v7), (6, .int v8), (7, .int v9), (8, .int v11)]) rfl ?_
          refine k_iload (pc := 84) h dX1_findMisuses_84 7 rfl ?_
          obtain ⟨v13, hj, hf⟩ := ob_s hf
          have kj86 : sh_K G shCK 108 [(0, .ref 29), (1, .ref 0), (2, .ref 19), (3, .int v1), (5, .int v7), (6, .int v8), (7, .int v9)] [.int v13] s2 := by
            refine k_istore (pc := 108) h dX1_findMisuses_108 (nk hL (by decide)) (lv' := [(0, .ref 29), (1, .ref 0), (2, .ref 19), (3, .int v1), (5, .int v7), (6, .int v8), (7, .int v9), (9, .int v13)]) rfl ?_
            refine k_iload_n (pc := 110) h dX1_findMisuses_110 rfl 3 rfl ?_
            refine k_iconst (pc := 111) h dX1_findMisuses_111 kc_iconst_4 ?_
            refine k_imul (pc := 112) h dX1_findMisuses_112 ?_
            obtain ⟨v15, ev15, hf⟩ := lb_s hf
            refine k_top ev15 ?_
            refine k_istore (pc := 113) h dX1_findMisuses_113 (nk hL (by decide)) (lv' := [(0, .ref 29), (1, .ref 0), (2, .ref 19), (3, .int v1), (5, .int v7), (6, .int v8), (7, .int v9), (9, .int v13), (10, .int v15)]) rfl ?_
            refine k_aload_n (pc := 115) h dX1_findMisuses_115 rfl 0 rfl ?_
            refine k_getR (pc := 116) h fl_RX1_9 rfl rfl dX1_findMisuses_116 ?_
            refine k_iload (pc := 119) h dX1_findMisuses_119 8 rfl ?_
            refine k_iconst (pc := 121) h dX1_findMisuses_121 kc_iconst_1 ?_
            refine k_iadd (pc := 122) h dX1_findMisuses_122 ?_
            refine k_iload (pc := 123) h dX1_findMisuses_123 5 rfl ?_
            refine k_ldc (pc := 125) h dX1_findMisuses_125 wd_681 ?_
            refine k_iand (pc := 127) h dX1_findMisuses_127 ?_
            obtain ⟨v16, hj, hf⟩ := ob_s hf
            have kj128 : sh_K G shCK 139 [(0, .ref 29), (1, .ref 0), (2, .ref 19), (3, .int v1), (5, .int v7), (6, .int v8), (7, .int v9), (9, .int v13), (10, .int v15)] [.int v16, .int (v15 + (1 : Int32)), .ref 30] s2 := by
              obtain ⟨g17, hf⟩ := gu_s hf
              obtain ⟨s18, es18, hf⟩ := lb_s hf
              refine k_iast (pc := 139) (n := 96) h rfl g17 dX1_findMisuses_139 ?_
              refine k_heap es18 ?_
              refine k_aload_n (pc := 140) h dX1_findMisuses_140 rfl 0 rfl ?_
              refine k_getR (pc := 141) h fl_RX1_9 rfl rfl dX1_findMisuses_141 ?_
              refine k_iload (pc := 144) h dX1_findMisuses_144 8 rfl ?_
              refine k_iconst (pc := 146) h dX1_findMisuses_146 kc_iconst_2 ?_
              refine k_iadd (pc := 147) h dX1_findMisuses_147 ?_
              refine k_iload (pc := 148) h dX1_findMisuses_148 6 rfl ?_
              obtain ⟨v19, hj, hf⟩ := ob_s hf
              have kj150 : sh_K G shCK 164 [(0, .ref 29), (1, .ref 0), (2, .ref 19), (3, .int v1), (5, .int v7), (9, .int v13), (10, .int v15)] [.int v19, .int (v15 + (2 : Int32)), .ref 30] s18 := by
                obtain ⟨g20, hf⟩ := gu_s hf
                obtain ⟨s21, es21, hf⟩ := lb_s hf
                refine k_iast (pc := 164) (n := 96) h rfl g20 dX1_findMisuses_164 ?_
                refine k_heap es21 ?_
                refine k_aload_n (pc := 165) h dX1_findMisuses_165 rfl 0 rfl ?_
                refine k_getR (pc := 166) h fl_RX1_9 rfl rfl dX1_findMisuses_166 ?_
                refine k_iload (pc := 169) h dX1_findMisuses_169 6 rfl ?_
                refine k_iconst (pc := 171) h dX1_findMisuses_171 kc_iconst_3 ?_
                refine k_iadd (pc := 172) h dX1_findMisuses_172 ?_
                refine k_iload (pc := 173) h dX1_findMisuses_173 5 rfl ?_
                obtain ⟨v22, hj, hf⟩ := ob_s hf
                have kj175 : sh_K G shCK 186 [(0, .ref 29), (1, .ref 0), (2, .ref 19), (3, .int v1)] [.int v22, .int (v15 + (3 : Int32)), .ref 30] s21 := by
                  obtain ⟨g23, hf⟩ := gu_s hf
                  obtain ⟨s24, es24, hf⟩ := lb_s hf
                  refine k_iast (pc := 186) (n := 96) h rfl g23 dX1_findMisuses_186 ?_
                  refine k_heap es24 ?_
                  obtain ⟨v25, ev25, hf⟩ := lb_s hf
                  refine k_iinc (pc := 187) h dX1_findMisuses_187 3 rfl ((congrArg (_ + ·) kc_iconst_1).trans ev25.symm) (nk hL (by decide)) (lv' := [(0, .ref 29), (1, .ref 0), (2, .ref 19), (3, .int v25)]) rfl ?_
                  refine k_goto (pc := 190) (tgt := 2) h dX1_findMisuses_190 rfl ?_
                  obtain rfl := so1 hf
                  exact k_drop [0, 1, 2, 3] rfl kc2
                clear hf
                have hf := hj
                clear hj
                refine k_if_eq (pc := 175) (tgt := 185) h dX1_findMisuses_175 rfl (fun hc => ?_) (fun hc => ?_)
                · have hf := it_p hc hf
                  refine k_iconst (pc := 185) h dX1_findMisuses_185 kc_iconst_0 ?_
                  obtain rfl := so1 hf
                  exact k_drop [0, 1, 2, 3] rfl kj175
                · have hf := it_n hc hf
                  refine k_iconst (pc := 178) h dX1_findMisuses_178 kc_iconst_1 ?_
                  refine k_iload (pc := 179) h dX1_findMisuses_179 4 rfl ?_
                  refine k_ishl (pc := 181) h dX1_findMisuses_181 ?_
                  refine k_goto (pc := 182) (tgt := 186) h dX1_findMisuses_182 rfl ?_
                  obtain rfl := so1 hf
                  exact k_drop [0, 1, 2, 3] rfl kj175
              clear hf
              have hf := hj
              clear hj
              refine k_if_eq (pc := 150) (tgt := 163) h dX1_findMisuses_150 rfl (fun hc => ?_) (fun hc => ?_)
              · have hf := it_p hc hf
                refine k_iconst (pc := 163) h dX1_findMisuses_163 kc_iconst_0 ?_
                obtain rfl := so1 hf
                exact k_drop [0, 1, 2, 3, 4, 7, 8] rfl kj150
              · have hf := it_n hc hf
                refine k_iload (pc := 153) h dX1_findMisuses_153 5 rfl ?_
                refine k_aload_n (pc := 155) h dX1_findMisuses_155 rfl 2 rfl ?_
                refine k_getI (pc := 156) h fl_RX1_78 rfl rfl dX1_findMisuses_156 ?_
                refine k_iand (pc := 159) h dX1_findMisuses_159 ?_
                refine k_goto (pc := 160) (tgt := 164) h dX1_findMisuses_160 rfl ?_
                obtain rfl := so1 hf
                exact k_drop [0, 1, 2, 3, 4, 7, 8] rfl kj150
            clear hf
            have hf := hj
            clear hj
            refine k_if_eq (pc := 128) (tgt := 138) h dX1_findMisuses_128 rfl (fun hc => ?_) (fun hc => ?_)
            · have hf := it_p hc hf
              refine k_iconst (pc := 138) h dX1_findMisuses_138 kc_iconst_0 ?_
              obtain rfl := so1 hf
              exact k_drop [0, 1, 2, 3, 4, 5, 6, 7, 8] rfl kj128
            · have hf := it_n hc hf
              refine k_iconst (pc := 131) h dX1_findMisuses_131 kc_iconst_1 ?_
              refine k_iload (pc := 132) h dX1_findMisuses_132 4 rfl ?_
              refine k_ishl (pc := 134) h dX1_findMisuses_134 ?_
              refine k_goto (pc := 135) (tgt := 139) h dX1_findMisuses_135 rfl ?_
              obtain rfl := so1 hf
              exact k_drop [0, 1, 2, 3, 4, 5, 6, 7, 8] rfl kj128
          clear hf
          have hf := hj
          clear hj
          refine k_if_eq (pc := 86) (tgt := 107) h dX1_findMisuses_86 rfl (fun hc => ?_) (fun hc => ?_)
          · have hf := it_p hc hf
            refine k_iconst (pc := 107) h dX1_findMisuses_107 kc_iconst_0 ?_
            obtain rfl := so1 hf
            exact k_drop [0, 1, 2, 3, 4, 5, 6] rfl kj86
          · have hf := it_n hc hf
            refine k_aload_n (pc := 89) h dX1_findMisuses_89 rfl 2 rfl ?_
            refine k_getR (pc := 90) h fl_RX1_73 rfl rfl dX1_findMisuses_90 ?_
            refine k_iload_n (pc := 93) h dX1_findMisuses_93 rfl 3 rfl ?_
            refine k_bipush (pc := 94) h dX1_findMisuses_94 kc_bipush_8 ?_
            refine k_imul (pc := 96) h dX1_findMisuses_96 ?_
            refine k_iload (pc := 97) h dX1_findMisuses_97 4 rfl ?_
            refine k_iadd (pc := 99) h dX1_findMisuses_99 ?_
            obtain ⟨g14, hf⟩ := gu_s hf
            refine k_iald (pc := 100) (n := 192) h rfl g14 dX1_findMisuses_100 ?_
            refine k_ldc (pc := 101) h dX1_findMisuses_101 wd_680 ?_
            refine k_iand (pc := 103) h dX1_findMisuses_103 ?_
            refine k_goto (pc := 104) (tgt := 108) h dX1_findMisuses_104 rfl ?_
            obtain rfl := so1 hf
            exact k_drop [0, 1, 2, 3, 4, 5, 6] rfl kj86
        clear hf
        have hf := hj
        clear hj
        refine k_if_eq (pc := 65) (tgt := 81) h dX1_findMisuses_65 rfl (fun hc => ?_) (fun hc => ?_)
        · have hf := it_p hc hf
          refine k_iconst (pc := 81) h dX1_findMisuses_81 kc_iconst_0 ?_
          obtain rfl := so1 hf
          exact k_drop [0, 1, 2, 3, 4, 5, 6] rfl kj65
        · have hf := it_n hc hf
          refine k_aload_n (pc := 68) h dX1_findMisuses_68 rfl 1 rfl ?_
          refine k_getR (pc := 69) h fl_RX1_70 rfl rfl dX1_findMisuses_69 ?_
          refine k_iload_n (pc := 72) h dX1_findMisuses_72 rfl 3 rfl ?_
          obtain ⟨g12, hf⟩ := gu_s hf
          refine k_zald (pc := 73) (n := 24) h rfl g12 dX1_findMisuses_73 ?_
          refine k_if_ne (pc := 74) (tgt := 81) h dX1_findMisuses_74 rfl (fun hc => ?_) (fun hc => ?_)
          · have hf := it_n hc hf
            refine k_iconst (pc := 81) h dX1_findMisuses_81 kc_iconst_0 ?_
            obtain rfl := so1 hf
            exact k_drop [0, 1, 2, 3, 4, 5, 6] rfl kj65
          · have hf := it_p hc hf
            refine k_iconst (pc := 77) h dX1_findMisuses_77 kc_iconst_1 ?_
            refine k_goto (pc := 78) (tgt := 82) h dX1_findMisuses_78 rfl ?_
            obtain rfl := so1 hf
            exact k_drop [0, 1, 2, 3, 4, 5, 6] rfl kj65
      clear hf
      have hf := hj
      clear hj
      refine k_icmp_eq (pc := 37) (tgt := 52) h dX1_findMisuses_37 rfl (fun hc => ?_) (fun hc => ?_)
      · have hf := it_p hc hf
        refine k_iconst (pc := 52) h dX1_findMisuses_52 kc_iconst_1 ?_
        refine k_goto (pc := 53) (tgt := 57) h dX1_findMisuses_53 rfl ?_
        obtain rfl := so1 hf
        exact k_drop [0, 1, 2, 3, 5, 6] rfl kj37
      · have hf := it_n hc hf
        refine k_iload (pc := 40) h dX1_findMisuses_40 4 rfl ?_
        refine k_iconst (pc := 42) h dX1_findMisuses_42 kc_iconst_4 ?_
        refine k_icmp_eq (pc := 43) (tgt := 52) h dX1_findMisuses_43 rfl (fun hc => ?_) (fun hc => ?_)
        · have hf := it_p hc hf
          refine k_iconst (pc := 52) h dX1_findMisuses_52 kc_iconst_1 ?_
          refine k_goto (pc := 53) (tgt := 57) h dX1_findMisuses_53 rfl ?_
          obtain rfl := so1 hf
          exact k_drop [0, 1, 2, 3, 5, 6] rfl kj37
        · have hf := it_n hc hf
          refine k_iload (pc := 46) h dX1_findMisuses_46 4 rfl ?_
          refine k_iconst (pc := 48) h dX1_findMisuses_48 kc_iconst_5 ?_
          refine k_icmp_ne (pc := 49) (tgt := 56) h dX1_findMisuses_49 rfl (fun hc => ?_) (fun hc => ?_)
          · have hf := it_n hc hf
            refine k_iconst (pc := 56) h dX1_findMisuses_56 kc_iconst_0 ?_
            obtain rfl := so1 hf
            exact k_drop [0, 1, 2, 3, 5, 6] rfl kj37
          · have hf := it_p hc hf
            refine k_iconst (pc := 52) h dX1_findMisuses_52 kc_iconst_1 ?_
            refine k_goto (pc := 53) (tgt := 57) h dX1_findMisuses_53 rfl ?_
            obtain rfl := so1 hf
            exact k_drop [0, 1, 2, 3, 5, 6] rfl kj37
  · obtain rfl := so1 hf
    exact hret 193 _ dX1_findMisuses_193 trivial
theorem dX1_addUp_0 : decode cX1_addUp 0 = .ok (.aload_n 0, 1) := by decide +kernel
theorem dX1_addUp_1 : decode cX1_addUp 1 = .ok (.iload_n 1, 1) := by decide +kernel
theorem dX1_addUp_2 : decode cX1_addUp 2 = .ok (.putfield 15, 3) := by decide +kernel
theorem dX1_addUp_5 : decode cX1_addUp 5 = .ok (.aload_n 0, 1) := by decide +kernel
theorem dX1_addUp_6 : decode cX1_addUp 6 = .ok (.iconst 0, 1) := by decide +kernel
theorem dX1_addUp_7 : decode cX1_addUp 7 = .ok (.putfield 19, 3) := by decide +kernel
theorem dX1_addUp_10 : decode cX1_addUp 10 = .ok (.iconst 0, 1) := by decide +kernel
theorem dX1_addUp_11 : decode cX1_addUp 11 = .ok (.istore_n 2, 1) := by decide +kernel
theorem dX1_addUp_12 : decode cX1_addUp 12 = .ok (.iload_n 2, 1) := by decide +kernel
theorem dX1_addUp_13 : decode cX1_addUp 13 = .ok (.aload_n 0, 1) := by decide +kernel
theorem dX1_addUp_14 : decode cX1_addUp 14 = .ok (.getfield 15, 3) := by decide +kernel
theorem dX1_addUp_17 : decode cX1_addUp 17 = .ok (.iconst 4, 1) := by decide +kernel
theorem dX1_addUp_18 : decode cX1_addUp 18 = .ok (.imul, 1) := by decide +kernel
theorem dX1_addUp_19 : decode cX1_addUp 19 = .ok (.if_icmp .ge 27, 3) := by decide +kernel
theorem dX1_addUp_22 : decode cX1_addUp 22 = .ok (.aload_n 0, 1) := by decide +kernel
theorem dX1_addUp_23 : decode cX1_addUp 23 = .ok (.dup, 1) := by decide +kernel
theorem dX1_addUp_24 : decode cX1_addUp 24 = .ok (.getfield 19, 3) := by decide +kernel
theorem dX1_addUp_27 : decode cX1_addUp 27 = .ok (.aload_n 0, 1) := by decide +kernel
theorem dX1_addUp_28 : decode cX1_addUp 28 = .ok (.getfield 9, 3) := by decide +kernel
theorem dX1_addUp_31 : decode cX1_addUp 31 = .ok (.iload_n 2, 1) := by decide +kernel
theorem dX1_addUp_32 : decode cX1_addUp 32 = .ok (.iaload, 1) := by decide +kernel
theorem dX1_addUp_33 : decode cX1_addUp 33 = .ok (.invokestatic 81, 3) := by decide +kernel
theorem dX1_addUp_36 : decode cX1_addUp 36 = .ok (.iadd, 1) := by decide +kernel
theorem dX1_addUp_37 : decode cX1_addUp 37 = .ok (.putfield 19, 3) := by decide +kernel
theorem dX1_addUp_40 : decode cX1_addUp 40 = .ok (.iinc 2 1, 3) := by decide +kernel
theorem dX1_addUp_43 : decode cX1_addUp 43 = .ok (.goto (-31), 3) := by decide +kernel
theorem dX1_addUp_46 : decode cX1_addUp 46 = .ok (.return_, 1) := by decide +kernel
def f_X1_addUp_L12 (v3 : Int32) (s4 : sh_S) : Option ((Int32 × sh_S) ⊕ (sh_S)) := (if ((s4 29 1) * (4 : Int32)) ≤ v3 then some (.inr s4) else gu (inb v3 96) (ob (f_J6_bitCount_0f7a4 (s4 30 (ix v3))) (fun v7 => lb (ur s4 29 (upd (s4 29) 2 ((s4 29 2) + v7))) (fun s8 => lb (v3 + (1 : Int32)) (fun v9 => some (.inl (v9, s8)))))))
def f_X1_addUp (p1 : Int32) (s0 : sh_S) : Option (sh_S) := lb (ur s0 29 (upd (s0 29) 1 p1)) (fun s1 => lb (ur s1 29 (upd (s1 29) 2 (0 : Int32))) (fun s2 => ob (lp (fun q => f_X1_addUp_L12 q.1 q.2) FU ((0 : Int32), s2)) (fun s5 => some s5)))
set_option maxRecDepth 100000 in
set_option maxHeartbeats 4000000 in
theorem c_X1_addUp (p1 : Int32) (s0 : sh_S) (s9x : sh_S) (hf : f_X1_addUp p1 s0 = some s9x) : Ctr yX1_addUp cX1_addUp 3 none ({ frames := 1, cells := 0, slots := 0, locals := 20 } : Room) shCK [.ref 29, .int p1] s0 none s9x := by
  refine Ctr.mk (ri := .return_) (by decide) (Nat.le_of_ble_eq_true rfl) (Rt_v) ?_
  intro G h hL hR hret
  refine k_drop (lv' := [(0, .ref 29), (1, .int p1)]) [0, 1] rfl ?_
  unfold f_X1_addUp at hf
  refine k_aload_n (pc := 0) h dX1_addUp_0 rfl 0 rfl ?_
  refine k_iload_n (pc := 1) h dX1_addUp_1 rfl 1 rfl ?_
  obtain ⟨s1, es1, hf⟩ := lb_s hf
  refine k_put (pc := 2) h fl_RX1_15 fp_X1_1 rfl rfl rfl rfl dX1_addUp_2 ?_
  refine k_heap es1 ?_
  refine k_aload_n (pc := 5) h dX1_addUp_5 rfl 0 rfl ?_
  refine k_iconst (pc := 6) h dX1_addUp_6 kc_iconst_0 ?_
  obtain ⟨s2, es2, hf⟩ := lb_s hf
  refine k_put (pc := 7) h fl_RX1_19 fp_X1_2 rfl rfl rfl rfl dX1_addUp_7 ?_
  refine k_heap es2 ?_
  refine k_iconst (pc := 10) h dX1_addUp_10 kc_iconst_0 ?_
  refine k_istore_n (pc := 11) h dX1_addUp_11 rfl (nk hL (by decide)) (lv' := [(0, .ref 29), (1, .int p1), (2, .int (0 : Int32))]) rfl ?_
  obtain ⟨s5, hl, hf⟩ := ob_s hf
  refine k_drop (lv' := [(0, .ref 29), (2, .int (0 : Int32))]) [0, 2] rfl ?_
  refine lp_s (P := (fun q : Int32 × sh_S => sh_K G shCK 12 [(0, .ref 29), (2, .int q.1)] [] q.2)) (Q := (fun q : sh_S => sh_K G shCK 46 [] [] q)) (s := ((0 : Int32), s2)) ?_ hl ?_
  · clear hf hl
    intro q rr hf kc12
    obtain ⟨v3, s4⟩ := q
    have hf : f_X1_addUp_L12 v3 s4 = some rr := hf
    unfold f_X1_addUp_L12 at hf
    refine k_iload_n (pc := 12) h dX1_addUp_12 rfl 1 rfl ?_
    refine k_aload_n (pc := 13) h dX1_addUp_13 rfl 0 rfl ?_
    refine k_getI (pc := 14) h fl_RX1_15 rfl rfl dX1_addUp_14 ?_
    refine k_iconst (pc := 17) h dX1_addUp_17 kc_iconst_4 ?_
    refine k_imul (pc := 18) h dX1_addUp_18 ?_
    refine k_icmp_ge (pc := 19) (tgt := 46) h dX1_addUp_19 rfl (fun hc => ?_) (fun hc => ?_)
    · have hf := it_p hc hf
      obtain rfl := so1 hf
      exact k_drop [] rfl kc12
    · have hf := it_n hc hf
      refine k_aload_n (pc := 22) h dX1_addUp_22 rfl 0 rfl ?_
      refine k_dup (pc := 23) h dX1_addUp_23 rfl ?_
      refine k_getI (pc := 24) h fl_RX1_19 rfl rfl dX1_addUp_24 ?_
      refine k_aload_n (pc := 27) h dX1_addUp_27 rfl 0 rfl ?_
      refine k_getR (pc := 28) h fl_RX1_9 rfl rfl dX1_addUp_28 ?_
      refine k_iload_n (pc := 31) h dX1_addUp_31 rfl 1 rfl ?_
      obtain ⟨g6, hf⟩ := gu_s hf
      refine k_iald (pc := 32) (n := 96) h rfl g6 dX1_addUp_32 ?_
      obtain ⟨v7, cv7, hf⟩ := ob_s hf
      refine k_callSp (pc := 33) h cs_RX1_81 (c_J6_bitCount_0f7a4 (s4 30 (ix v3)) _ v7 cv7) rfl rfl (st1 := [.int v7, .int (s4 29 2), .ref 29]) rfl ⟨rfl, rfl⟩ (rk hR (Nat.le_of_ble_eq_true rfl) (Nat.le_of_ble_eq_true rfl)) (Nat.le_of_ble_eq_true rfl) dX1_addUp_33 ?_
      refine k_iadd (pc := 36) h dX1_addUp_36 ?_
      obtain ⟨s8, es8, hf⟩ := lb_s hf
      refine k_put (pc := 37) h fl_RX1_19 fp_X1_2 rfl rfl rfl rfl dX1_addUp_37 ?_
      refine k_heap es8 ?_
      obtain ⟨v9, ev9, hf⟩ := lb_s hf
      refine k_iinc (pc := 40) h dX1_addUp_40 1 rfl ((congrArg (_ + ·) kc_iconst_1).trans ev9.symm) (nk hL (by decide)) (lv' := [(0, .ref 29), (2, .int v9)]) rfl ?_
      refine k_goto (pc := 43) (tgt := 12) h dX1_addUp_43 rfl ?_
      obtain rfl := so1 hf
      exact k_drop [0, 1] rfl kc12
  · obtain rfl := so1 hf
    exact hret 46 _ dX1_addUp_46 trivial
