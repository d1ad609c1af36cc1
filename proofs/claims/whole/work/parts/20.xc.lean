theorem dX9_mend_0 : decode cX9_mend 0 = .ok (.iload_n 1, 1) := by decide +kernel
theorem dX9_mend_1 : decode cX9_mend 1 = .ok (.iconst 0, 1) := by decide +kernel
theorem dX9_mend_2 : decode cX9_mend 2 = .ok (.iconst 1, 1) := by decide +kernel
theorem dX9_mend_3 : decode cX9_mend 3 = .ok (.invokestatic 109, 3) := by decide +kernel
theorem dX9_mend_6 : decode cX9_mend 6 = .ok (.ifCond .ne 6, 3) := by decide +kernel
theorem dX9_mend_9 : decode cX9_mend 9 = .ok (.bipush (-2), 2) := by decide +kernel
theorem dX9_mend_11 : decode cX9_mend 11 = .ok (.ireturn, 1) := by decide +kernel
theorem dX9_mend_12 : decode cX9_mend 12 = .ok (.aload_n 0, 1) := by decide +kernel
theorem dX9_mend_13 : decode cX9_mend 13 = .ok (.getfield 12, 3) := by decide +kernel
theorem dX9_mend_16 : decode cX9_mend 16 = .ok (.getfield 63, 3) := by decide +kernel
theorem dX9_mend_19 : decode cX9_mend 19 = .ok (.ifCond .ne 5, 3) := by decide +kernel
theorem dX9_mend_22 : decode cX9_mend 22 = .ok (.iconst (-1), 1) := by decide +kernel
theorem dX9_mend_23 : decode cX9_mend 23 = .ok (.ireturn, 1) := by decide +kernel
theorem dX9_mend_24 : decode cX9_mend 24 = .ok (.aload_n 0, 1) := by decide +kernel
theorem dX9_mend_25 : decode cX9_mend 25 = .ok (.getfield 30, 3) := by decide +kernel
theorem dX9_mend_28 : decode cX9_mend 28 = .ok (.invokevirtual 197, 3) := by decide +kernel
theorem dX9_mend_31 : decode cX9_mend 31 = .ok (.iload_n 1, 1) := by decide +kernel
theorem dX9_mend_32 : decode cX9_mend 32 = .ok (.ifCond .ne 13, 3) := by decide +kernel
theorem dX9_mend_35 : decode cX9_mend 35 = .ok (.aload_n 0, 1) := by decide +kernel
theorem dX9_mend_36 : decode cX9_mend 36 = .ok (.getfield 30, 3) := by decide +kernel
theorem dX9_mend_39 : decode cX9_mend 39 = .ok (.getfield 200, 3) := by decide +kernel
theorem dX9_mend_42 : decode cX9_mend 42 = .ok (.goto 10, 3) := by decide +kernel
theorem dX9_mend_45 : decode cX9_mend 45 = .ok (.aload_n 0, 1) := by decide +kernel
theorem dX9_mend_46 : decode cX9_mend 46 = .ok (.getfield 30, 3) := by decide +kernel
theorem dX9_mend_49 : decode cX9_mend 49 = .ok (.getfield 203, 3) := by decide +kernel
theorem dX9_mend_52 : decode cX9_mend 52 = .ok (.ireturn, 1) := by decide +kernel
def f_X9_mend (p1 : Int32) (s0 : sh_S) : Option (Int32 × sh_S) := ob (f_X9_isBetween p1 (0 : Int32) (1 : Int32)) (fun v1 => (if v1 = 0 then some ((-2 : Int32), s0) else (if (s0 0 9) = 0 then some ((-1 : Int32), s0) else ob (f_X5_findMend  s0) (fun s2 => ob (if p1 = 0 then some (s2 52 5) else some (s2 52 6)) (fun v3 => some (v3, s2))))))
set_option maxRecDepth 100000 in
set_option maxHeartbeats 4000000 in
theorem c_X9_mend (p1 : Int32) (s0 : sh_S) (r : Int32) (s9x : sh_S) (hf : f_X9_mend p1 s0 = some (r, s9x)) : Ctr yX9_mend cX9_mend 2 (some .int) ({ frames := 6, cells := 0, slots := 0, locals := 174 } : Room) shX [.ref 73, .int p1] s0 (some (.int r)) s9x := by
  refine Ctr.mk (ri := .ireturn) (by decide) (Nat.le_of_ble_eq_true rfl) (Rt_i r) ?_
  intro G h hL hR hret
  refine k_drop (lv' := [(0, .ref 73), (1, .int p1)]) [0, 1] rfl ?_
  unfold f_X9_mend at hf
  refine k_iload_n (pc := 0) h dX9_mend_0 rfl 1 rfl ?_
  refine k_iconst (pc := 1) h dX9_mend_1 kc_iconst_0 ?_
  refine k_iconst (pc := 2) h dX9_mend_2 kc_iconst_1 ?_
  obtain ⟨v1, cv1, hf⟩ := ob_s hf
  refine k_callSp (pc := 3) h cs_RX9_109 (c_X9_isBetween p1 (0 : Int32) (1 : Int32) _ v1 cv1) rfl rfl (st1 := [.int v1]) rfl ⟨rfl, rfl⟩ (rk hR (Nat.le_of_ble_eq_true rfl) (Nat.le_of_ble_eq_true rfl)) (Nat.le_of_ble_eq_true rfl) dX9_mend_3 ?_
  refine k_if_ne (pc := 6) (tgt := 12) h dX9_mend_6 rfl (fun hc => ?_) (fun hc => ?_)
  · have hf := it_n hc hf
    refine k_aload_n (pc := 12) h dX9_mend_12 rfl 0 rfl ?_
    refine k_getR (pc := 13) h fl_RX9_12 rfl rfl dX9_mend_13 ?_
    refine k_getI (pc := 16) h fl_RX9_63 rfl rfl dX9_mend_16 ?_
    refine k_if_ne (pc := 19) (tgt := 24) h dX9_mend_19 rfl (fun hc => ?_) (fun hc => ?_)
    · have hf := it_n hc hf
      refine k_aload_n (pc := 24) h dX9_mend_24 rfl 0 rfl ?_
      refine k_getR (pc := 25) h fl_RX9_30 rfl rfl dX9_mend_25 ?_
      obtain ⟨s2, cs2, hf⟩ := ob_s hf
      refine k_callV0 (pc := 28) h cv_RX9_197 (c_X5_findMend  s0 s2 cs2) rfl rfl rfl (st1 := []) rfl ⟨rfl, rfl⟩ (rk hR (Nat.le_of_ble_eq_true rfl) (Nat.le_of_ble_eq_true rfl)) (Nat.le_of_ble_eq_true rfl) dX9_mend_28 ?_
      refine k_iload_n (pc := 31) h dX9_mend_31 rfl 1 rfl ?_
      obtain ⟨v3, hj, hf⟩ := ob_s hf
      have kj32 : sh_K G shX 52 [] [.int v3] s2 := by
        obtain ⟨rfl, rfl⟩ := so2 hf
        exact hret 52 _ dX9_mend_52 trivial
      clear hf
      have hf := hj
      clear hj
      refine k_if_ne (pc := 32) (tgt := 45) h dX9_mend_32 rfl (fun hc => ?_) (fun hc => ?_)
      · have hf := it_n hc hf
        refine k_aload_n (pc := 45) h dX9_mend_45 rfl 0 rfl ?_
        refine k_getR (pc := 46) h fl_RX9_30 rfl rfl dX9_mend_46 ?_
        refine k_getI (pc := 49) h fl_RX9_203 rfl rfl dX9_mend_49 ?_
        obtain rfl := so1 hf
        exact k_drop [] rfl kj32
      · have hf := it_p hc hf
        refine k_aload_n (pc := 35) h dX9_mend_35 rfl 0 rfl ?_
        refine k_getR (pc := 36) h fl_RX9_30 rfl rfl dX9_mend_36 ?_
        refine k_getI (pc := 39) h fl_RX9_200 rfl rfl dX9_mend_39 ?_
        refine k_goto (pc := 42) (tgt := 52) h dX9_mend_42 rfl ?_
        obtain rfl := so1 hf
        exact k_drop [] rfl kj32
    · have hf := it_p hc hf
      refine k_iconst (pc := 22) h dX9_mend_22 kc_iconst_m1 ?_
      obtain ⟨rfl, rfl⟩ := so2 hf
      exact hret 23 _ dX9_mend_23 trivial
  · have hf := it_p hc hf
    refine k_bipush (pc := 9) h dX9_mend_9 kc_bipush_m2 ?_
    obtain ⟨rfl, rfl⟩ := so2 hf
    exact hret 11 _ dX9_mend_11 trivial
theorem dX9_soft_0 : decode cX9_soft 0 = .ok (.aload_n 0, 1) := by decide +kernel
theorem dX9_soft_1 : decode cX9_soft 1 = .ok (.getfield 30, 3) := by decide +kernel
theorem dX9_soft_4 : decode cX9_soft 4 = .ok (.invokevirtual 206, 3) := by decide +kernel
theorem dX9_soft_7 : decode cX9_soft 7 = .ok (.aload_n 0, 1) := by decide +kernel
theorem dX9_soft_8 : decode cX9_soft 8 = .ok (.getfield 30, 3) := by decide +kernel
theorem dX9_soft_11 : decode cX9_soft 11 = .ok (.getfield 209, 3) := by decide +kernel
theorem dX9_soft_14 : decode cX9_soft 14 = .ok (.ireturn, 1) := by decide +kernel
def f_X9_soft  (s0 : sh_S) : Option (Int32 × sh_S) := ob (f_X5_findSoft  s0) (fun s1 => some ((s1 52 7), s1))
set_option maxRecDepth 100000 in
set_option maxHeartbeats 4000000 in
theorem c_X9_soft  (s0 : sh_S) (r : Int32) (s9x : sh_S) (hf : f_X9_soft  s0 = some (r, s9x)) : Ctr yX9_soft cX9_soft 1 (some .int) ({ frames := 6, cells := 0, slots := 0, locals := 174 } : Room) shX [.ref 73] s0 (some (.int r)) s9x := by
  refine Ctr.mk (ri := .ireturn) (by decide) (Nat.le_of_ble_eq_true rfl) (Rt_i r) ?_
  intro G h hL hR hret
  refine k_drop (lv' := [(0, .ref 73)]) [0] rfl ?_
  unfold f_X9_soft at hf
  refine k_aload_n (pc := 0) h dX9_soft_0 rfl 0 rfl ?_
  refine k_getR (pc := 1) h fl_RX9_30 rfl rfl dX9_soft_1 ?_
  obtain ⟨s1, cs1, hf⟩ := ob_s hf
  refine k_callV0 (pc := 4) h cv_RX9_206 (c_X5_findSoft  s0 s1 cs1) rfl rfl rfl (st1 := []) rfl ⟨rfl, rfl⟩ (rk hR (Nat.le_of_ble_eq_true rfl) (Nat.le_of_ble_eq_true rfl)) (Nat.le_of_ble_eq_true rfl) dX9_soft_4 ?_
  refine k_aload_n (pc := 7) h dX9_soft_7 rfl 0 rfl ?_
  refine k_getR (pc := 8) h fl_RX9_30 rfl rfl dX9_soft_8 ?_
  refine k_getI (pc := 11) h fl_RX9_209 rfl rfl dX9_soft_11 ?_
  obtain ⟨rfl, rfl⟩ := so2 hf
  exact hret 14 _ dX9_soft_14 trivial
theorem dX9_run_0 : decode cX9_run 0 = .ok (.iload_n 2, 1) := by decide +kernel
theorem dX9_run_1 : decode cX9_run 1 = .ok (.iconst 0, 1) := by decide +kernel
theorem dX9_run_2 : decode cX9_run 2 = .ok (.sipush 300, 3) := by decide +kernel
theorem dX9_run_5 : decode cX9_run 5 = .ok (.invokestatic 109, 3) := by decide +kernel
theorem dX9_run_8 : decode cX9_run 8 = .ok (.ifCond .eq 12, 3) := by decide +kernel
theorem dX9_run_11 : decode cX9_run 11 = .ok (.iload_n 3, 1) := by decide +kernel
theorem dX9_run_12 : decode cX9_run 12 = .ok (.iconst 0, 1) := by decide +kernel
theorem dX9_run_13 : decode cX9_run 13 = .ok (.iconst 2, 1) := by decide +kernel
theorem dX9_run_14 : decode cX9_run 14 = .ok (.invokestatic 109, 3) := by decide +kernel
theorem dX9_run_17 : decode cX9_run 17 = .ok (.ifCond .ne 6, 3) := by decide +kernel
theorem dX9_run_20 : decode cX9_run 20 = .ok (.bipush (-2), 2) := by decide +kernel
theorem dX9_run_22 : decode cX9_run 22 = .ok (.ireturn, 1) := by decide +kernel
theorem dX9_run_23 : decode cX9_run 23 = .ok (.aload_n 0, 1) := by decide +kernel
theorem dX9_run_24 : decode cX9_run 24 = .ok (.getfield 44, 3) := by decide +kernel
theorem dX9_run_27 : decode cX9_run 27 = .ok (.iload_n 1, 1) := by decide +kernel
theorem dX9_run_28 : decode cX9_run 28 = .ok (.iload_n 2, 1) := by decide +kernel
theorem dX9_run_29 : decode cX9_run 29 = .ok (.invokevirtual 212, 3) := by decide +kernel
theorem dX9_run_32 : decode cX9_run 32 = .ok (.iload_n 3, 1) := by decide +kernel
theorem dX9_run_33 : decode cX9_run 33 = .ok (.ifCond .ne 11, 3) := by decide +kernel
theorem dX9_run_36 : decode cX9_run 36 = .ok (.aload_n 0, 1) := by decide +kernel
theorem dX9_run_37 : decode cX9_run 37 = .ok (.getfield 44, 3) := by decide +kernel
theorem dX9_run_40 : decode cX9_run 40 = .ok (.getfield 216, 3) := by decide +kernel
theorem dX9_run_43 : decode cX9_run 43 = .ok (.ireturn, 1) := by decide +kernel
theorem dX9_run_44 : decode cX9_run 44 = .ok (.iload_n 3, 1) := by decide +kernel
theorem dX9_run_45 : decode cX9_run 45 = .ok (.iconst 1, 1) := by decide +kernel
theorem dX9_run_46 : decode cX9_run 46 = .ok (.if_icmp .ne 13, 3) := by decide +kernel
theorem dX9_run_49 : decode cX9_run 49 = .ok (.aload_n 0, 1) := by decide +kernel
theorem dX9_run_50 : decode cX9_run 50 = .ok (.getfield 44, 3) := by decide +kernel
theorem dX9_run_53 : decode cX9_run 53 = .ok (.getfield 219, 3) := by decide +kernel
theorem dX9_run_56 : decode cX9_run 56 = .ok (.goto 10, 3) := by decide +kernel
theorem dX9_run_59 : decode cX9_run 59 = .ok (.aload_n 0, 1) := by decide +kernel
theorem dX9_run_60 : decode cX9_run 60 = .ok (.getfield 44, 3) := by decide +kernel
theorem dX9_run_63 : decode cX9_run 63 = .ok (.getfield 222, 3) := by decide +kernel
theorem dX9_run_66 : decode cX9_run 66 = .ok (.ireturn, 1) := by decide +kernel
def f_X9_run (p1 : Int32) (p2 : Int32) (p3 : Int32) (s0 : sh_S) : Option (Int32 × sh_S) := ob (f_X9_isBetween p2 (0 : Int32) (300 : Int32)) (fun v1 => (if v1 = 0 then some ((-2 : Int32), s0) else ob (f_X9_isBetween p3 (0 : Int32) (2 : Int32)) (fun v2 => (if v2 = 0 then some ((-2 : Int32), s0) else ob (f_X8_go p1 p2 s0) (fun s3 => (if p3 = 0 then some ((s3 56 13), s3) else ob (if p3 = (1 : Int32) then some (s3 56 14) else some (s3 56 15)) (fun v4 => some (v4, s3))))))))
set_option maxRecDepth 100000 in
set_option maxHeartbeats 4000000 in
theorem c_X9_run (p1 : Int32) (p2 : Int32) (p3 : Int32) (s0 : sh_S) (r : Int32) (s9x : sh_S) (hf : f_X9_run p1 p2 p3 s0 = some (r, s9x)) : Ctr yX9_run cX9_run 4 (some .int) ({ frames := 4, cells := 0, slots := 0, locals := 99 } : Room) shX [.ref 73, .int p1, .int p2, .int p3] s0 (some (.int r)) s9x := by
  refine Ctr.mk (ri := .ireturn) (by decide) (Nat.le_of_ble_eq_true rfl) (Rt_i r) ?_
  intro G h hL hR hret
  refine k_drop (lv' := [(0, .ref 73), (1, .int p1), (2, .int p2), (3, .int p3)]) [0, 1, 2, 3] rfl ?_
  unfold f_X9_run at hf
  refine k_iload_n (pc := 0) h dX9_run_0 rfl 2 rfl ?_
  refine k_iconst (pc := 1) h dX9_run_1 kc_iconst_0 ?_
  refine k_sipush (pc := 2) h dX9_run_2 kc_sipush_300 ?_
  obtain ⟨v1, cv1, hf⟩ := ob_s hf
  refine k_callSp (pc := 5) h cs_RX9_109 (c_X9_isBetween p2 (0 : Int32) (300 : Int32) _ v1 cv1) rfl rfl (st1 := [.int v1]) rfl ⟨rfl, rfl⟩ (rk hR (Nat.le_of_ble_eq_true rfl) (Nat.le_of_ble_eq_true rfl)) (Nat.le_of_ble_eq_true rfl) dX9_run_5 ?_
  refine k_if_eq (pc := 8) (tgt := 20) h dX9_run_8 rfl (fun hc => ?_) (fun hc => ?_)
  · have hf := it_p hc hf
    refine k_bipush (pc := 20) h dX9_run_20 kc_bipush_m2 ?_
    obtain ⟨rfl, rfl⟩ := so2 hf
    exact hret 22 _ dX9_run_22 trivial
  · have hf := it_n hc hf
    refine k_iload_n (pc := 11) h dX9_run_11 rfl 3 rfl ?_
    refine k_iconst (pc := 12) h dX9_run_12 kc_iconst_0 ?_
    refine k_iconst (pc := 13) h dX9_run_13 kc_iconst_2 ?_
    obtain ⟨v2, cv2, hf⟩ := ob_s hf
    refine k_callSp (pc := 14) h cs_RX9_109 (c_X9_isBetween p3 (0 : Int32) (2 : Int32) _ v2 cv2) rfl rfl (st1 := [.int v2]) rfl ⟨rfl, rfl⟩ (rk hR (Nat.le_of_ble_eq_true rfl) (Nat.le_of_ble_eq_true rfl)) (Nat.le_of_ble_eq_true rfl) dX9_run_14 ?_
    refine k_if_ne (pc := 17) (tgt := 23) h dX9_run_17 rfl (fun hc => ?_) (fun hc => ?_)
    · have hf := it_n hc hf
      refine k_aload_n (pc := 23) h dX9_run_23 rfl 0 rfl ?_
      refine k_getR (pc := 24) h fl_RX9_44 rfl rfl dX9_run_24 ?_
      refine k_iload_n (pc := 27) h dX9_run_27 rfl 1 rfl ?_
      refine k_iload_n (pc := 28) h dX9_run_28 rfl 2 rfl ?_
      obtain ⟨s3, cs3, hf⟩ := ob_s hf
      refine k_callV0 (pc := 29) h cv_RX9_212 (c_X8_go p1 p2 s0 s3 cs3) rfl rfl rfl (st1 := []) rfl ⟨rfl, rfl⟩ (rk hR (Nat.le_of_ble_eq_true rfl) (Nat.le_of_ble_eq_true rfl)) (Nat.le_of_ble_eq_true rfl) dX9_run_29 ?_
      refine k_iload_n (pc := 32) h dX9_run_32 rfl 3 rfl ?_
      refine k_if_ne (pc := 33) (tgt := 44) h dX9_run_33 rfl (fun hc => ?_) (fun hc => ?_)
      · have hf := it_n hc hf
        refine k_iload_n (pc := 44) h dX9_run_44 rfl 3 rfl ?_
        refine k_iconst (pc := 45) h dX9_run_45 kc_iconst_1 ?_
        obtain ⟨v4, hj, hf⟩ := ob_s hf
        have kj46 : sh_K G shX 66 [] [.int v4] s3 := by
          obtain ⟨rfl, rfl⟩ := so2 hf
          exact hret 66 _ dX9_run_66 trivial
        clear hf
        have hf := hj
        clear hj
        refine k_icmp_ne (pc := 46) (tgt := 59) h dX9_run_46 rfl (fun hc => ?_) (fun hc => ?_)
        · have hf := it_n hc hf
          refine k_aload_n (pc := 59) h dX9_run_59 rfl 0 rfl ?_
          refine k_getR (pc := 60) h fl_RX9_44 rfl rfl dX9_run_60 ?_
          refine k_getI (pc := 63) h fl_RX9_222 rfl rfl dX9_run_63 ?_
          obtain rfl := so1 hf
          exact k_drop [] rfl kj46
        · have hf := it_p hc hf
          refine k_aload_n (pc := 49) h dX9_run_49 rfl 0 rfl ?_
          refine k_getR (pc := 50) h fl_RX9_44 rfl rfl dX9_run_50 ?_
          refine k_getI (pc := 53) h fl_RX9_219 rfl rfl dX9_run_53 ?_
          refine k_goto (pc := 56) (tgt := 66) h dX9_run_56 rfl ?_
          obtain rfl := so1 hf
          exact k_drop [] rfl kj46
      · have hf := it_p hc hf
        refine k_aload_n (pc := 36) h dX9_run_36 rfl 0 rfl ?_
        refine k_getR (pc := 37) h fl_RX9_44 rfl rfl dX9_run_37 ?_
        refine k_getI (pc := 40) h fl_RX9_216 rfl rfl dX9_run_40 ?_
        obtain ⟨rfl, rfl⟩ := so2 hf
        exact hret 43 _ dX9_run_43 trivial
    · have hf := it_p hc hf
      refine k_bipush (pc := 20) h dX9_run_20 kc_bipush_m2 ?_
      obtain ⟨rfl, rfl⟩ := so2 hf
      exact hret 22 _ dX9_run_22 trivial
theorem dX9_sheet_0 : decode cX9_sheet 0 = .ok (.iload_n 1, 1) := by decide +kernel
theorem dX9_sheet_1 : decode cX9_sheet 1 = .ok (.invokestatic 94, 3) := by decide +kernel
theorem dX9_sheet_4 : decode cX9_sheet 4 = .ok (.ifCond .eq 16, 3) := by decide +kernel
theorem dX9_sheet_7 : decode cX9_sheet 7 = .ok (.iload_n 2, 1) := by decide +kernel
theorem dX9_sheet_8 : decode cX9_sheet 8 = .ok (.invokestatic 225, 3) := by decide +kernel
theorem dX9_sheet_11 : decode cX9_sheet 11 = .ok (.ifCond .eq 9, 3) := by decide +kernel
theorem dX9_sheet_14 : decode cX9_sheet 14 = .ok (.iload_n 3, 1) := by decide +kernel
theorem dX9_sheet_15 : decode cX9_sheet 15 = .ok (.bipush 60, 2) := by decide +kernel
theorem dX9_sheet_17 : decode cX9_sheet 17 = .ok (.if_icmp .le 6, 3) := by decide +kernel
theorem dX9_sheet_20 : decode cX9_sheet 20 = .ok (.bipush (-2), 2) := by decide +kernel
theorem dX9_sheet_22 : decode cX9_sheet 22 = .ok (.ireturn, 1) := by decide +kernel
theorem dX9_sheet_23 : decode cX9_sheet 23 = .ok (.iload_n 3, 1) := by decide +kernel
theorem dX9_sheet_24 : decode cX9_sheet 24 = .ok (.ifCond .ge 9, 3) := by decide +kernel
theorem dX9_sheet_27 : decode cX9_sheet 27 = .ok (.aload_n 0, 1) := by decide +kernel
theorem dX9_sheet_28 : decode cX9_sheet 28 = .ok (.iconst 5, 1) := by decide +kernel
theorem dX9_sheet_29 : decode cX9_sheet 29 = .ok (.invokevirtual 101, 3) := by decide +kernel
theorem dX9_sheet_32 : decode cX9_sheet 32 = .ok (.ireturn, 1) := by decide +kernel
theorem dX9_sheet_33 : decode cX9_sheet 33 = .ok (.aload_n 0, 1) := by decide +kernel
theorem dX9_sheet_34 : decode cX9_sheet 34 = .ok (.getfield 50, 3) := by decide +kernel
theorem dX9_sheet_37 : decode cX9_sheet 37 = .ok (.iload_n 1, 1) := by decide +kernel
theorem dX9_sheet_38 : decode cX9_sheet 38 = .ok (.aaload, 1) := by decide +kernel
theorem dX9_sheet_39 : decode cX9_sheet 39 = .ok (.iload_n 2, 1) := by decide +kernel
theorem dX9_sheet_40 : decode cX9_sheet 40 = .ok (.iload_n 3, 1) := by decide +kernel
theorem dX9_sheet_41 : decode cX9_sheet 41 = .ok (.invokevirtual 228, 3) := by decide +kernel
theorem dX9_sheet_44 : decode cX9_sheet 44 = .ok (.iload_n 3, 1) := by decide +kernel
theorem dX9_sheet_45 : decode cX9_sheet 45 = .ok (.ireturn, 1) := by decide +kernel
def f_X9_sheet (p1 : Int32) (p2 : Int32) (p3 : Int32) (s0 : sh_S) : Option (Int32 × sh_S) := ob (f_X9_isSheet p1) (fun v1 => (if v1 = 0 then some ((-2 : Int32), s0) else ob (f_X9_isForm p2) (fun v2 => (if v2 = 0 then some ((-2 : Int32), s0) else (if p3 ≤ (60 : Int32) then (if 0 ≤ p3 then gu (inb p1 4) (ob (f_X6_renew p2 p3 (rs [64 + 2 * ix p1, 64 + 2 * ix p1 + 1] s0)) (fun s4 => lb (mg [64 + 2 * ix p1, 64 + 2 * ix p1 + 1] 0 s0 s4) (fun s5 => some (p3, s5)))) else ob2 (f_X9_finding (5 : Int32) s0) (fun v6 s7 => some (v6, s7))) else some ((-2 : Int32), s0))))))
set_option maxRecDepth 100000 in
set_option maxHeartbeats 4000000 in
theorem c_X9_sheet (p1 : Int32) (p2 : Int32) (p3 : Int32) (s0 : sh_S) (r : Int32) (s9x : sh_S) (hf : f_X9_sheet p1 p2 p3 s0 = some (r, s9x)) : Ctr yX9_sheet cX9_sheet 4 (some .int) ({ frames := 2, cells := 0, slots := 0, locals := 42 } : Room) shX [.ref 73, .int p1, .int p2, .int p3] s0 (some (.int r)) s9x := by
  refine Ctr.mk (ri := .ireturn) (by decide) (Nat.le_of_ble_eq_true rfl) (Rt_i r) ?_
  intro G h hL hR hret
  refine k_drop (lv' := [(0, .ref 73), (1, .int p1), (2, .int p2), (3, .int p3)]) [0, 1, 2, 3] rfl ?_
  unfold f_X9_sheet at hf
  refine k_iload_n (pc := 0) h dX9_sheet_0 rfl 1 rfl ?_
  obtain ⟨v1, cv1, hf⟩ := ob_s hf
  refine k_callSp (pc := 1) h cs_RX9_94 (c_X9_isSheet p1 _ v1 cv1) rfl rfl (st1 := [.int v1]) rfl ⟨rfl, rfl⟩ (rk hR (Nat.le_of_ble_eq_true rfl) (Nat.le_of_ble_eq_true rfl)) (Nat.le_of_ble_eq_true rfl) dX9_sheet_1 ?_
  refine k_if_eq (pc := 4) (tgt := 20) h dX9_sheet_4 rfl (fun hc => ?_) (fun hc => ?_)
  · have hf := it_p hc hf
    refine k_bipush (pc := 20) h dX9_sheet_20 kc_bipush_m2 ?_
    obtain ⟨rfl, rfl⟩ := so2 hf
    exact hret 22 _ dX9_sheet_22 trivial
  · have hf := it_n hc hf
    refine k_iload_n (pc := 7) h dX9_sheet_7 rfl 2 rfl ?_
    obtain ⟨v2, cv2, hf⟩ := ob_s hf
    refine k_callSp (pc := 8) h cs_RX9_225 (c_X9_isForm p2 _ v2 cv2) rfl rfl (st1 := [.int v2]) rfl ⟨rfl, rfl⟩ (rk hR (Nat.le_of_ble_eq_true rfl) (Nat.le_of_ble_eq_true rfl)) (Nat.le_of_ble_eq_true rfl) dX9_sheet_8 ?_
    refine k_if_eq (pc := 11) (tgt := 20) h dX9_sheet_11 rfl (fun hc => ?_) (fun hc => ?_)
    · have hf := it_p hc hf
      refine k_bipush (pc := 20) h dX9_sheet_20 kc_bipush_m2 ?_
      obtain ⟨rfl, rfl⟩ := so2 hf
      exact hret 22 _ dX9_sheet_22 trivial
    · have hf := it_n hc hf
      refine k_iload_n (pc := 14) h dX9_sheet_14 rfl 3 rfl ?_
      refine k_bipush (pc := 15) h dX9_sheet_15 kc_bipush_60 ?_
      refine k_icmp_le (pc := 17) (tgt := 23) h dX9_sheet_17 rfl (fun hc => ?_) (fun hc => ?_)
      · have hf := it_p hc hf
        refine k_iload_n (pc := 23) h dX9_sheet_23 rfl 3 rfl ?_
        refine k_if_ge (pc := 24) (tgt := 33) h dX9_sheet_24 rfl (fun hc => ?_) (fun hc => ?_)
        · have hf := it_p hc hf
          refine k_aload_n (pc := 33) h dX9_sheet_33 rfl 0 rfl ?_
          refine k_getR (pc := 34) h fl_RX9_50 rfl rfl dX9_sheet_34 ?_
          refine k_iload_n (pc := 37) h dX9_sheet_37 rfl 1 rfl ?_
          obtain ⟨g3, hf⟩ := gu_s hf
          have jg3 : ix p1 < 4 := inb_lt g3
          refine k_aald (pc := 38) (k' := 64 + 2 * ix p1) h rfl g3 (sh_refs jg3) dX9_sheet_38 ?_
          refine k_iload_n (pc := 39) h dX9_sheet_39 rfl 2 rfl ?_
          refine k_iload_n (pc := 40) h dX9_sheet_40 rfl 3 rfl ?_
          obtain ⟨s4, cs4, hf⟩ := ob_s hf
          obtain ⟨s5, es5, hf⟩ := lb_s hf
          refine k_callVe (pc := 41) (em := [64 + 2 * ix p1, 64 + 2 * ix p1 + 1]) h cv_RX9_228 (c_X6_renew p2 p3 (rs [64 + 2 * ix p1, 64 + 2 * ix p1 + 1] s0) s4 cs4) (emb_SH jg3) (sh_sheet jg3) rfl rfl (st1 := []) rfl ⟨rfl, rfl⟩ (rk hR (Nat.le_of_ble_eq_true rfl) (Nat.le_of_ble_eq_true rfl)) (Nat.le_of_ble_eq_true rfl) dX9_sheet_41 es5 ?_
          refine k_iload_n (pc := 44) h dX9_sheet_44 rfl 3 rfl ?_
          obtain ⟨rfl, rfl⟩ := so2 hf
          exact hret 45 _ dX9_sheet_45 trivial
        · have hf := it_n hc hf
          refine k_aload_n (pc := 27) h dX9_sheet_27 rfl 0 rfl ?_
          refine k_iconst (pc := 28) h dX9_sheet_28 kc_iconst_5 ?_
          obtain ⟨v6, s7, cv6, hf⟩ := ob2_s hf
          refine k_callV0 (pc := 29) h cv_RX9_101 (c_X9_finding (5 : Int32) s0 v6 s7 cv6) rfl rfl rfl (st1 := [.int v6]) rfl ⟨rfl, rfl⟩ (rk hR (Nat.le_of_ble_eq_true rfl) (Nat.le_of_ble_eq_true rfl)) (Nat.le_of_ble_eq_true rfl) dX9_sheet_29 ?_
          obtain ⟨rfl, rfl⟩ := so2 hf
          exact hret 32 _ dX9_sheet_32 trivial
      · have hf := it_n hc hf
        refine k_bipush (pc := 20) h dX9_sheet_20 kc_bipush_m2 ?_
        obtain ⟨rfl, rfl⟩ := so2 hf
        exact hret 22 _ dX9_sheet_22 trivial
theorem dX9_lose_0 : decode cX9_lose 0 = .ok (.iload_n 1, 1) := by decide +kernel
theorem dX9_lose_1 : decode cX9_lose 1 = .ok (.invokestatic 94, 3) := by decide +kernel
theorem dX9_lose_4 : decode cX9_lose 4 = .ok (.ifCond .ne 6, 3) := by decide +kernel
theorem dX9_lose_7 : decode cX9_lose 7 = .ok (.bipush (-2), 2) := by decide +kernel
theorem dX9_lose_9 : decode cX9_lose 9 = .ok (.ireturn, 1) := by decide +kernel
theorem dX9_lose_10 : decode cX9_lose 10 = .ok (.aload_n 0, 1) := by decide +kernel
theorem dX9_lose_11 : decode cX9_lose 11 = .ok (.getfield 50, 3) := by decide +kernel
theorem dX9_lose_14 : decode cX9_lose 14 = .ok (.iload_n 1, 1) := by decide +kernel
theorem dX9_lose_15 : decode cX9_lose 15 = .ok (.aaload, 1) := by decide +kernel
theorem dX9_lose_16 : decode cX9_lose 16 = .ok (.astore_n 2, 1) := by decide +kernel
theorem dX9_lose_17 : decode cX9_lose 17 = .ok (.aload_n 2, 1) := by decide +kernel
theorem dX9_lose_18 : decode cX9_lose 18 = .ok (.invokevirtual 97, 3) := by decide +kernel
theorem dX9_lose_21 : decode cX9_lose 21 = .ok (.ifCond .eq 9, 3) := by decide +kernel
theorem dX9_lose_24 : decode cX9_lose 24 = .ok (.aload_n 0, 1) := by decide +kernel
theorem dX9_lose_25 : decode cX9_lose 25 = .ok (.iconst 1, 1) := by decide +kernel
theorem dX9_lose_26 : decode cX9_lose 26 = .ok (.invokevirtual 101, 3) := by decide +kernel
theorem dX9_lose_29 : decode cX9_lose 29 = .ok (.ireturn, 1) := by decide +kernel
theorem dX9_lose_30 : decode cX9_lose 30 = .ok (.aload_n 2, 1) := by decide +kernel
theorem dX9_lose_31 : decode cX9_lose 31 = .ok (.getfield 105, 3) := by decide +kernel
theorem dX9_lose_34 : decode cX9_lose 34 = .ok (.istore_n 3, 1) := by decide +kernel
theorem dX9_lose_35 : decode cX9_lose 35 = .ok (.aload_n 2, 1) := by decide +kernel
theorem dX9_lose_36 : decode cX9_lose 36 = .ok (.invokevirtual 231, 3) := by decide +kernel
theorem dX9_lose_39 : decode cX9_lose 39 = .ok (.iload_n 3, 1) := by decide +kernel
theorem dX9_lose_40 : decode cX9_lose 40 = .ok (.ireturn, 1) := by decide +kernel
def f_X9_lose (p1 : Int32) (s0 : sh_S) : Option (Int32 × sh_S) := ob (f_X9_isSheet p1) (fun v1 => (if v1 = 0 then some ((-2 : Int32), s0) else gu (inb p1 4) (ob (f_X6_isLost  (rs [64 + 2 * ix p1, 64 + 2 * ix p1 + 1] s0)) (fun v3 => (if v3 = 0 then lb ((s0 (64 + 2 * ix p1) 2)) (fun v4 => ob (f_X6_drop  (rs [64 + 2 * ix p1, 64 + 2 * ix p1 + 1] s0)) (fun s5 => lb (mg [64 + 2 * ix p1, 64 + 2 * ix p1 + 1] 0 s0 s5) (fun s6 => some (v4, s6)))) else ob2 (f_X9_finding (1 : Int32) s0) (fun v7 s8 => some (v7, s8)))))))
set_option maxRecDepth 100000 in
set_option maxHeartbeats 4000000 in
theorem c_X9_lose (p1 : Int32) (s0 : sh_S) (r : Int32) (s9x : sh_S) (hf : f_X9_lose p1 s0 = some (r, s9x)) : Ctr yX9_lose cX9_lose 4 (some .int) ({ frames := 2, cells := 0, slots := 0, locals := 42 } : Room) shX [.ref 73, .int p1] s0 (some (.int r)) s9x := by
  refine Ctr.mk (ri := .ireturn) (by decide) (Nat.le_of_ble_eq_true rfl) (Rt_i r) ?_
  intro G h hL hR hret
  refine k_drop (lv' := [(0, .ref 73), (1, .int p1)]) [0, 1] rfl ?_
  unfold f_X9_lose at hf
  refine k_iload_n (pc := 0) h dX9_lose_0 rfl 1 rfl ?_
  obtain ⟨v1, cv1, hf⟩ := ob_s hf
  refine k_callSp (pc := 1) h cs_RX9_94 (c_X9_isSheet p1 _ v1 cv1) rfl rfl (st1 := [.int v1]) rfl ⟨rfl, rfl⟩ (rk hR (Nat.le_of_ble_eq_true rfl) (Nat.le_of_ble_eq_true rfl)) (Nat.le_of_ble_eq_true rfl) dX9_lose_1 ?_
  refine k_if_ne (pc := 4) (tgt := 10) h dX9_lose_4 rfl (fun hc => ?_) (fun hc => ?_)
  · have hf := it_n hc hf
    refine k_aload_n (pc := 10) h dX9_lose_10 rfl 0 rfl ?_
    refine k_getR (pc := 11) h fl_RX9_50 rfl rfl dX9_lose_11 ?_
    refine k_iload_n (pc := 14) h dX9_lose_14 rfl 1 rfl ?_
    obtain ⟨g2, hf⟩ := gu_s hf
    have jg2 : ix p1 < 4 := inb_lt g2
    refine k_aald (pc := 15) (k' := 64 + 2 * ix p1) h rfl g2 (sh_refs jg2) dX9_lose_15 ?_
    refine k_astore_n (pc := 16) h dX9_lose_16 rfl (nk hL (by decide)) (lv' := [(0, .ref 73), (1, .int p1), (2, .ref (64 + 2 * ix p1))]) rfl ?_
    refine k_aload_n (pc := 17) h dX9_lose_17 rfl 2 rfl ?_
    obtain ⟨v3, cv3, hf⟩ := ob_s hf
    refine k_callVe (pc := 18) (em := [64 + 2 * ix p1, 64 + 2 * ix p1 + 1]) h cv_RX9_97 (c_X6_isLost  (rs [64 + 2 * ix p1, 64 + 2 * ix p1 + 1] s0) v3 cv3) (emb_SH jg2) (sh_sheet jg2) rfl rfl (st1 := [.int v3]) rfl ⟨rfl, rfl⟩ (rk hR (Nat.le_of_ble_eq_true rfl) (Nat.le_of_ble_eq_true rfl)) (Nat.le_of_ble_eq_true rfl) dX9_lose_18 (mg_rs [64 + 2 * ix p1, 64 + 2 * ix p1 + 1] s0) ?_
    refine k_if_eq (pc := 21) (tgt := 30) h dX9_lose_21 rfl (fun hc => ?_) (fun hc => ?_)
    · have hf := it_p hc hf
      refine k_aload_n (pc := 30) h dX9_lose_30 rfl 2 rfl ?_
      refine k_getI (pc := 31) h fl_RX9_105 (sh_sheet jg2) rfl dX9_lose_31 ?_
      obtain ⟨v4, ev4, hf⟩ := lb_s hf
      refine k_top ev4 ?_
      refine k_istore_n (pc := 34) h dX9_lose_34 rfl (nk hL (by decide)) (lv' := [(0, .ref 73), (1, .int p1), (2, .ref (64 + 2 * ix p1)), (3, .int v4)]) rfl ?_
      refine k_aload_n (pc := 35) h dX9_lose_35 rfl 2 rfl ?_
      obtain ⟨s5, cs5, hf⟩ := ob_s hf
      obtain ⟨s6, es6, hf⟩ := lb_s hf
      refine k_callVe (pc := 36) (em := [64 + 2 * ix p1, 64 + 2 * ix p1 + 1]) h cv_RX9_231 (c_X6_drop  (rs [64 + 2 * ix p1, 64 + 2 * ix p1 + 1] s0) s5 cs5) (emb_SH jg2) (sh_sheet jg2) rfl rfl (st1 := []) rfl ⟨rfl, rfl⟩ (rk hR (Nat.le_of_ble_eq_true rfl) (Nat.le_of_ble_eq_true rfl)) (Nat.le_of_ble_eq_true rfl) dX9_lose_36 es6 ?_
      refine k_iload_n (pc := 39) h dX9_lose_39 rfl 3 rfl ?_
      obtain ⟨rfl, rfl⟩ := so2 hf
      exact hret 40 _ dX9_lose_40 trivial
    · have hf := it_n hc hf
      refine k_aload_n (pc := 24) h dX9_lose_24 rfl 0 rfl ?_
      refine k_iconst (pc := 25) h dX9_lose_25 kc_iconst_1 ?_
      obtain ⟨v7, s8, cv7, hf⟩ := ob2_s hf
      refine k_callV0 (pc := 26) h cv_RX9_101 (c_X9_finding (1 : Int32) s0 v7 s8 cv7) rfl rfl rfl (st1 := [.int v7]) rfl ⟨rfl, rfl⟩ (rk hR (Nat.le_of_ble_eq_true rfl) (Nat.le_of_ble_eq_true rfl)) (Nat.le_of_ble_eq_true rfl) dX9_lose_26 ?_
      obtain ⟨rfl, rfl⟩ := so2 hf
      exact hret 29 _ dX9_lose_29 trivial
  · have hf := it_p hc hf
    refine k_bipush (pc := 7) h dX9_lose_7 kc_bipush_m2 ?_
    obtain ⟨rfl, rfl⟩ := so2 hf
    exact hret 9 _ dX9_lose_9 trivial
theorem dX9_put_0 : decode cX9_put 0 = .ok (.iload_n 1, 1) := by decide +kernel
theorem dX9_put_1 : decode cX9_put 1 = .ok (.invokestatic 94, 3) := by decide +kernel
theorem dX9_put_4 : decode cX9_put 4 = .ok (.ifCond .eq 10, 3) := by decide +kernel
theorem dX9_put_7 : decode cX9_put 7 = .ok (.iload_n 2, 1) := by decide +kernel
theorem dX9_put_8 : decode cX9_put 8 = .ok (.invokestatic 225, 3) := by decide +kernel
theorem dX9_put_11 : decode cX9_put 11 = .ok (.ifCond .ne 6, 3) := by decide +kernel
theorem dX9_put_14 : decode cX9_put 14 = .ok (.bipush (-2), 2) := by decide +kernel
theorem dX9_put_16 : decode cX9_put 16 = .ok (.ireturn, 1) := by decide +kernel
theorem dX9_put_17 : decode cX9_put 17 = .ok (.aload_n 0, 1) := by decide +kernel
theorem dX9_put_18 : decode cX9_put 18 = .ok (.getfield 50, 3) := by decide +kernel
theorem dX9_put_21 : decode cX9_put 21 = .ok (.iload_n 1, 1) := by decide +kernel
theorem dX9_put_22 : decode cX9_put 22 = .ok (.aaload, 1) := by decide +kernel
theorem dX9_put_23 : decode cX9_put 23 = .ok (.iload_n 2, 1) := by decide +kernel
theorem dX9_put_24 : decode cX9_put 24 = .ok (.iload_n 3, 1) := by decide +kernel
theorem dX9_put_25 : decode cX9_put 25 = .ok (.invokevirtual 234, 3) := by decide +kernel
theorem dX9_put_28 : decode cX9_put 28 = .ok (.istore 5, 2) := by decide +kernel
theorem dX9_put_30 : decode cX9_put 30 = .ok (.iload 5, 2) := by decide +kernel
theorem dX9_put_32 : decode cX9_put 32 = .ok (.ifCond .eq 10, 3) := by decide +kernel
theorem dX9_put_35 : decode cX9_put 35 = .ok (.aload_n 0, 1) := by decide +kernel
theorem dX9_put_36 : decode cX9_put 36 = .ok (.iload 5, 2) := by decide +kernel
theorem dX9_put_38 : decode cX9_put 38 = .ok (.invokevirtual 101, 3) := by decide +kernel
theorem dX9_put_41 : decode cX9_put 41 = .ok (.ireturn, 1) := by decide +kernel
theorem dX9_put_42 : decode cX9_put 42 = .ok (.aload_n 0, 1) := by decide +kernel
theorem dX9_put_43 : decode cX9_put 43 = .ok (.getfield 50, 3) := by decide +kernel
theorem dX9_put_46 : decode cX9_put 46 = .ok (.iload_n 1, 1) := by decide +kernel
theorem dX9_put_47 : decode cX9_put 47 = .ok (.aaload, 1) := by decide +kernel
theorem dX9_put_48 : decode cX9_put 48 = .ok (.iload_n 3, 1) := by decide +kernel
theorem dX9_put_49 : decode cX9_put 49 = .ok (.iload 4, 2) := by decide +kernel
theorem dX9_put_51 : decode cX9_put 51 = .ok (.invokevirtual 237, 3) := by decide +kernel
theorem dX9_put_54 : decode cX9_put 54 = .ok (.iconst 1, 1) := by decide +kernel
theorem dX9_put_55 : decode cX9_put 55 = .ok (.ireturn, 1) := by decide +kernel
def f_X9_put (p1 : Int32) (p2 : Int32) (p3 : Int32) (p4 : Int32) (s0 : sh_S) : Option (Int32 × sh_S) := ob (f_X9_isSheet p1) (fun v1 => (if v1 = 0 then some ((-2 : Int32), s0) else ob (f_X9_isForm p2) (fun v2 => (if v2 = 0 then some ((-2 : Int32), s0) else gu (inb p1 4) (ob (f_X6_hindrance p2 p3 (rs [64 + 2 * ix p1, 64 + 2 * ix p1 + 1] s0)) (fun v4 => (if v4 = 0 then gu (inb p1 4) (ob (f_X6_enter p3 p4 (rs [64 + 2 * ix p1, 64 + 2 * ix p1 + 1] s0)) (fun s6 => lb (mg [64 + 2 * ix p1, 64 + 2 * ix p1 + 1] 0 s0 s6) (fun s7 => some ((1 : Int32), s7)))) else ob2 (f_X9_finding v4 s0) (fun v8 s9 => some (v8, s9)))))))))
set_option maxRecDepth 100000 in
set_option maxHeartbeats 4000000 in
theorem c_X9_put (p1 : Int32) (p2 : Int32) (p3 : Int32) (p4 : Int32) (s0 : sh_S) (r : Int32) (s9x : sh_S) (hf : f_X9_put p1 p2 p3 p4 s0 = some (r, s9x)) : Ctr yX9_put cX9_put 6 (some .int) ({ frames := 2, cells := 0, slots := 0, locals := 42 } : Room) shX [.ref 73, .int p1, .int p2, .int p3, .int p4] s0 (some (.int r)) s9x := by
  refine Ctr.mk (ri := .ireturn) (by decide) (Nat.le_of_ble_eq_true rfl) (Rt_i r) ?_
  intro G h hL hR hret
  refine k_drop (lv' := [(0, .ref 73), (1, .int p1), (2, .int p2), (3, .int p3), (4, .int p4)]) [0, 1, 2, 3, 4] rfl ?_
  unfold f_X9_put at hf
  refine k_iload_n (pc := 0) h dX9_put_0 rfl 1 rfl ?_
  obtain ⟨v1, cv1, hf⟩ := ob_s hf
  refine k_callSp (pc := 1) h cs_RX9_94 (c_X9_isSheet p1 _ v1 cv1) rfl rfl (st1 := [.int v1]) rfl ⟨rfl, rfl⟩ (rk hR (Nat.le_of_ble_eq_true rfl) (Nat.le_of_ble_eq_true rfl)) (Nat.le_of_ble_eq_true rfl) dX9_put_1 ?_
  refine k_if_eq (pc := 4) (tgt := 14) h dX9_put_4 rfl (fun hc => ?_) (fun hc => ?_)
  · have hf := it_p hc hf
    refine k_bipush (pc := 14) h dX9_put_14 kc_bipush_m2 ?_
    obtain ⟨rfl, rfl⟩ := so2 hf
    exact hret 16 _ dX9_put_16 trivial
  · have hf := it_n hc hf
    refine k_iload_n (pc := 7) h dX9_put_7 rfl 2 rfl ?_
    obtain ⟨v2, cv2, hf⟩ := ob_s hf
    refine k_callSp (pc := 8) h cs_RX9_225 (c_X9_isForm p2 _ v2 cv2) rfl rfl (st1 := [.int v2]) rfl ⟨rfl, rfl⟩ (rk hR (Nat.le_of_ble_eq_true rfl) (Nat.le_of_ble_eq_true rfl)) (Nat.le_of_ble_eq_true rfl) dX9_put_8 ?_
    refine k_if_ne (pc := 11) (tgt := 17) h dX9_put_11 rfl (fun hc => ?_) (fun hc => ?_)
    · have hf := it_n hc hf
      refine k_aload_n (pc := 17) h dX9_put_17 rfl 0 rfl ?_
      refine k_getR (pc := 18) h fl_RX9_50 rfl rfl dX9_put_18 ?_
      refine k_iload_n (pc := 21) h dX9_put_21 rfl 1 rfl ?_
      obtain ⟨g3, hf⟩ := gu_s hf
      have jg3 : ix p1 < 4 := inb_lt g3
      refine k_aald (pc := 22) (k' := 64 + 2 * ix p1) h rfl g3 (sh_refs jg3) dX9_put_22 ?_
      refine k_iload_n (pc := 23) h dX9_put_23 rfl 2 rfl ?_
      refine k_iload_n (pc := 24) h dX9_put_24 rfl 3 rfl ?_
      obtain ⟨v4, cv4, hf⟩ := ob_s hf
      refine k_callVe (pc := 25) (em := [64 + 2 * ix p1, 64 + 2 * ix p1 + 1]) h cv_RX9_234 (c_X6_hindrance p2 p3 (rs [64 + 2 * ix p1, 64 + 2 * ix p1 + 1] s0) v4 cv4) (emb_SH jg3) (sh_sheet jg3) rfl rfl (st1 := [.int v4]) rfl ⟨rfl, rfl⟩ (rk hR (Nat.le_of_ble_eq_true rfl) (Nat.le_of_ble_eq_true rfl)) (Nat.le_of_ble_eq_true rfl) dX9_put_25 (mg_rs [64 + 2 * ix p1, 64 + 2 * ix p1 + 1] s0) ?_
      refine k_istore (pc := 28) h dX9_put_28 (nk hL (by decide)) (lv' := [(0, .ref 73), (1, .int p1), (2, .int p2), (3, .int p3), (4, .int p4), (5, .int v4)]) rfl ?_
      refine k_iload (pc := 30) h dX9_put_30 5 rfl ?_
      refine k_if_eq (pc := 32) (tgt := 42) h dX9_put_32 rfl (fun hc => ?_) (fun hc => ?_)
      · have hf := it_p hc hf
        refine k_aload_n (pc := 42) h dX9_put_42 rfl 0 rfl ?_
        refine k_getR (pc := 43) h fl_RX9_50 rfl rfl dX9_put_43 ?_
        refine k_iload_n (pc := 46) h dX9_put_46 rfl 1 rfl ?_
        obtain ⟨g5, hf⟩ := gu_s hf
        have jg5 : ix p1 < 4 := inb_lt g5
        refine k_aald (pc := 47) (k' := 64 + 2 * ix p1) h rfl g5 (sh_refs jg5) dX9_put_47 ?_
        refine k_iload_n (pc := 48) h dX9_put_48 rfl 3 rfl ?_
        refine k_iload (pc := 49) h dX9_put_49 4 rfl ?_
        obtain ⟨s6, cs6, hf⟩ := ob_s hf
        obtain ⟨s7, es7, hf⟩ := lb_s hf
        refine k_callVe (pc := 51) (em := [64 + 2 * ix p1, 64 + 2 * ix p1 + 1]) h cv_RX9_237 (c_X6_enter p3 p4 (rs [64 + 2 * ix p1, 64 + 2 * ix p1 + 1] s0) s6 cs6) (emb_SH jg5) (sh_sheet jg5) rfl rfl (st1 := []) rfl ⟨rfl, rfl⟩ (rk hR (Nat.le_of_ble_eq_true rfl) (Nat.le_of_ble_eq_true rfl)) (Nat.le_of_ble_eq_true rfl) dX9_put_51 es7 ?_
        refine k_iconst (pc := 54) h dX9_put_54 kc_iconst_1 ?_
        obtain ⟨rfl, rfl⟩ := so2 hf
        exact hret 55 _ dX9_put_55 trivial
      · have hf := it_n hc hf
        refine k_aload_n (pc := 35) h dX9_put_35 rfl 0 rfl ?_
        refine k_iload (pc := 36) h dX9_put_36 5 rfl ?_
        obtain ⟨v8, s9, cv8, hf⟩ := ob2_s hf
        refine k_callV0 (pc := 38) h cv_RX9_101 (c_X9_finding v4 s0 v8 s9 cv8) rfl rfl rfl (st1 := [.int v8]) rfl ⟨rfl, rfl⟩ (rk hR (Nat.le_of_ble_eq_true rfl) (Nat.le_of_ble_eq_true rfl)) (Nat.le_of_ble_eq_true rfl) dX9_put_38 ?_
        obtain ⟨rfl, rfl⟩ := so2 hf
        exact hret 41 _ dX9_put_41 trivial
    · have hf := it_p hc hf
      refine k_bipush (pc := 14) h dX9_put_14 kc_bipush_m2 ?_
      obtain ⟨rfl, rfl⟩ := so2 hf
      exact hret 16 _ dX9_put_16 trivial
theorem dX9_get_0 : decode cX9_get 0 = .ok (.iload_n 1, 1) := by decide +kernel
theorem dX9_get_1 : decode cX9_get 1 = .ok (.invokestatic 94, 3) := by decide +kernel
theorem dX9_get_4 : decode cX9_get 4 = .ok (.ifCond .eq 10, 3) := by decide +kernel
theorem dX9_get_7 : decode cX9_get 7 = .ok (.iload_n 2, 1) := by decide +kernel
theorem dX9_get_8 : decode cX9_get 8 = .ok (.invokestatic 225, 3) := by decide +kernel
theorem dX9_get_11 : decode cX9_get 11 = .ok (.ifCond .ne 6, 3) := by decide +kernel
theorem dX9_get_14 : decode cX9_get 14 = .ok (.ldc 240, 2) := by decide +kernel
theorem dX9_get_16 : decode cX9_get 16 = .ok (.ireturn, 1) := by decide +kernel
theorem dX9_get_17 : decode cX9_get 17 = .ok (.aload_n 0, 1) := by decide +kernel
theorem dX9_get_18 : decode cX9_get 18 = .ok (.getfield 50, 3) := by decide +kernel
theorem dX9_get_21 : decode cX9_get 21 = .ok (.iload_n 1, 1) := by decide +kernel
theorem dX9_get_22 : decode cX9_get 22 = .ok (.aaload, 1) := by decide +kernel
theorem dX9_get_23 : decode cX9_get 23 = .ok (.iload_n 2, 1) := by decide +kernel
theorem dX9_get_24 : decode cX9_get 24 = .ok (.iload_n 3, 1) := by decide +kernel
theorem dX9_get_25 : decode cX9_get 25 = .ok (.invokevirtual 234, 3) := by decide +kernel
theorem dX9_get_28 : decode cX9_get 28 = .ok (.istore 4, 2) := by decide +kernel
theorem dX9_get_30 : decode cX9_get 30 = .ok (.iload 4, 2) := by decide +kernel
theorem dX9_get_32 : decode cX9_get 32 = .ok (.ifCond .eq 12, 3) := by decide +kernel
theorem dX9_get_35 : decode cX9_get 35 = .ok (.aload_n 0, 1) := by decide +kernel
theorem dX9_get_36 : decode cX9_get 36 = .ok (.iload 4, 2) := by decide +kernel
theorem dX9_get_38 : decode cX9_get 38 = .ok (.putfield 54, 3) := by decide +kernel
theorem dX9_get_41 : decode cX9_get 41 = .ok (.ldc 240, 2) := by decide +kernel
theorem dX9_get_43 : decode cX9_get 43 = .ok (.ireturn, 1) := by decide +kernel
theorem dX9_get_44 : decode cX9_get 44 = .ok (.aload_n 0, 1) := by decide +kernel
theorem dX9_get_45 : decode cX9_get 45 = .ok (.getfield 50, 3) := by decide +kernel
theorem dX9_get_48 : decode cX9_get 48 = .ok (.iload_n 1, 1) := by decide +kernel
theorem dX9_get_49 : decode cX9_get 49 = .ok (.aaload, 1) := by decide +kernel
theorem dX9_get_50 : decode cX9_get 50 = .ok (.getfield 106, 3) := by decide +kernel
theorem dX9_get_53 : decode cX9_get 53 = .ok (.iload_n 3, 1) := by decide +kernel
theorem dX9_get_54 : decode cX9_get 54 = .ok (.iaload, 1) := by decide +kernel
theorem dX9_get_55 : decode cX9_get 55 = .ok (.ireturn, 1) := by decide +kernel
def f_X9_get (p1 : Int32) (p2 : Int32) (p3 : Int32) (s0 : sh_S) : Option (Int32 × sh_S) := ob (f_X9_isSheet p1) (fun v1 => (if v1 = 0 then some ((-2147483648 : Int32), s0) else ob (f_X9_isForm p2) (fun v2 => (if v2 = 0 then some ((-2147483648 : Int32), s0) else gu (inb p1 4) (ob (f_X6_hindrance p2 p3 (rs [64 + 2 * ix p1, 64 + 2 * ix p1 + 1] s0)) (fun v4 => (if v4 = 0 then gu (inb p1 4) (gu (inb p3 60) (some ((s0 (64 + 2 * ix p1 + 1) (ix p3)), s0))) else lb (ur s0 73 (upd (s0 73) 6 v4)) (fun s7 => some ((-2147483648 : Int32), s7)))))))))
set_option maxRecDepth 100000 in
set_option maxHeartbeats 4000000 in
theorem c_X9_get (p1 : Int32) (p2 : Int32) (p3 : Int32) (s0 : sh_S) (r : Int32) (s9x : sh_S) (hf : f_X9_get p1 p2 p3 s0 = some (r, s9x)) : Ctr yX9_get cX9_get 5 (some .int) ({ frames := 2, cells := 0, slots := 0, locals := 42 } : Room) shX [.ref 73, .int p1, .int p2, .int p3] s0 (some (.int r)) s9x := by
  refine Ctr.mk (ri := .ireturn) (by decide) (Nat.le_of_ble_eq_true rfl) (Rt_i r) ?_
  intro G h hL hR hret
  refine k_drop (lv' := [(0, .ref 73), (1, .int p1), (2, .int p2), (3, .int p3)]) [0, 1, 2, 3] rfl ?_
  unfold f_X9_get at hf
  refine k_iload_n (pc := 0) h dX9_get_0 rfl 1 rfl ?_
  obtain ⟨v1, cv1, hf⟩ := ob_s hf
  refine k_callSp (pc := 1) h cs_RX9_94 (c_X9_isSheet p1 _ v1 cv1) rfl rfl (st1 := [.int v1]) rfl ⟨rfl, rfl⟩ (rk hR (Nat.le_of_ble_eq_true rfl) (Nat.le_of_ble_eq_true rfl)) (Nat.le_of_ble_eq_true rfl) dX9_get_1 ?_
  refine k_if_eq (pc := 4) (tgt := 14) h dX9_get_4 rfl (fun hc => ?_) (fun hc => ?_)
  · have hf := it_p hc hf
    refine k_ldc (pc := 14) h dX9_get_14 wd_894 ?_
    obtain ⟨rfl, rfl⟩ := so2 hf
    exact hret 16 _ dX9_get_16 trivial
  · have hf := it_n hc hf
    refine k_iload_n (pc := 7) h dX9_get_7 rfl 2 rfl ?_
    obtain ⟨v2, cv2, hf⟩ := ob_s hf
    refine k_callSp (pc := 8) h cs_RX9_225 (c_X9_isForm p2 _ v2 cv2) rfl rfl (st1 := [.int v2]) rfl ⟨rfl, rfl⟩ (rk hR (Nat.le_of_ble_eq_true rfl) (Nat.le_of_ble_eq_true rfl)) (Nat.le_of_ble_eq_true rfl) dX9_get_8 ?_
    refine k_if_ne (pc := 11) (tgt := 17) h dX9_get_11 rfl (fun hc => ?_) (fun hc => ?_)
    · have hf := it_n hc hf
      refine k_aload_n (pc := 17) h dX9_get_17 rfl 0 rfl ?_
      refine k_getR (pc := 18) h fl_RX9_50 rfl rfl dX9_get_18 ?_
      refine k_iload_n (pc := 21) h dX9_get_21 rfl 1 rfl ?_
      obtain ⟨g3, hf⟩ := gu_s hf
      have jg3 : ix p1 < 4 := inb_lt g3
      refine k_aald (pc := 22) (k' := 64 + 2 * ix p1) h rfl g3 (sh_refs jg3) dX9_get_22 ?_
      refine k_iload_n (pc := 23) h dX9_get_23 rfl 2 rfl ?_
      refine k_iload_n (pc := 24) h dX9_get_24 rfl 3 rfl ?_
      obtain ⟨v4, cv4, hf⟩ := ob_s hf
      refine k_callVe (pc := 25) (em := [64 + 2 * ix p1, 64 + 2 * ix p1 + 1]) h cv_RX9_234 (c_X6_hindrance p2 p3 (rs [64 + 2 * ix p1, 64 + 2 * ix p1 + 1] s0) v4 cv4) (emb_SH jg3) (sh_sheet jg3) rfl rfl (st1 := [.int v4]) rfl ⟨rfl, rfl⟩ (rk hR (Nat.le_of_ble_eq_true rfl) (Nat.le_of_ble_eq_true rfl)) (Nat.le_of_ble_eq_true rfl) dX9_get_25 (mg_rs [64 + 2 * ix p1, 64 + 2 * ix p1 + 1] s0) ?_
      refine k_istore (pc := 28) h dX9_get_28 (nk hL (by decide)) (lv' := [(0, .ref 73), (1, .int p1), (2, .int p2), (3, .int p3), (4, .int v4)]) rfl ?_
      refine k_iload (pc := 30) h dX9_get_30 4 rfl ?_
      refine k_if_eq (pc := 32) (tgt := 44) h dX9_get_32 rfl (fun hc => ?_) (fun hc => ?_)
      · have hf := it_p hc hf
        refine k_aload_n (pc := 44) h dX9_get_44 rfl 0 rfl ?_
        refine k_getR (pc := 45) h fl_RX9_50 rfl rfl dX9_get_45 ?_
        refine k_iload_n (pc := 48) h dX9_get_48 rfl 1 rfl ?_
        obtain ⟨g5, hf⟩ := gu_s hf
        have jg5 : ix p1 < 4 := inb_lt g5
        refine k_aald (pc := 49) (k' := 64 + 2 * ix p1) h rfl g5 (sh_refs jg5) dX9_get_49 ?_
        refine k_getR (pc := 50) h fl_RX9_106 (sh_sheet jg5) rfl dX9_get_50 ?_
        refine k_iload_n (pc := 53) h dX9_get_53 rfl 3 rfl ?_
        obtain ⟨g6, hf⟩ := gu_s hf
        refine k_iald (pc := 54) (n := 60) h (sh_items jg5) g6 dX9_get_54 ?_
        obtain ⟨rfl, rfl⟩ := so2 hf
        exact hret 55 _ dX9_get_55 trivial
      · have hf := it_n hc hf
        refine k_aload_n (pc := 35) h dX9_get_35 rfl 0 rfl ?_
        refine k_iload (pc := 36) h dX9_get_36 4 rfl ?_
        obtain ⟨s7, es7, hf⟩ := lb_s hf
        refine k_put (pc := 38) h fl_RX9_54 fp_X9_6 rfl rfl rfl rfl dX9_get_38 ?_
        refine k_heap es7 ?_
        refine k_ldc (pc := 41) h dX9_get_41 wd_894 ?_
        obtain ⟨rfl, rfl⟩ := so2 hf
        exact hret 43 _ dX9_get_43 trivial
    · have hf := it_p hc hf
      refine k_ldc (pc := 14) h dX9_get_14 wd_894 ?_
      obtain ⟨rfl, rfl⟩ := so2 hf
      exact hret 16 _ dX9_get_16 trivial
theorem dX9_copy_0 : decode cX9_copy 0 = .ok (.iload_n 1, 1) := by decide +kernel
theorem dX9_copy_1 : decode cX9_copy 1 = .ok (.invokestatic 94, 3) := by decide +kernel
theorem dX9_copy_4 : decode cX9_copy 4 = .ok (.ifCond .eq 10, 3) := by decide +kernel
theorem dX9_copy_7 : decode cX9_copy 7 = .ok (.iload_n 3, 1) := by decide +kernel
theorem dX9_copy_8 : decode cX9_copy 8 = .ok (.invokestatic 94, 3) := by decide +kernel
theorem dX9_copy_11 : decode cX9_copy 11 = .ok (.ifCond .ne 6, 3) := by decide +kernel
theorem dX9_copy_14 : decode cX9_copy 14 = .ok (.bipush (-2), 2) := by decide +kernel
theorem dX9_copy_16 : decode cX9_copy 16 = .ok (.ireturn, 1) := by decide +kernel
theorem dX9_copy_17 : decode cX9_copy 17 = .ok (.aload_n 0, 1) := by decide +kernel
theorem dX9_copy_18 : decode cX9_copy 18 = .ok (.getfield 50, 3) := by decide +kernel
theorem dX9_copy_21 : decode cX9_copy 21 = .ok (.iload_n 1, 1) := by decide +kernel
theorem dX9_copy_22 : decode cX9_copy 22 = .ok (.aaload, 1) := by decide +kernel
theorem dX9_copy_23 : decode cX9_copy 23 = .ok (.astore 6, 2) := by decide +kernel
theorem dX9_copy_25 : decode cX9_copy 25 = .ok (.aload_n 0, 1) := by decide +kernel
theorem dX9_copy_26 : decode cX9_copy 26 = .ok (.getfield 50, 3) := by decide +kernel
theorem dX9_copy_29 : decode cX9_copy 29 = .ok (.iload_n 3, 1) := by decide +kernel
theorem dX9_copy_30 : decode cX9_copy 30 = .ok (.aaload, 1) := by decide +kernel
theorem dX9_copy_31 : decode cX9_copy 31 = .ok (.astore 7, 2) := by decide +kernel
theorem dX9_copy_33 : decode cX9_copy 33 = .ok (.aload 6, 2) := by decide +kernel
theorem dX9_copy_35 : decode cX9_copy 35 = .ok (.invokevirtual 97, 3) := by decide +kernel
theorem dX9_copy_38 : decode cX9_copy 38 = .ok (.ifCond .ne 11, 3) := by decide +kernel
theorem dX9_copy_41 : decode cX9_copy 41 = .ok (.aload 7, 2) := by decide +kernel
theorem dX9_copy_43 : decode cX9_copy 43 = .ok (.invokevirtual 97, 3) := by decide +kernel
theorem dX9_copy_46 : decode cX9_copy 46 = .ok (.ifCond .eq 9, 3) := by decide +kernel
theorem dX9_copy_49 : decode cX9_copy 49 = .ok (.aload_n 0, 1) := by decide +kernel
theorem dX9_copy_50 : decode cX9_copy 50 = .ok (.iconst 1, 1) := by decide +kernel
theorem dX9_copy_51 : decode cX9_copy 51 = .ok (.invokevirtual 101, 3) := by decide +kernel
theorem dX9_copy_54 : decode cX9_copy 54 = .ok (.ireturn, 1) := by decide +kernel
theorem dX9_copy_55 : decode cX9_copy 55 = .ok (.aload 6, 2) := by decide +kernel
theorem dX9_copy_57 : decode cX9_copy 57 = .ok (.getfield 241, 3) := by decide +kernel
theorem dX9_copy_60 : decode cX9_copy 60 = .ok (.aload 7, 2) := by decide +kernel
theorem dX9_copy_62 : decode cX9_copy 62 = .ok (.getfield 241, 3) := by decide +kernel
theorem dX9_copy_65 : decode cX9_copy 65 = .ok (.if_icmp .eq 9, 3) := by decide +kernel
theorem dX9_copy_68 : decode cX9_copy 68 = .ok (.aload_n 0, 1) := by decide +kernel
theorem dX9_copy_69 : decode cX9_copy 69 = .ok (.iconst 4, 1) := by decide +kernel
theorem dX9_copy_70 : decode cX9_copy 70 = .ok (.invokevirtual 101, 3) := by decide +kernel
theorem dX9_copy_73 : decode cX9_copy 73 = .ok (.ireturn, 1) := by decide +kernel
theorem dX9_copy_74 : decode cX9_copy 74 = .ok (.aload 6, 2) := by decide +kernel
theorem dX9_copy_76 : decode cX9_copy 76 = .ok (.iload_n 2, 1) := by decide +kernel
theorem dX9_copy_77 : decode cX9_copy 77 = .ok (.iload 5, 2) := by decide +kernel
theorem dX9_copy_79 : decode cX9_copy 79 = .ok (.invokevirtual 244, 3) := by decide +kernel
theorem dX9_copy_82 : decode cX9_copy 82 = .ok (.ifCond .eq 15, 3) := by decide +kernel
theorem dX9_copy_85 : decode cX9_copy 85 = .ok (.aload 7, 2) := by decide +kernel
theorem dX9_copy_87 : decode cX9_copy 87 = .ok (.iload 4, 2) := by decide +kernel
theorem dX9_copy_89 : decode cX9_copy 89 = .ok (.iload 5, 2) := by decide +kernel
theorem dX9_copy_91 : decode cX9_copy 91 = .ok (.invokevirtual 244, 3) := by decide +kernel
theorem dX9_copy_94 : decode cX9_copy 94 = .ok (.ifCond .ne 9, 3) := by decide +kernel
theorem dX9_copy_97 : decode cX9_copy 97 = .ok (.aload_n 0, 1) := by decide +kernel
theorem dX9_copy_98 : decode cX9_copy 98 = .ok (.iconst 2, 1) := by decide +kernel
theorem dX9_copy_99 : decode cX9_copy 99 = .ok (.invokevirtual 101, 3) := by decide +kernel
theorem dX9_copy_102 : decode cX9_copy 102 = .ok (.ireturn, 1) := by decide +kernel
theorem dX9_copy_103 : decode cX9_copy 103 = .ok (.aload 6, 2) := by decide +kernel
theorem dX9_copy_105 : decode cX9_copy 105 = .ok (.getfield 106, 3) := by decide +kernel
theorem dX9_copy_108 : decode cX9_copy 108 = .ok (.iload_n 2, 1) := by decide +kernel
theorem dX9_copy_109 : decode cX9_copy 109 = .ok (.aload 7, 2) := by decide +kernel
theorem dX9_copy_111 : decode cX9_copy 111 = .ok (.getfield 106, 3) := by decide +kernel
theorem dX9_copy_114 : decode cX9_copy 114 = .ok (.iload 4, 2) := by decide +kernel
theorem dX9_copy_116 : decode cX9_copy 116 = .ok (.iload 5, 2) := by decide +kernel
theorem dX9_copy_118 : decode cX9_copy 118 = .ok (.invokestatic 247, 3) := by decide +kernel
theorem dX9_copy_121 : decode cX9_copy 121 = .ok (.iconst 1, 1) := by decide +kernel
theorem dX9_copy_122 : decode cX9_copy 122 = .ok (.ireturn, 1) := by decide +kernel
def f_X9_copy (p1 : Int32) (p2 : Int32) (p3 : Int32) (p4 : Int32) (p5 : Int32) (s0 : sh_S) : Option (Int32 × sh_S) := ob (f_X9_isSheet p1) (fun v1 => (if v1 = 0 then some ((-2 : Int32), s0) else ob (f_X9_isSheet p3) (fun v2 => (if v2 = 0 then some ((-2 : Int32), s0) else gu (inb p1 4) (gu (inb p3 4) (ob (f_X6_isLost  (rs [64 + 2 * ix p1, 64 + 2 * ix p1 + 1] s0)) (fun v5 => (if v5 = 0 then ob (f_X6_isLost  (rs [64 + 2 * ix p3, 64 + 2 * ix p3 + 1] s0)) (fun v8 => (if v8 = 0 then (if (s0 (64 + 2 * ix p1) 1) = (s0 (64 + 2 * ix p3) 1) then ob (f_X6_hasRow p2 p5 (rs [64 + 2 * ix p1, 64 + 2 * ix p1 + 1] s0)) (fun v9 => (if v9 = 0 then ob2 (f_X9_finding (2 : Int32) s0) (fun v10 s11 => some (v10, s11)) else ob (f_X6_hasRow p4 p5 (rs [64 + 2 * ix p3, 64 + 2 * ix p3 + 1] s0)) (fun v12 => (if v12 = 0 then ob2 (f_X9_finding (2 : Int32) s0) (fun v15 s16 => some (v15, s16)) else gu ((¬ p2 < 0 ∧ ¬ p4 < 0 ∧ ¬ p5 < 0) ∧ ix p2 + ix p5 ≤ 60 ∧ ix p4 + ix p5 ≤ 60) (lb (ur s0 (64 + 2 * ix p3 + 1) (va_cpy (s0 (64 + 2 * ix p1 + 1)) (s0 (64 + 2 * ix p3 + 1)) (ix p2) (ix p4) (ix p5))) (fun s14 => some ((1 : Int32), s14))))))) else ob2 (f_X9_finding (4 : Int32) s0) (fun v17 s18 => some (v17, s18))) else ob2 (f_X9_finding (1 : Int32) s0) (fun v19 s20 => some (v19, s20)))) else ob2 (f_X9_finding (1 : Int32) s0) (fun v6 s7 => some (v6, s7))))))))))
set_option maxRecDepth 100000 in
set_option maxHeartbeats 4000000 in
theorem c_X9_copy (p1 : Int32) (p2 : Int32) (p3 : Int32) (p4 : Int32) (p5 : Int32) (s0 : sh_S) (r : Int32) (s9x : sh_S) (hf : f_X9_copy p1 p2 p3 p4 p5 s0 = some (r, s9x)) : Ctr yX9_copy cX9_copy 8 (some .int) ({ frames := 2, cells := 0, slots := 0, locals := 60 } : Room) shX [.ref 73, .int p1, .int p2, .int p3, .int p4, .int p5] s0 (some (.int r)) s9x := by
  refine Ctr.mk (ri := .ireturn) (by decide) (Nat.le_of_ble_eq_true rfl) (Rt_i r) ?_
  intro G h hL hR hret
  refine k_drop (lv' := [(0, .ref 73), (1, .int p1), (2, .int p2), (3, .int p3), (4, .int p4), (5, .int p5)]) [0, 1, 2, 3, 4, 5] rfl ?_
  unfold f_X9_copy at hf
  refine k_iload_n (pc := 0) h dX9_copy_0 rfl 1 rfl ?_
  obtain ⟨v1, cv1, hf⟩ := ob_s hf
  refine k_callSp (pc := 1) h cs_RX9_94 (c_X9_isSheet p1 _ v1 cv1) rfl rfl (st1 := [.int v1]) rfl ⟨rfl, rfl⟩ (rk hR (Nat.le_of_ble_eq_true rfl) (Nat.le_of_ble_eq_true rfl)) (Nat.le_of_ble_eq_true rfl) dX9_copy_1 ?_
  refine k_if_eq (pc := 4) (tgt := 14) h dX9_copy_4 rfl (fun hc => ?_) (fun hc => ?_)
  · have hf := it_p hc hf
    refine k_bipush (pc := 14) h dX9_copy_14 kc_bipush_m2 ?_
    obtain ⟨rfl, rfl⟩ := so2 hf
    exact hret 16 _ dX9_copy_16 trivial
  · have hf := it_n hc hf
    refine k_iload_n (pc := 7) h dX9_copy_7 rfl 3 rfl ?_
    obtain ⟨v2, cv2, hf⟩ := ob_s hf
    refine k_callSp (pc := 8) h cs_RX9_94 (c_X9_isSheet p3 _ v2 cv2) rfl rfl (st1 := [.int v2]) rfl ⟨rfl, rfl⟩ (rk hR (Nat.le_of_ble_eq_true rfl) (Nat.le_of_ble_eq_true rfl)) (Nat.le_of_ble_eq_true rfl) dX9_copy_8 ?_
    refine k_if_ne (pc := 11) (tgt := 17) h dX9_copy_11 rfl (fun hc => ?_) (fun hc => ?_)
    · have hf := it_n hc hf
      refine k_aload_n (pc := 17) h dX9_copy_17 rfl 0 rfl ?_
      refine k_getR (pc := 18) h fl_RX9_50 rfl rfl dX9_copy_18 ?_
      refine k_iload_n (pc := 21) h dX9_copy_21 rfl 1 rfl ?_
      obtain ⟨g3, hf⟩ := gu_s hf
      have jg3 : ix p1 < 4 := inb_lt g3
      refine k_aald (pc := 22) (k' := 64 + 2 * ix p1) h rfl g3 (sh_refs jg3) dX9_copy_22 ?_
      refine k_astore (pc := 23) h dX9_copy_23 (nk hL (by decide)) (lv' := [(0, .ref 73), (1, .int p1), (2, .int p2), (3, .int p3), (4, .int p4), (5, .int p5), (6, .ref (64 + 2 * ix p1))]) rfl ?_
      refine k_aload_n (pc := 25) h dX9_copy_25 rfl 0 rfl ?_
      refine k_getR (pc := 26) h fl_RX9_50 rfl rfl dX9_copy_26 ?_
      refine k_iload_n (pc := 29) h dX9_copy_29 rfl 3 rfl ?_
      obtain ⟨g4, hf⟩ := gu_s hf
      have jg4 : ix p3 < 4 := inb_lt g4
      refine k_aald (pc := 30) (k' := 64 + 2 * ix p3) h rfl g4 (sh_refs jg4) dX9_copy_30 ?_
      refine k_astore (pc := 31) h dX9_copy_31 (nk hL (by decide)) (lv' := [(0, .ref 73), (1, .int p1), (2, .int p2), (3, .int p3), (4, .int p4), (5, .int p5), (6, .ref (64 + 2 * ix p1)), (7, .ref (64 + 2 * ix p3))]) rfl ?_
      refine k_aload (pc := 33) h dX9_copy_33 6 rfl ?_
      obtain ⟨v5, cv5, hf⟩ := ob_s hf
      refine k_callVe (pc := 35) (em := [64 + 2 * ix p1, 64 + 2 * ix p1 + 1]) h cv_RX9_97 (c_X6_isLost  (rs [64 + 2 * ix p1, 64 + 2 * ix p1 + 1] s0) v5 cv5) (emb_SH jg3) (sh_sheet jg3) rfl rfl (st1 := [.int v5]) rfl ⟨rfl, rfl⟩ (rk hR (Nat.le_of_ble_eq_true rfl) (Nat.le_of_ble_eq_true rfl)) (Nat.le_of_ble_eq_true rfl) dX9_copy_35 (mg_rs [64 + 2 * ix p1, 64 + 2 * ix p1 + 1] s0) ?_
      refine k_if_ne (pc := 38) (tgt := 49) h dX9_copy_38 rfl (fun hc => ?_) (fun hc => ?_)
      · have hf := it_n hc hf
        refine k_aload_n (pc := 49) h dX9_copy_49 rfl 0 rfl ?_
        refine k_iconst (pc := 50) h dX9_copy_50 kc_iconst_1 ?_
        obtain ⟨v6, s7, cv6, hf⟩ := ob2_s hf
        refine k_callV0 (pc := 51) h cv_RX9_101 (c_X9_finding (1 : Int32) s0 v6 s7 cv6) rfl rfl rfl (st1 := [.int v6]) rfl ⟨rfl, rfl⟩ (rk hR (Nat.le_of_ble_eq_true rfl) (Nat.le_of_ble_eq_true rfl)) (Nat.le_of_ble_eq_true rfl) dX9_copy_51 ?_
        obtain ⟨rfl, rfl⟩ := so2 hf
        exact hret 54 _ dX9_copy_54 trivial
      · have hf := it_p hc hf
        refine k_aload (pc := 41) h dX9_copy_41 7 rfl ?_
        obtain ⟨v8, cv8, hf⟩ := ob_s hf
        refine k_callVe (pc := 43) (em := [64 + 2 * ix p3, 64 + 2 * ix p3 + 1]) h cv_RX9_97 (c_X6_isLost  (rs [64 + 2 * ix p3, 64 + 2 * ix p3 + 1] s0) v8 cv8) (emb_SH jg4) (sh_sheet jg4) rfl rfl (st1 := [.int v8]) rfl ⟨rfl, rfl⟩ (rk hR (Nat.le_of_ble_eq_true rfl) (Nat.le_of_ble_eq_true rfl)) (Nat.le_of_ble_eq_true rfl) dX9_copy_43 (mg_rs [64 + 2 * ix p3, 64 + 2 * ix p3 + 1] s0) ?_
        refine k_if_eq (pc := 46) (tgt := 55) h dX9_copy_46 rfl (fun hc => ?_) (fun hc => ?_)
        · have hf := it_p hc hf
          refine k_aload (pc := 55) h dX9_copy_55 6 rfl ?_
          refine k_getI (pc := 57) h fl_RX9_241 (sh_sheet jg3) rfl dX9_copy_57 ?_
          refine k_aload (pc := 60) h dX9_copy_60 7 rfl ?_
          refine k_getI (pc := 62) h fl_RX9_241 (sh_sheet jg4) rfl dX9_copy_62 ?_
          refine k_icmp_eq (pc := 65) (tgt := 74) h dX9_copy_65 rfl (fun hc => ?_) (fun hc => ?_)
          · have hf := it_p hc hf
            refine k_aload (pc := 74) h dX9_copy_74 6 rfl ?_
            refine k_iload_n (pc := 76) h dX9_copy_76 rfl 2 rfl ?_
            refine k_iload (pc := 77) h dX9_copy_77 5 rfl ?_
            obtain ⟨v9, cv9, hf⟩ := ob_s hf
            refine k_callVe (pc := 79) (em := [64 + 2 * ix p1, 64 + 2 * ix p1 + 1]) h cv_RX9_244 (c_X6_hasRow p2 p5 (rs [64 + 2 * ix p1, 64 + 2 * ix p1 + 1] s0) v9 cv9) (emb_SH jg3) (sh_sheet jg3) rfl rfl (st1 := [.int v9]) rfl ⟨rfl, rfl⟩ (rk hR (Nat.le_of_ble_eq_true rfl) (Nat.le_of_ble_eq_true rfl)) (Nat.le_of_ble_eq_true rfl) dX9_copy_79 (mg_rs [64 + 2 * ix p1, 64 + 2 * ix p1 + 1] s0) ?_
            refine k_if_eq (pc := 82) (tgt := 97) h dX9_copy_82 rfl (fun hc => ?_) (fun hc => ?_)
            · have hf := it_p hc hf
              refine k_aload_n (pc := 97) h dX9_copy_97 rfl 0 rfl ?_
              refine k_iconst (pc := 98) h dX9_copy_98 kc_iconst_2 ?_
              obtain ⟨v10, s11, cv10, hf⟩ := ob2_s hf
              refine k_callV0 (pc := 99) h cv_RX9_101 (c_X9_finding (2 : Int32) s0 v10 s11 cv10) rfl rfl rfl (st1 := [.int v10]) rfl ⟨rfl, rfl⟩ (rk hR (Nat.le_of_ble_eq_true rfl) (Nat.le_of_ble_eq_true rfl)) (Nat.le_of_ble_eq_true rfl) dX9_copy_99 ?_
              obtain ⟨rfl, rfl⟩ := so2 hf
              exact hret 102 _ dX9_copy_102 trivial
            · have hf := it_n hc hf
              refine k_aload (pc := 85) h dX9_copy_85 7 rfl ?_
              refine k_iload (pc := 87) h dX9_copy_87 4 rfl ?_
              refine k_iload (pc := 89) h dX9_copy_89 5 rfl ?_
              obtain ⟨v12, cv12, hf⟩ := ob_s hf
              refine k_callVe (pc := 91) (em := [64 + 2 * ix p3, 64 + 2 * ix p3 + 1]) h cv_RX9_244 (c_X6_hasRow p4 p5 (rs [64 + 2 * ix p3, 64 + 2 * ix p3 + 1] s0) v12 cv12) (emb_SH jg4) (sh_sheet jg4) rfl rfl (st1 := [.int v12]) rfl ⟨rfl, rfl⟩ (rk hR (Nat.le_of_ble_eq_true rfl) (Nat.le_of_ble_eq_true rfl)) (Nat.le_of_ble_eq_true rfl) dX9_copy_91 (mg_rs [64 + 2 * ix p3, 64 + 2 * ix p3 + 1] s0) ?_
              refine k_if_ne (pc := 94) (tgt := 103) h dX9_copy_94 rfl (fun hc => ?_) (fun hc => ?_)
              · have hf := it_n hc hf
                refine k_aload (pc := 103) h dX9_copy_103 6 rfl ?_
                refine k_getR (pc := 105) h fl_RX9_106 (sh_sheet jg3) rfl dX9_copy_105 ?_
                refine k_iload_n (pc := 108) h dX9_copy_108 rfl 2 rfl ?_
                refine k_aload (pc := 109) h dX9_copy_109 7 rfl ?_
                refine k_getR (pc := 111) h fl_RX9_106 (sh_sheet jg4) rfl dX9_copy_111 ?_
                refine k_iload (pc := 114) h dX9_copy_114 4 rfl ?_
                refine k_iload (pc := 116) h dX9_copy_116 5 rfl ?_
                obtain ⟨g13, hf⟩ := gu_s hf
                obtain ⟨s14, es14, hf⟩ := lb_s hf
                refine k_acopy (pc := 118) h (sh_items jg3) (sh_items jg4) ⟨wd_903, wd_644, wd_643, wd_99⟩ g13 (rk hR (Nat.le_of_ble_eq_true rfl) (by decide +kernel)) (Nat.le_of_ble_eq_true rfl) dX9_copy_118 ?_
                refine k_heap es14 ?_
                refine k_iconst (pc := 121) h dX9_copy_121 kc_iconst_1 ?_
                obtain ⟨rfl, rfl⟩ := so2 hf
                exact hret 122 _ dX9_copy_122 trivial
              · have hf := it_p hc hf
                refine k_aload_n (pc := 97) h dX9_copy_97 rfl 0 rfl ?_
                refine k_iconst (pc := 98) h dX9_copy_98 kc_iconst_2 ?_
                obtain ⟨v15, s16, cv15, hf⟩ := ob2_s hf
                refine k_callV0 (pc := 99) h cv_RX9_101 (c_X9_finding (2 : Int32) s0 v15 s16 cv15) rfl rfl rfl (st1 := [.int v15]) rfl ⟨rfl, rfl⟩ (rk hR (Nat.le_of_ble_eq_true rfl) (Nat.le_of_ble_eq_true rfl)) (Nat.le_of_ble_eq_true rfl) dX9_copy_99 ?_
                obtain ⟨rfl, rfl⟩ := so2 hf
                exact hret 102 _ dX9_copy_102 trivial
          · have hf := it_n hc hf
            refine k_aload_n (pc := 68) h dX9_copy_68 rfl 0 rfl ?_
            refine k_iconst (pc := 69) h dX9_copy_69 kc_iconst_4 ?_
            obtain ⟨v17, s18, cv17, hf⟩ := ob2_s hf
            refine k_callV0 (pc := 70) h cv_RX9_101 (c_X9_finding (4 : Int32) s0 v17 s18 cv17) rfl rfl rfl (st1 := [.int v17]) rfl ⟨rfl, rfl⟩ (rk hR (Nat.le_of_ble_eq_true rfl) (Nat.le_of_ble_eq_true rfl)) (Nat.le_of_ble_eq_true rfl) dX9_copy_70 ?_
            obtain ⟨rfl, rfl⟩ := so2 hf
            exact hret 73 _ dX9_copy_73 trivial
        · have hf := it_n hc hf
          refine k_aload_n (pc := 49) h dX9_copy_49 rfl 0 rfl ?_
          refine k_iconst (pc := 50) h dX9_copy_50 kc_iconst_1 ?_
          obtain ⟨v19, s20, cv19, hf⟩ := ob2_s hf
          refine k_callV0 (pc := 51) h cv_RX9_101 (c_X9_finding (1 : Int32) s0 v19 s20 cv19) rfl rfl rfl (st1 := [.int v19]) rfl ⟨rfl, rfl⟩ (rk hR (Nat.le_of_ble_eq_true rfl) (Nat.le_of_ble_eq_true rfl)) (Nat.le_of_ble_eq_true rfl) dX9_copy_51 ?_
          obtain ⟨rfl, rfl⟩ := so2 hf
          exact hret 54 _ dX9_copy_54 trivial
    · have hf := it_p hc hf
      refine k_bipush (pc := 14) h dX9_copy_14 kc_bipush_m2 ?_
      obtain ⟨rfl, rfl⟩ := so2 hf
      exact hret 16 _ dX9_copy_16 trivial
theorem dX9_write_0 : decode cX9_write 0 = .ok (.iload_n 1, 1) := by decide +kernel
theorem dX9_write_1 : decode cX9_write 1 = .ok (.invokestatic 94, 3) := by decide +kernel
theorem dX9_write_4 : decode cX9_write 4 = .ok (.ifCond .ne 6, 3) := by decide +kernel
theorem dX9_write_7 : decode cX9_write 7 = .ok (.bipush (-2), 2) := by decide +kernel
theorem dX9_write_9 : decode cX9_write 9 = .ok (.ireturn, 1) := by decide +kernel
theorem dX9_write_10 : decode cX9_write 10 = .ok (.aload_n 0, 1) := by decide +kernel
theorem dX9_write_11 : decode cX9_write 11 = .ok (.getfield 50, 3) := by decide +kernel
theorem dX9_write_14 : decode cX9_write 14 = .ok (.iload_n 1, 1) := by decide +kernel
theorem dX9_write_15 : decode cX9_write 15 = .ok (.aaload, 1) := by decide +kernel
theorem dX9_write_16 : decode cX9_write 16 = .ok (.astore_n 2, 1) := by decide +kernel
theorem dX9_write_17 : decode cX9_write 17 = .ok (.aload_n 2, 1) := by decide +kernel
theorem dX9_write_18 : decode cX9_write 18 = .ok (.invokevirtual 97, 3) := by decide +kernel
theorem dX9_write_21 : decode cX9_write 21 = .ok (.ifCond .eq 9, 3) := by decide +kernel
theorem dX9_write_24 : decode cX9_write 24 = .ok (.aload_n 0, 1) := by decide +kernel
theorem dX9_write_25 : decode cX9_write 25 = .ok (.iconst 1, 1) := by decide +kernel
theorem dX9_write_26 : decode cX9_write 26 = .ok (.invokevirtual 101, 3) := by decide +kernel
theorem dX9_write_29 : decode cX9_write 29 = .ok (.ireturn, 1) := by decide +kernel
theorem dX9_write_30 : decode cX9_write 30 = .ok (.aload_n 2, 1) := by decide +kernel
theorem dX9_write_31 : decode cX9_write 31 = .ok (.getfield 105, 3) := by decide +kernel
theorem dX9_write_34 : decode cX9_write 34 = .ok (.aload_n 0, 1) := by decide +kernel
theorem dX9_write_35 : decode cX9_write 35 = .ok (.getfield 21, 3) := by decide +kernel
theorem dX9_write_38 : decode cX9_write 38 = .ok (.invokevirtual 120, 3) := by decide +kernel
theorem dX9_write_41 : decode cX9_write 41 = .ok (.getfield 174, 3) := by decide +kernel
theorem dX9_write_44 : decode cX9_write 44 = .ok (.getfield 178, 3) := by decide +kernel
theorem dX9_write_47 : decode cX9_write 47 = .ok (.invokestatic 253, 3) := by decide +kernel
theorem dX9_write_50 : decode cX9_write 50 = .ok (.istore_n 3, 1) := by decide +kernel
theorem dX9_write_51 : decode cX9_write 51 = .ok (.iconst 0, 1) := by decide +kernel
theorem dX9_write_52 : decode cX9_write 52 = .ok (.istore 4, 2) := by decide +kernel
theorem dX9_write_54 : decode cX9_write 54 = .ok (.iload 4, 2) := by decide +kernel
theorem dX9_write_56 : decode cX9_write 56 = .ok (.iload_n 3, 1) := by decide +kernel
theorem dX9_write_57 : decode cX9_write 57 = .ok (.if_icmp .ge 28, 3) := by decide +kernel
theorem dX9_write_60 : decode cX9_write 60 = .ok (.aload_n 2, 1) := by decide +kernel
theorem dX9_write_61 : decode cX9_write 61 = .ok (.iload 4, 2) := by decide +kernel
theorem dX9_write_63 : decode cX9_write 63 = .ok (.aload_n 0, 1) := by decide +kernel
theorem dX9_write_64 : decode cX9_write 64 = .ok (.getfield 21, 3) := by decide +kernel
theorem dX9_write_67 : decode cX9_write 67 = .ok (.getfield 174, 3) := by decide +kernel
theorem dX9_write_70 : decode cX9_write 70 = .ok (.iload 4, 2) := by decide +kernel
theorem dX9_write_72 : decode cX9_write 72 = .ok (.iconst 0, 1) := by decide +kernel
theorem dX9_write_73 : decode cX9_write 73 = .ok (.invokevirtual 183, 3) := by decide +kernel
theorem dX9_write_76 : decode cX9_write 76 = .ok (.invokevirtual 237, 3) := by decide +kernel
theorem dX9_write_79 : decode cX9_write 79 = .ok (.iinc 4 1, 3) := by decide +kernel
theorem dX9_write_82 : decode cX9_write 82 = .ok (.goto (-28), 3) := by decide +kernel
theorem dX9_write_85 : decode cX9_write 85 = .ok (.iload_n 3, 1) := by decide +kernel
theorem dX9_write_86 : decode cX9_write 86 = .ok (.ireturn, 1) := by decide +kernel
def f_X9_write_L54 (p1 : Int32) (v6 : Int32) (v7 : Int32) (s8 : sh_S) : Option ((Int32 × sh_S) ⊕ (sh_S)) := (if v6 ≤ v7 then some (.inr s8) else ob (f_X1_tell v7 (0 : Int32) (rs em_CK s8)) (fun v10 => ob (f_X6_enter v7 v10 (rs [64 + 2 * ix p1, 64 + 2 * ix p1 + 1] s8)) (fun s11 => lb (mg [64 + 2 * ix p1, 64 + 2 * ix p1 + 1] 0 s8 s11) (fun s12 => lb (v7 + (1 : Int32)) (fun v13 => some (.inl (v13, s12)))))))
def f_X9_write (p1 : Int32) (s0 : sh_S) : Option (Int32 × sh_S) := ob (f_X9_isSheet p1) (fun v1 => (if v1 = 0 then some ((-2 : Int32), s0) else gu (inb p1 4) (ob (f_X6_isLost  (rs [64 + 2 * ix p1, 64 + 2 * ix p1 + 1] s0)) (fun v3 => (if v3 = 0 then ob (f_X0_examine  (rs em_CK s0)) (fun s4 => lb (mg em_CK 0 s0 s4) (fun s5 => lb ((if (s5 29 2) < (s0 (64 + 2 * ix p1) 2) then (s5 29 2) else (s0 (64 + 2 * ix p1) 2))) (fun v6 => ob (lp (fun q => f_X9_write_L54 p1 v6 q.1 q.2) FU ((0 : Int32), s5)) (fun s9 => some (v6, s9))))) else ob2 (f_X9_finding (1 : Int32) s0) (fun v14 s15 => some (v14, s15)))))))
set_option maxRecDepth 100000 in
set_option maxHeartbeats 4000000 in
theorem c_X9_write (p1 : Int32) (s0 : sh_S) (r : Int32) (s9x : sh_S) (hf : f_X9_write p1 s0 = some (r, s9x)) : Ctr yX9_write cX9_write 5 (some .int) ({ frames := 4, cells := 0, slots := 0, locals := 129 } : Room) shX [.ref 73, .int p1] s0 (some (.int r)) s9x := by
  refine Ctr.mk (ri := .ireturn) (by decide) (Nat.le_of_ble_eq_true rfl) (Rt_i r) ?_
  intro G h hL hR hret
  refine k_drop (lv' := [(0, .ref 73), (1, .int p1)]) [0, 1] rfl ?_
  unfold f_X9_write at hf
  refine k_iload_n (pc := 0) h dX9_write_0 rfl 1 rfl ?_
  obtain ⟨v1, cv1, hf⟩ := ob_s hf
  refine k_callSp (pc := 1) h cs_RX9_94 (c_X9_isSheet p1 _ v1 cv1) rfl rfl (st1 := [.int v1]) rfl ⟨rfl, rfl⟩ (rk hR (Nat.le_of_ble_eq_true rfl) (Nat.le_of_ble_eq_true rfl)) (Nat.le_of_ble_eq_true rfl) dX9_write_1 ?_
  refine k_if_ne (pc := 4) (tgt := 10) h dX9_write_4 rfl (fun hc => ?_) (fun hc => ?_)
  · have hf := it_n hc hf
    refine k_aload_n (pc := 10) h dX9_write_10 rfl 0 rfl ?_
    refine k_getR (pc := 11) h fl_RX9_50 rfl rfl dX9_write_11 ?_
    refine k_iload_n (pc := 14) h dX9_write_14 rfl 1 rfl ?_
    obtain ⟨g2, hf⟩ := gu_s hf
    have jg2 : ix p1 < 4 := inb_lt g2
    refine k_aald (pc := 15) (k' := 64 + 2 * ix p1) h rfl g2 (sh_refs jg2) dX9_write_15 ?_
    refine k_astore_n (pc := 16) h dX9_write_16 rfl (nk hL (by decide)) (lv' := [(0, .ref 73), (1, .int p1), (2, .ref (64 + 2 * ix p1))]) rfl ?_
    refine k_aload_n (pc := 17) h dX9_write_17 rfl 2 rfl ?_
    obtain ⟨v3, cv3, hf⟩ := ob_s hf
    refine k_callVe (pc := 18) (em := [64 + 2 * ix p1, 64 + 2 * ix p1 + 1]) h cv_RX9_97 (c_X6_isLost  (rs [64 + 2 * ix p1, 64 + 2 * ix p1 + 1] s0) v3 cv3) (emb_SH jg2) (sh_sheet jg2) rfl rfl (st1 := [.int v3]) rfl ⟨rfl, rfl⟩ (rk hR (Nat.le_of_ble_eq_true rfl) (Nat.le_of_ble_eq_true rfl)) (Nat.le_of_ble_eq_true rfl) dX9_write_18 (mg_rs [64 + 2 * ix p1, 64 + 2 * ix p1 + 1] s0) ?_
    refine k_if_eq (pc := 21) (tgt := 30) h dX9_write_21 rfl (fun hc => ?_) (fun hc => ?_)
    · have hf := it_p hc hf
      refine k_aload_n (pc := 30) h dX9_write_30 rfl 2 rfl ?_
      refine k_getI (pc := 31) h fl_RX9_105 (sh_sheet jg2) rfl dX9_write_31 ?_
      refine k_aload_n (pc := 34) h dX9_write_34 rfl 0 rfl ?_
      refine k_getR (pc := 35) h fl_RX9_21 rfl rfl dX9_write_35 ?_
      obtain ⟨s4, cs4, hf⟩ := ob_s hf
      obtain ⟨s5, es5, hf⟩ := lb_s hf
      refine k_callVe (pc := 38) (em := em_CK) h cv_RX9_120 (c_X0_examine  (rs em_CK s0) s4 cs4) emb_CK_X rfl rfl rfl (st1 := [.ref 10, .int (s0 (64 + 2 * ix p1) 2)]) rfl ⟨rfl, rfl⟩ (rk hR (Nat.le_of_ble_eq_true rfl) (Nat.le_of_ble_eq_true rfl)) (Nat.le_of_ble_eq_true rfl) dX9_write_38 es5 ?_
      refine k_getR (pc := 41) h fl_RX9_174 rfl rfl dX9_write_41 ?_
      refine k_getI (pc := 44) h fl_RX9_178 rfl rfl dX9_write_44 ?_
      refine k_min (pc := 47) h ⟨wd_908_m, wd_775_m, wd_101_m, wd_776_m⟩ (rk hR (Nat.le_of_ble_eq_true rfl) (Nat.le_of_ble_eq_true rfl)) (Nat.le_of_ble_eq_true rfl) dX9_write_47 ?_
      obtain ⟨v6, ev6, hf⟩ := lb_s hf
      refine k_top ev6 ?_
      refine k_istore_n (pc := 50) h dX9_write_50 rfl (nk hL (by decide)) (lv' := [(0, .ref 73), (1, .int p1), (2, .ref (64 + 2 * ix p1)), (3, .int v6)]) rfl ?_
      refine k_iconst (pc := 51) h dX9_write_51 kc_iconst_0 ?_
      refine k_istore (pc := 52) h dX9_write_52 (nk hL (by decide)) (lv' := [(0, .ref 73), (1, .int p1), (2, .ref (64 + 2 * ix p1)), (3, .int v6), (4, .int (0 : Int32))]) rfl ?_
      obtain ⟨s9, hl, hf⟩ := ob_s hf
      refine k_drop (lv' := [(0, .ref 73), (2, .ref (64 + 2 * ix p1)), (3, .int v6), (4, .int (0 : Int32))]) [0, 2, 3, 4] rfl ?_
      refine lp_s (P := (fun q : Int32 × sh_S => sh_K G shX 54 [(0, .ref 73), (2, .ref (64 + 2 * ix p1)), (3, .int v6), (4, .int q.1)] [] q.2)) (Q := (fun q : sh_S => sh_K G shX 85 [(3, .int v6)] [] q)) (s := ((0 : Int32), s5)) ?_ hl ?_
      · clear hf hl
        intro q rr hf kc54
        obtain ⟨v7, s8⟩ := q
        have hf : f_X9_write_L54 p1 v6 v7 s8 = some rr := hf
        unfold f_X9_write_L54 at hf
        refine k_iload (pc := 54) h dX9_write_54 3 rfl ?_
        refine k_iload_n (pc := 56) h dX9_write_56 rfl 2 rfl ?_
        refine k_icmp_ge (pc := 57) (tgt := 85) h dX9_write_57 rfl (fun hc => ?_) (fun hc => ?_)
        · have hf := it_p hc hf
          obtain rfl := so1 hf
          exact k_drop [2] rfl kc54
        · have hf := it_n hc hf
          refine k_aload_n (pc := 60) h dX9_write_60 rfl 1 rfl ?_
          refine k_iload (pc := 61) h dX9_write_61 3 rfl ?_
          refine k_aload_n (pc := 63) h dX9_write_63 rfl 0 rfl ?_
          refine k_getR (pc := 64) h fl_RX9_21 rfl rfl dX9_write_64 ?_
          refine k_getR (pc := 67) h fl_RX9_174 rfl rfl dX9_write_67 ?_
          refine k_iload (pc := 70) h dX9_write_70 3 rfl ?_
          refine k_iconst (pc := 72) h dX9_write_72 kc_iconst_0 ?_
          obtain ⟨v10, cv10, hf⟩ := ob_s hf
          refine k_callVe (pc := 73) (em := em_CK) h cv_RX9_183 (c_X1_tell v7 (0 : Int32) (rs em_CK s8) v10 cv10) emb_CK_X rfl rfl rfl (st1 := [.int v10, .int v7, .ref (64 + 2 * ix p1)]) rfl ⟨rfl, rfl⟩ (rk hR (Nat.le_of_ble_eq_true rfl) (Nat.le_of_ble_eq_true rfl)) (Nat.le_of_ble_eq_true rfl) dX9_write_73 (mg_rs em_CK s8) ?_
          obtain ⟨s11, cs11, hf⟩ := ob_s hf
          obtain ⟨s12, es12, hf⟩ := lb_s hf
          refine k_callVe (pc := 76) (em := [64 + 2 * ix p1, 64 + 2 * ix p1 + 1]) h cv_RX9_237 (c_X6_enter v7 v10 (rs [64 + 2 * ix p1, 64 + 2 * ix p1 + 1] s8) s11 cs11) (emb_SH jg2) (sh_sheet jg2) rfl rfl (st1 := []) rfl ⟨rfl, rfl⟩ (rk hR (Nat.le_of_ble_eq_true rfl) (Nat.le_of_ble_eq_true rfl)) (Nat.le_of_ble_eq_true rfl) dX9_write_76 es12 ?_
          obtain ⟨v13, ev13, hf⟩ := lb_s hf
          refine k_iinc (pc := 79) h dX9_write_79 3 rfl ((congrArg (_ + ·) kc_iconst_1).trans ev13.symm) (nk hL (by decide)) (lv' := [(0, .ref 73), (2, .ref (64 + 2 * ix p1)), (3, .int v6), (4, .int v13)]) rfl ?_
          refine k_goto (pc := 82) (tgt := 54) h dX9_write_82 rfl ?_
          obtain rfl := so1 hf
          exact k_drop [0, 1, 2, 3] rfl kc54
      · refine k_iload_n (pc := 85) h dX9_write_85 rfl 0 rfl ?_
        obtain ⟨rfl, rfl⟩ := so2 hf
        exact hret 86 _ dX9_write_86 trivial
    · have hf := it_n hc hf
      refine k_aload_n (pc := 24) h dX9_write_24 rfl 0 rfl ?_
      refine k_iconst (pc := 25) h dX9_write_25 kc_iconst_1 ?_
      obtain ⟨v14, s15, cv14, hf⟩ := ob2_s hf
      refine k_callV0 (pc := 26) h cv_RX9_101 (c_X9_finding (1 : Int32) s0 v14 s15 cv14) rfl rfl rfl (st1 := [.int v14]) rfl ⟨rfl, rfl⟩ (rk hR (Nat.le_of_ble_eq_true rfl) (Nat.le_of_ble_eq_true rfl)) (Nat.le_of_ble_eq_true rfl) dX9_write_26 ?_
      obtain ⟨rfl, rfl⟩ := so2 hf
      exact hret 29 _ dX9_write_29 trivial
  · have hf := it_p hc hf
    refine k_bipush (pc := 7) h dX9_write_7 kc_bipush_m2 ?_
    obtain ⟨rfl, rfl⟩ := so2 hf
    exact hret 9 _ dX9_write_9 trivial
theorem dX9_count_0 : decode cX9_count 0 = .ok (.iload_n 1, 1) := by decide +kernel
theorem dX9_count_1 : decode cX9_count 1 = .ok (.tableswitch 129 0 8 #[51, 59, 76, 93, 107, 107, 107, 107, 124], 51) := by decide +kernel
theorem dX9_count_52 : decode cX9_count 52 = .ok (.aload_n 0, 1) := by decide +kernel
theorem dX9_count_53 : decode cX9_count 53 = .ok (.getfield 12, 3) := by decide +kernel
theorem dX9_count_56 : decode cX9_count 56 = .ok (.getfield 63, 3) := by decide +kernel
theorem dX9_count_59 : decode cX9_count 59 = .ok (.ireturn, 1) := by decide +kernel
theorem dX9_count_60 : decode cX9_count 60 = .ok (.aload_n 0, 1) := by decide +kernel
theorem dX9_count_61 : decode cX9_count 61 = .ok (.getfield 21, 3) := by decide +kernel
theorem dX9_count_64 : decode cX9_count 64 = .ok (.invokevirtual 120, 3) := by decide +kernel
theorem dX9_count_67 : decode cX9_count 67 = .ok (.getfield 124, 3) := by decide +kernel
theorem dX9_count_70 : decode cX9_count 70 = .ok (.getfield 139, 3) := by decide +kernel
theorem dX9_count_73 : decode cX9_count 73 = .ok (.invokestatic 258, 3) := by decide +kernel
theorem dX9_count_76 : decode cX9_count 76 = .ok (.ireturn, 1) := by decide +kernel
theorem dX9_count_77 : decode cX9_count 77 = .ok (.aload_n 0, 1) := by decide +kernel
theorem dX9_count_78 : decode cX9_count 78 = .ok (.getfield 21, 3) := by decide +kernel
theorem dX9_count_81 : decode cX9_count 81 = .ok (.invokevirtual 120, 3) := by decide +kernel
theorem dX9_count_84 : decode cX9_count 84 = .ok (.getfield 148, 3) := by decide +kernel
theorem dX9_count_87 : decode cX9_count 87 = .ok (.getfield 157, 3) := by decide +kernel
theorem dX9_count_90 : decode cX9_count 90 = .ok (.invokestatic 258, 3) := by decide +kernel
theorem dX9_count_93 : decode cX9_count 93 = .ok (.ireturn, 1) := by decide +kernel
theorem dX9_count_94 : decode cX9_count 94 = .ok (.aload_n 0, 1) := by decide +kernel
theorem dX9_count_95 : decode cX9_count 95 = .ok (.getfield 21, 3) := by decide +kernel
theorem dX9_count_98 : decode cX9_count 98 = .ok (.invokevirtual 120, 3) := by decide +kernel
theorem dX9_count_101 : decode cX9_count 101 = .ok (.getfield 174, 3) := by decide +kernel
theorem dX9_count_104 : decode cX9_count 104 = .ok (.getfield 178, 3) := by decide +kernel
theorem dX9_count_107 : decode cX9_count 107 = .ok (.ireturn, 1) := by decide +kernel
theorem dX9_count_108 : decode cX9_count 108 = .ok (.aload_n 0, 1) := by decide +kernel
theorem dX9_count_109 : decode cX9_count 109 = .ok (.getfield 21, 3) := by decide +kernel
theorem dX9_count_112 : decode cX9_count 112 = .ok (.invokevirtual 120, 3) := by decide +kernel
theorem dX9_count_115 : decode cX9_count 115 = .ok (.getfield 174, 3) := by decide +kernel
theorem dX9_count_118 : decode cX9_count 118 = .ok (.iload_n 1, 1) := by decide +kernel
theorem dX9_count_119 : decode cX9_count 119 = .ok (.iconst 4, 1) := by decide +kernel
theorem dX9_count_120 : decode cX9_count 120 = .ok (.isub, 1) := by decide +kernel
theorem dX9_count_121 : decode cX9_count 121 = .ok (.invokevirtual 263, 3) := by decide +kernel
theorem dX9_count_124 : decode cX9_count 124 = .ok (.ireturn, 1) := by decide +kernel
theorem dX9_count_125 : decode cX9_count 125 = .ok (.aload_n 0, 1) := by decide +kernel
theorem dX9_count_126 : decode cX9_count 126 = .ok (.getfield 54, 3) := by decide +kernel
theorem dX9_count_129 : decode cX9_count 129 = .ok (.ireturn, 1) := by decide +kernel
theorem dX9_count_130 : decode cX9_count 130 = .ok (.bipush (-2), 2) := by decide +kernel
theorem dX9_count_132 : decode cX9_count 132 = .ok (.ireturn, 1) := by decide +kernel
def f_X9_count (p1 : Int32) (s0 : sh_S) : Option (Int32 × sh_S) := (if p1 = (0 : Int32) then some ((s0 0 9), s0) else if p1 = (1 : Int32) then ob (f_X0_examine  (rs em_CK s0)) (fun s1 => lb (mg em_CK 0 s0 s1) (fun s2 => ob (f_J6_bitCount_0f7a4 (s2 11 8)) (fun v3 => some (v3, s2)))) else if p1 = (2 : Int32) then ob (f_X0_examine  (rs em_CK s0)) (fun s4 => lb (mg em_CK 0 s0 s4) (fun s5 => ob (f_J6_bitCount_0f7a4 (s5 19 0)) (fun v6 => some (v6, s5)))) else if p1 = (3 : Int32) then ob (f_X0_examine  (rs em_CK s0)) (fun s7 => lb (mg em_CK 0 s0 s7) (fun s8 => some ((s8 29 2), s8))) else if p1 = (4 : Int32) then ob (f_X0_examine  (rs em_CK s0)) (fun s9 => lb (mg em_CK 0 s0 s9) (fun s10 => ob (f_X1_totalOf (p1 - (4 : Int32)) (rs em_CK s10)) (fun v11 => some (v11, s10)))) else if p1 = (5 : Int32) then ob (f_X0_examine  (rs em_CK s0)) (fun s12 => lb (mg em_CK 0 s0 s12) (fun s13 => ob (f_X1_totalOf (p1 - (4 : Int32)) (rs em_CK s13)) (fun v14 => some (v14, s13)))) else if p1 = (6 : Int32) then ob (f_X0_examine  (rs em_CK s0)) (fun s15 => lb (mg em_CK 0 s0 s15) (fun s16 => ob (f_X1_totalOf (p1 - (4 : Int32)) (rs em_CK s16)) (fun v17 => some (v17, s16)))) else if p1 = (7 : Int32) then ob (f_X0_examine  (rs em_CK s0)) (fun s18 => lb (mg em_CK 0 s0 s18) (fun s19 => ob (f_X1_totalOf (p1 - (4 : Int32)) (rs em_CK s19)) (fun v20 => some (v20, s19)))) else if p1 = (8 : Int32) then some ((s0 73 6), s0) else some ((-2 : Int32), s0))
set_option maxRecDepth 100000 in
set_option maxHeartbeats 4000000 in
theorem c_X9_count (p1 : Int32) (s0 : sh_S) (r : Int32) (s9x : sh_S) (hf : f_X9_count p1 s0 = some (r, s9x)) : Ctr yX9_count cX9_count 2 (some .int) ({ frames := 4, cells := 0, slots := 0, locals := 129 } : Room) shX [.ref 73, .int p1] s0 (some (.int r)) s9x := by
  refine Ctr.mk (ri := .ireturn) (by decide) (Nat.le_of_ble_eq_true rfl) (Rt_i r) ?_
  intro G h hL hR hret
  refine k_drop (lv' := [(0, .ref 73), (1, .int p1)]) [0, 1] rfl ?_
  unfold f_X9_count at hf
  refine k_iload_n (pc := 0) h dX9_count_0 rfl 1 rfl ?_
  by_cases hc0 : p1 = (0 : Int32)
  · have hf := it_p hc0 hf
    refine k_tabIn (pc := 1) (tgt := 52) h dX9_count_1 (by rw [hc0]; decide) (by rw [hc0]; decide) (by rw [hc0]; rfl) rfl ?_
    refine k_aload_n (pc := 52) h dX9_count_52 rfl 0 rfl ?_
    refine k_getR (pc := 53) h fl_RX9_12 rfl rfl dX9_count_53 ?_
    refine k_getI (pc := 56) h fl_RX9_63 rfl rfl dX9_count_56 ?_
    obtain ⟨rfl, rfl⟩ := so2 hf
    exact hret 59 _ dX9_count_59 trivial
  have hf := it_n hc0 hf
  by_cases hc1 : p1 = (1 : Int32)
  · have hf := it_p hc1 hf
    refine k_tabIn (pc := 1) (tgt := 60) h dX9_count_1 (by rw [hc1]; decide) (by rw [hc1]; decide) (by rw [hc1]; rfl) rfl ?_
    refine k_aload_n (pc := 60) h dX9_count_60 rfl 0 rfl ?_
    refine k_getR (pc := 61) h fl_RX9_21 rfl rfl dX9_count_61 ?_
    obtain ⟨s1, cs1, hf⟩ := ob_s hf
    obtain ⟨s2, es2, hf⟩ := lb_s hf
    refine k_callVe (pc := 64) (em := em_CK) h cv_RX9_120 (c_X0_examine  (rs em_CK s0) s1 cs1) emb_CK_X rfl rfl rfl (st1 := [.ref 10]) rfl ⟨rfl, rfl⟩ (rk hR (Nat.le_of_ble_eq_true rfl) (Nat.le_of_ble_eq_true rfl)) (Nat.le_of_ble_eq_true rfl) dX9_count_64 es2 ?_
    refine k_getR (pc := 67) h fl_RX9_124 rfl rfl dX9_count_67 ?_
    refine k_getI (pc := 70) h fl_RX9_139 rfl rfl dX9_count_70 ?_
    obtain ⟨v3, cv3, hf⟩ := ob_s hf
    refine k_callSp (pc := 73) h cs_RX9_258 (c_J6_bitCount_0f7a4 (s2 11 8) _ v3 cv3) rfl rfl (st1 := [.int v3]) rfl ⟨rfl, rfl⟩ (rk hR (Nat.le_of_ble_eq_true rfl) (Nat.le_of_ble_eq_true rfl)) (Nat.le_of_ble_eq_true rfl) dX9_count_73 ?_
    obtain ⟨rfl, rfl⟩ := so2 hf
    exact hret 76 _ dX9_count_76 trivial
  have hf := it_n hc1 hf
  by_cases hc2 : p1 = (2 : Int32)
  · have hf := it_p hc2 hf
    refine k_tabIn (pc := 1) (tgt := 77) h dX9_count_1 (by rw [hc2]; decide) (by rw [hc2]; decide) (by rw [hc2]; rfl) rfl ?_
    refine k_aload_n (pc := 77) h dX9_count_77 rfl 0 rfl ?_
    refine k_getR (pc := 78) h fl_RX9_21 rfl rfl dX9_count_78 ?_
    obtain ⟨s4, cs4, hf⟩ := ob_s hf
    obtain ⟨s5, es5, hf⟩ := lb_s hf
    refine k_callVe (pc := 81) (em := em_CK) h cv_RX9_120 (c_X0_examine  (rs em_CK s0) s4 cs4) emb_CK_X rfl rfl rfl (st1 := [.ref 10]) rfl ⟨rfl, rfl⟩ (rk hR (Nat.le_of_ble_eq_true rfl) (Nat.le_of_ble_eq_true rfl)) (Nat.le_of_ble_eq_true rfl) dX9_count_81 es5 ?_
    refine k_getR (pc := 84) h fl_RX9_148 rfl rfl dX9_count_84 ?_
    refine k_getI (pc := 87) h fl_RX9_157 rfl rfl dX9_count_87 ?_
    obtain ⟨v6, cv6, hf⟩ := ob_s hf
    refine k_callSp (pc := 90) h cs_RX9_258 (c_J6_bitCount_0f7a4 (s5 19 0) _ v6 cv6) rfl rfl (st1 := [.int v6]) rfl ⟨rfl, rfl⟩ (rk hR (Nat.le_of_ble_eq_true rfl) (Nat.le_of_ble_eq_true rfl)) (Nat.le_of_ble_eq_true rfl) dX9_count_90 ?_
    obtain ⟨rfl, rfl⟩ := so2 hf
    exact hret 93 _ dX9_count_93 trivial
  have hf := it_n hc2 hf
  by_cases hc3 : p1 = (3 : Int32)
  · have hf := it_p hc3 hf
    refine k_tabIn (pc := 1) (tgt := 94) h dX9_count_1 (by rw [hc3]; decide) (by rw [hc3]; decide) (by rw [hc3]; rfl) rfl ?_
    refine k_aload_n (pc := 94) h dX9_count_94 rfl 0 rfl ?_
    refine k_getR (pc := 95) h fl_RX9_21 rfl rfl dX9_count_95 ?_
    obtain ⟨s7, cs7, hf⟩ := ob_s hf
    obtain ⟨s8, es8, hf⟩ := lb_s hf
    refine k_callVe (pc := 98) (em := em_CK) h cv_RX9_120 (c_X0_examine  (rs em_CK s0) s7 cs7) emb_CK_X rfl rfl rfl (st1 := [.ref 10]) rfl ⟨rfl, rfl⟩ (rk hR (Nat.le_of_ble_eq_true rfl) (Nat.le_of_ble_eq_true rfl)) (Nat.le_of_ble_eq_true rfl) dX9_count_98 es8 ?_
    refine k_getR (pc := 101) h fl_RX9_174 rfl rfl dX9_count_101 ?_
    refine k_getI (pc := 104) h fl_RX9_178 rfl rfl dX9_count_104 ?_
    obtain ⟨rfl, rfl⟩ := so2 hf
    exact hret 107 _ dX9_count_107 trivial
  have hf := it_n hc3 hf
  by_cases hc4 : p1 = (4 : Int32)
  · have hf := it_p hc4 hf
    refine k_tabIn (pc := 1) (tgt := 108) h dX9_count_1 (by rw [hc4]; decide) (by rw [hc4]; decide) (by rw [hc4]; rfl) rfl ?_
    refine k_aload_n (pc := 108) h dX9_count_108 rfl 0 rfl ?_
    refine k_getR (pc := 109) h fl_RX9_21 rfl rfl dX9_count_109 ?_
    obtain ⟨s9, cs9, hf⟩ := ob_s hf
    obtain ⟨s10, es10, hf⟩ := lb_s hf
    refine k_callVe (pc := 112) (em := em_CK) h cv_RX9_120 (c_X0_examine  (rs em_CK s0) s9 cs9) emb_CK_X rfl rfl rfl (st1 := [.ref 10]) rfl ⟨rfl, rfl⟩ (rk hR (Nat.le_of_ble_eq_true rfl) (Nat.le_of_ble_eq_true rfl)) (Nat.le_of_ble_eq_true rfl) dX9_count_112 es10 ?_
    refine k_getR (pc := 115) h fl_RX9_174 rfl rfl dX9_count_115 ?_
    refine k_iload_n (pc := 118) h dX9_count_118 rfl 1 rfl ?_
    refine k_iconst (pc := 119) h dX9_count_119 kc_iconst_4 ?_
    refine k_isub (pc := 120) h dX9_count_120 ?_
    obtain ⟨v11, cv11, hf⟩ := ob_s hf
    refine k_callVe (pc := 121) (em := em_CK) h cv_RX9_263 (c_X1_totalOf (p1 - (4 : Int32)) (rs em_CK s10) v11 cv11) emb_CK_X rfl rfl rfl (st1 := [.int v11]) rfl ⟨rfl, rfl⟩ (rk hR (Nat.le_of_ble_eq_true rfl) (Nat.le_of_ble_eq_true rfl)) (Nat.le_of_ble_eq_true rfl) dX9_count_121 (mg_rs em_CK s10) ?_
    obtain ⟨rfl, rfl⟩ := so2 hf
    exact hret 124 _ dX9_count_124 trivial
  have hf := it_n hc4 hf
  by_cases hc5 : p1 = (5 : Int32)
  · have hf := it_p hc5 hf
    refine k_tabIn (pc := 1) (tgt := 108) h dX9_count_1 (by rw [hc5]; decide) (by rw [hc5]; decide) (by rw [hc5]; rfl) rfl ?_
    refine k_aload_n (pc := 108) h dX9_count_108 rfl 0 rfl ?_
    refine k_getR (pc := 109) h fl_RX9_21 rfl rfl dX9_count_109 ?_
    obtain ⟨s12, cs12, hf⟩ := ob_s hf
    obtain ⟨s13, es13, hf⟩ := lb_s hf
    refine k_callVe (pc := 112) (em := em_CK) h cv_RX9_120 (c_X0_examine  (rs em_CK s0) s12 cs12) emb_CK_X rfl rfl rfl (st1 := [.ref 10]) rfl ⟨rfl, rfl⟩ (rk hR (Nat.le_of_ble_eq_true rfl) (Nat.le_of_ble_eq_true rfl)) (Nat.le_of_ble_eq_true rfl) dX9_count_112 es13 ?_
    refine k_getR (pc := 115) h fl_RX9_174 rfl rfl dX9_count_115 ?_
    refine k_iload_n (pc := 118) h dX9_count_118 rfl 1 rfl ?_
    refine k_iconst (pc := 119) h dX9_count_119 kc_iconst_4 ?_
    refine k_isub (pc := 120) h dX9_count_120 ?_
    obtain ⟨v14, cv14, hf⟩ := ob_s hf
    refine k_callVe (pc := 121) (em := em_CK) h cv_RX9_263 (c_X1_totalOf (p1 - (4 : Int32)) (rs em_CK s13) v14 cv14) emb_CK_X rfl rfl rfl (st1 := [.int v14]) rfl ⟨rfl, rfl⟩ (rk hR (Nat.le_of_ble_eq_true rfl) (Nat.le_of_ble_eq_true rfl)) (Nat.le_of_ble_eq_true rfl) dX9_count_121 (mg_rs em_CK s13) ?_
    obtain ⟨rfl, rfl⟩ := so2 hf
    exact hret 124 _ dX9_count_124 trivial
  have hf := it_n hc5 hf
  by_cases hc6 : p1 = (6 : Int32)
  · have hf := it_p hc6 hf
    refine k_tabIn (pc := 1) (tgt := 108) h dX9_count_1 (by rw [hc6]; decide) (by rw [hc6]; decide) (by rw [hc6]; rfl) rfl ?_
    refine k_aload_n (pc := 108) h dX9_count_108 rfl 0 rfl ?_
    refine k_getR (pc := 109) h fl_RX9_21 rfl rfl dX9_count_109 ?_
    obtain ⟨s15, cs15, hf⟩ := ob_s hf
    obtain ⟨s16, es16, hf⟩ := lb_s hf
    refine k_callVe (pc := 112) (em := em_CK) h cv_RX9_120 (c_X0_examine  (rs em_CK s0) s15 cs15) emb_CK_X rfl rfl rfl (st1 := [.ref 10]) rfl ⟨rfl, rfl⟩ (rk hR (Nat.le_of_ble_eq_true rfl) (Nat.le_of_ble_eq_true rfl)) (Nat.le_of_ble_eq_true rfl) dX9_count_112 es16 ?_
    refine k_getR (pc := 115) h fl_RX9_174 rfl rfl dX9_count_115 ?_
    refine k_iload_n (pc := 118) h dX9_count_118 rfl 1 rfl ?_
    refine k_iconst (pc := 119) h dX9_count_119 kc_iconst_4 ?_
    refine k_isub (pc := 120) h dX9_count_120 ?_
    obtain ⟨v17, cv17, hf⟩ := ob_s hf
    refine k_callVe (pc := 121) (em := em_CK) h cv_RX9_263 (c_X1_totalOf (p1 - (4 : Int32)) (rs em_CK s16) v17 cv17) emb_CK_X rfl rfl rfl (st1 := [.int v17]) rfl ⟨rfl, rfl⟩ (rk hR (Nat.le_of_ble_eq_true rfl) (Nat.le_of_ble_eq_true rfl)) (Nat.le_of_ble_eq_true rfl) dX9_count_121 (mg_rs em_CK s16) ?_
    obtain ⟨rfl, rfl⟩ := so2 hf
    exact hret 124 _ dX9_count_124 trivial
  have hf := it_n hc6 hf
  by_cases hc7 : p1 = (7 : Int32)
  · have hf := it_p hc7 hf
    refine k_tabIn (pc := 1) (tgt := 108) h dX9_count_1 (by rw [hc7]; decide) (by rw [hc7]; decide) (by rw [hc7]; rfl) rfl ?_
    refine k_aload_n (pc := 108) h dX9_count_108 rfl 0 rfl ?_
    refine k_getR (pc := 109) h fl_RX9_21 rfl rfl dX9_count_109 ?_
    obtain ⟨s18, cs18, hf⟩ := ob_s hf
    obtain ⟨s19, es19, hf⟩ := lb_s hf
    refine k_callVe (pc := 112) (em := em_CK) h cv_RX9_120 (c_X0_examine  (rs em_CK s0) s18 cs18) emb_CK_X rfl rfl rfl (st1 := [.ref 10]) rfl ⟨rfl, rfl⟩ (rk hR (Nat.le_of_ble_eq_true rfl) (Nat.le_of_ble_eq_true rfl)) (Nat.le_of_ble_eq_true rfl) dX9_count_112 es19 ?_
    refine k_getR (pc := 115) h fl_RX9_174 rfl rfl dX9_count_115 ?_
    refine k_iload_n (pc := 118) h dX9_count_118 rfl 1 rfl ?_
    refine k_iconst (pc := 119) h dX9_count_119 kc_iconst_4 ?_
    refine k_isub (pc := 120) h dX9_count_120 ?_
    obtain ⟨v20, cv20, hf⟩ := ob_s hf
    refine k_callVe (pc := 121) (em := em_CK) h cv_RX9_263 (c_X1_totalOf (p1 - (4 : Int32)) (rs em_CK s19) v20 cv20) emb_CK_X rfl rfl rfl (st1 := [.int v20]) rfl ⟨rfl, rfl⟩ (rk hR (Nat.le_of_ble_eq_true rfl) (Nat.le_of_ble_eq_true rfl)) (Nat.le_of_ble_eq_true rfl) dX9_count_121 (mg_rs em_CK s19) ?_
    obtain ⟨rfl, rfl⟩ := so2 hf
    exact hret 124 _ dX9_count_124 trivial
  have hf := it_n hc7 hf
  by_cases hc8 : p1 = (8 : Int32)
  · have hf := it_p hc8 hf
    refine k_tabIn (pc := 1) (tgt := 125) h dX9_count_1 (by rw [hc8]; decide) (by rw [hc8]; decide) (by rw [hc8]; rfl) rfl ?_
    refine k_aload_n (pc := 125) h dX9_count_125 rfl 0 rfl ?_
    refine k_getI (pc := 126) h fl_RX9_54 rfl rfl dX9_count_126 ?_
    obtain ⟨rfl, rfl⟩ := so2 hf
    exact hret 129 _ dX9_count_129 trivial
  have hf := it_n hc8 hf
  refine k_tabOut (pc := 1) (tgt := 130) h dX9_count_1 (by have z0 := lv_neT hc0 (a := 0) rfl; have z1 := lv_neT hc1 (a := 1) rfl; have z2 := lv_neT hc2 (a := 2) rfl; have z3 := lv_neT hc3 (a := 3) rfl; have z4 := lv_neT hc4 (a := 4) rfl; have z5 := lv_neT hc5 (a := 5) rfl; have z6 := lv_neT hc6 (a := 6) rfl; have z7 := lv_neT hc7 (a := 7) rfl; have z8 := lv_neT hc8 (a := 8) rfl; omega) rfl ?_
  refine k_bipush (pc := 130) h dX9_count_130 kc_bipush_m2 ?_
  obtain ⟨rfl, rfl⟩ := so2 hf
  exact hret 132 _ dX9_count_132 trivial
theorem dX9_foldPoint_0 : decode cX9_foldPoint 0 = .ok (.lload_n 1, 1) := by decide +kernel
theorem dX9_foldPoint_1 : decode cX9_foldPoint 1 = .ok (.lstore 4, 2) := by decide +kernel
theorem dX9_foldPoint_3 : decode cX9_foldPoint 3 = .ok (.iconst 0, 1) := by decide +kernel
theorem dX9_foldPoint_4 : decode cX9_foldPoint 4 = .ok (.istore 6, 2) := by decide +kernel
theorem dX9_foldPoint_6 : decode cX9_foldPoint 6 = .ok (.iload 6, 2) := by decide +kernel
theorem dX9_foldPoint_8 : decode cX9_foldPoint 8 = .ok (.iconst 3, 1) := by decide +kernel
theorem dX9_foldPoint_9 : decode cX9_foldPoint 9 = .ok (.if_icmp .gt 24, 3) := by decide +kernel
theorem dX9_foldPoint_12 : decode cX9_foldPoint 12 = .ok (.lload 4, 2) := by decide +kernel
theorem dX9_foldPoint_14 : decode cX9_foldPoint 14 = .ok (.aload_n 0, 1) := by decide +kernel
theorem dX9_foldPoint_15 : decode cX9_foldPoint 15 = .ok (.iload_n 3, 1) := by decide +kernel
theorem dX9_foldPoint_16 : decode cX9_foldPoint 16 = .ok (.iload 6, 2) := by decide +kernel
theorem dX9_foldPoint_18 : decode cX9_foldPoint 18 = .ok (.invokevirtual 307, 3) := by decide +kernel
theorem dX9_foldPoint_21 : decode cX9_foldPoint 21 = .ok (.i2l, 1) := by decide +kernel
theorem dX9_foldPoint_22 : decode cX9_foldPoint 22 = .ok (.invokestatic 271, 3) := by decide +kernel
theorem dX9_foldPoint_25 : decode cX9_foldPoint 25 = .ok (.lstore 4, 2) := by decide +kernel
theorem dX9_foldPoint_27 : decode cX9_foldPoint 27 = .ok (.iinc 6 1, 3) := by decide +kernel
theorem dX9_foldPoint_30 : decode cX9_foldPoint 30 = .ok (.goto (-24), 3) := by decide +kernel
theorem dX9_foldPoint_33 : decode cX9_foldPoint 33 = .ok (.lload 4, 2) := by decide +kernel
theorem dX9_foldPoint_35 : decode cX9_foldPoint 35 = .ok (.aload_n 0, 1) := by decide +kernel
theorem dX9_foldPoint_36 : decode cX9_foldPoint 36 = .ok (.iload_n 3, 1) := by decide +kernel
theorem dX9_foldPoint_37 : decode cX9_foldPoint 37 = .ok (.invokevirtual 310, 3) := by decide +kernel
theorem dX9_foldPoint_40 : decode cX9_foldPoint 40 = .ok (.i2l, 1) := by decide +kernel
theorem dX9_foldPoint_41 : decode cX9_foldPoint 41 = .ok (.invokestatic 271, 3) := by decide +kernel
theorem dX9_foldPoint_44 : decode cX9_foldPoint 44 = .ok (.lstore 4, 2) := by decide +kernel
theorem dX9_foldPoint_46 : decode cX9_foldPoint 46 = .ok (.iconst 0, 1) := by decide +kernel
theorem dX9_foldPoint_47 : decode cX9_foldPoint 47 = .ok (.istore 6, 2) := by decide +kernel
theorem dX9_foldPoint_49 : decode cX9_foldPoint 49 = .ok (.iload 6, 2) := by decide +kernel
theorem dX9_foldPoint_51 : decode cX9_foldPoint 51 = .ok (.bipush 8, 2) := by decide +kernel
theorem dX9_foldPoint_53 : decode cX9_foldPoint 53 = .ok (.if_icmp .ge 24, 3) := by decide +kernel
theorem dX9_foldPoint_56 : decode cX9_foldPoint 56 = .ok (.lload 4, 2) := by decide +kernel
theorem dX9_foldPoint_58 : decode cX9_foldPoint 58 = .ok (.aload_n 0, 1) := by decide +kernel
theorem dX9_foldPoint_59 : decode cX9_foldPoint 59 = .ok (.iload_n 3, 1) := by decide +kernel
theorem dX9_foldPoint_60 : decode cX9_foldPoint 60 = .ok (.iload 6, 2) := by decide +kernel
theorem dX9_foldPoint_62 : decode cX9_foldPoint 62 = .ok (.invokevirtual 313, 3) := by decide +kernel
theorem dX9_foldPoint_65 : decode cX9_foldPoint 65 = .ok (.i2l, 1) := by decide +kernel
theorem dX9_foldPoint_66 : decode cX9_foldPoint 66 = .ok (.invokestatic 271, 3) := by decide +kernel
theorem dX9_foldPoint_69 : decode cX9_foldPoint 69 = .ok (.lstore 4, 2) := by decide +kernel
theorem dX9_foldPoint_71 : decode cX9_foldPoint 71 = .ok (.iinc 6 1, 3) := by decide +kernel
theorem dX9_foldPoint_74 : decode cX9_foldPoint 74 = .ok (.goto (-25), 3) := by decide +kernel
theorem dX9_foldPoint_77 : decode cX9_foldPoint 77 = .ok (.lload 4, 2) := by decide +kernel
theorem dX9_foldPoint_79 : decode cX9_foldPoint 79 = .ok (.aload_n 0, 1) := by decide +kernel
theorem dX9_foldPoint_80 : decode cX9_foldPoint 80 = .ok (.iload_n 3, 1) := by decide +kernel
theorem dX9_foldPoint_81 : decode cX9_foldPoint 81 = .ok (.invokevirtual 316, 3) := by decide +kernel
theorem dX9_foldPoint_84 : decode cX9_foldPoint 84 = .ok (.i2l, 1) := by decide +kernel
theorem dX9_foldPoint_85 : decode cX9_foldPoint 85 = .ok (.invokestatic 271, 3) := by decide +kernel
theorem dX9_foldPoint_88 : decode cX9_foldPoint 88 = .ok (.lstore 4, 2) := by decide +kernel
theorem dX9_foldPoint_90 : decode cX9_foldPoint 90 = .ok (.lload 4, 2) := by decide +kernel
theorem dX9_foldPoint_92 : decode cX9_foldPoint 92 = .ok (.aload_n 0, 1) := by decide +kernel
theorem dX9_foldPoint_93 : decode cX9_foldPoint 93 = .ok (.iload_n 3, 1) := by decide +kernel
theorem dX9_foldPoint_94 : decode cX9_foldPoint 94 = .ok (.invokevirtual 319, 3) := by decide +kernel
theorem dX9_foldPoint_97 : decode cX9_foldPoint 97 = .ok (.i2l, 1) := by decide +kernel
theorem dX9_foldPoint_98 : decode cX9_foldPoint 98 = .ok (.invokestatic 271, 3) := by decide +kernel
theorem dX9_foldPoint_101 : decode cX9_foldPoint 101 = .ok (.lstore 4, 2) := by decide +kernel
theorem dX9_foldPoint_103 : decode cX9_foldPoint 103 = .ok (.lload 4, 2) := by decide +kernel
theorem dX9_foldPoint_105 : decode cX9_foldPoint 105 = .ok (.aload_n 0, 1) := by decide +kernel
theorem dX9_foldPoint_106 : decode cX9_foldPoint 106 = .ok (.iload_n 3, 1) := by decide +kernel
theorem dX9_foldPoint_107 : decode cX9_foldPoint 107 = .ok (.invokevirtual 322, 3) := by decide +kernel
theorem dX9_foldPoint_110 : decode cX9_foldPoint 110 = .ok (.i2l, 1) := by decide +kernel
theorem dX9_foldPoint_111 : decode cX9_foldPoint 111 = .ok (.invokestatic 271, 3) := by decide +kernel
theorem dX9_foldPoint_114 : decode cX9_foldPoint 114 = .ok (.lreturn, 1) := by decide +kernel
def f_X9_foldPoint_L6 (p3 : Int32) (s0 : sh_S) (v1 : Int64) (v2 : Int32) : Option ((Int64 × Int32) ⊕ (Int64)) := (if (3 : Int32) < v2 then some (.inr v1) else ob (f_X9_code p3 v2 s0) (fun v4 => ob (f_X9_fold v1 (v4.toInt64)) (fun v5 => lb (v2 + (1 : Int32)) (fun v6 => some (.inl (v5, v6))))))
def f_X9_foldPoint_L49 (p3 : Int32) (v10 : Int64) (v11 : Int32) (s12 : sh_S) : Option ((Int64 × Int32 × sh_S) ⊕ (Int64 × sh_S)) := (if (8 : Int32) ≤ v11 then some (.inr (v10, s12)) else ob2 (f_X9_holds p3 v11 s12) (fun v15 s16 => ob (f_X9_fold v10 (v15.toInt64)) (fun v17 => lb (v11 + (1 : Int32)) (fun v18 => some (.inl (v17, v18, s16))))))
def f_X9_foldPoint (p1 : Int64) (p3 : Int32) (s0 : sh_S) : Option (Int64 × sh_S) := ob (lp (fun q => f_X9_foldPoint_L6 p3 s0 q.1 q.2) FU (p1, (0 : Int32))) (fun v3 => ob2 (f_X9_next p3 s0) (fun v7 s8 => ob (f_X9_fold v3 (v7.toInt64)) (fun v9 => ob2 (lp (fun q => f_X9_foldPoint_L49 p3 q.1 q.2.1 q.2.2) FU (v9, (0 : Int32), s8)) (fun v13 s14 => ob2 (f_X9_scope p3 s14) (fun v19 s20 => ob (f_X9_fold v13 (v19.toInt64)) (fun v21 => ob2 (f_X9_active p3 s20) (fun v22 s23 => ob (f_X9_fold v21 (v22.toInt64)) (fun v24 => ob2 (f_X9_bears p3 s23) (fun v25 s26 => ob (f_X9_fold v24 (v25.toInt64)) (fun v27 => some (v27, s26)))))))))))
set_option maxRecDepth 100000 in
set_option maxHeartbeats 4000000 in
theorem c_X9_foldPoint (p1 : Int64) (p3 : Int32) (s0 : sh_S) (r : Int64) (s9x : sh_S) (hf : f_X9_foldPoint p1 p3 s0 = some (r, s9x)) : Ctr yX9_foldPoint cX9_foldPoint 7 (some .long) ({ frames := 5, cells := 0, slots := 0, locals := 151 } : Room) shX [.ref 73, .long p1, .int p3] s0 (some (.long r)) s9x := by
  refine Ctr.mk (ri := .lreturn) (by decide) (Nat.le_of_ble_eq_true rfl) (Rt_l r) ?_
  intro G h hL hR hret
  refine k_drop (lv' := [(0, .ref 73), (1, .long p1), (3, .int p3)]) [0, 1, 2] rfl ?_
  unfold f_X9_foldPoint at hf
  refine k_lload_n (pc := 0) h dX9_foldPoint_0 rfl 1 rfl ?_
  refine k_lstore (pc := 1) h dX9_foldPoint_1 (nk hL (by decide)) (lv' := [(0, .ref 73), (1, .long p1), (3, .int p3), (4, .long p1)]) rfl ?_
  refine k_iconst (pc := 3) h dX9_foldPoint_3 kc_iconst_0 ?_
  refine k_istore (pc := 4) h dX9_foldPoint_4 (nk hL (by decide)) (lv' := [(0, .ref 73), (1, .long p1), (3, .int p3), (4, .long p1), (6, .int (0 : Int32))]) rfl ?_
  obtain ⟨v3, hl, hf⟩ := ob_s hf
  refine k_drop (lv' := [(0, .ref 73), (3, .int p3), (4, .long p1), (6, .int (0 : Int32))]) [0, 2, 3, 4] rfl ?_
  refine lp_s (P := (fun q : Int64 × Int32 => sh_K G shX 6 [(0, .ref 73), (3, .int p3), (4, .long q.1), (6, .int q.2)] [] s0)) (Q := (fun q : Int64 => sh_K G shX 33 [(0, .ref 73), (3, .int p3), (4, .long q)] [] s0)) (s := (p1, (0 : Int32))) ?_ hl ?_
  · clear hf hl
    intro q rr hf kc6
    obtain ⟨v1, v2⟩ := q
    have hf : f_X9_foldPoint_L6 p3 s0 v1 v2 = some rr := hf
    unfold f_X9_foldPoint_L6 at hf
    refine k_iload (pc := 6) h dX9_foldPoint_6 3 rfl ?_
    refine k_iconst (pc := 8) h dX9_foldPoint_8 kc_iconst_3 ?_
    refine k_icmp_gt (pc := 9) (tgt := 33) h dX9_foldPoint_9 rfl (fun hc => ?_) (fun hc => ?_)
    · have hf := it_p hc hf
      obtain rfl := so1 hf
      exact k_drop [0, 1, 2] rfl kc6
    · have hf := it_n hc hf
      refine k_lload (pc := 12) h dX9_foldPoint_12 2 rfl ?_
      refine k_aload_n (pc := 14) h dX9_foldPoint_14 rfl 0 rfl ?_
      refine k_iload_n (pc := 15) h dX9_foldPoint_15 rfl 1 rfl ?_
      refine k_iload (pc := 16) h dX9_foldPoint_16 3 rfl ?_
      obtain ⟨v4, cv4, hf⟩ := ob_s hf
      refine k_callV0 (pc := 18) h cv_RX9_307 (c_X9_code p3 v2 s0 v4 cv4) rfl rfl rfl (st1 := [.int v4, .long v1]) rfl ⟨rfl, rfl⟩ (rk hR (Nat.le_of_ble_eq_true rfl) (Nat.le_of_ble_eq_true rfl)) (Nat.le_of_ble_eq_true rfl) dX9_foldPoint_18 ?_
      refine k_i2l (pc := 21) h dX9_foldPoint_21 ?_
      obtain ⟨v5, cv5, hf⟩ := ob_s hf
      refine k_callSp (pc := 22) h cs_RX9_271 (c_X9_fold v1 (v4.toInt64) _ v5 cv5) rfl rfl (st1 := [.long v5]) rfl ⟨rfl, rfl⟩ (rk hR (Nat.le_of_ble_eq_true rfl) (Nat.le_of_ble_eq_true rfl)) (Nat.le_of_ble_eq_true rfl) dX9_foldPoint_22 ?_
      refine k_lstore (pc := 25) h dX9_foldPoint_25 (nk hL (by decide)) (lv' := [(0, .ref 73), (3, .int p3), (4, .long v5), (6, .int v2)]) rfl ?_
      obtain ⟨v6, ev6, hf⟩ := lb_s hf
      refine k_iinc (pc := 27) h dX9_foldPoint_27 3 rfl ((congrArg (_ + ·) kc_iconst_1).trans ev6.symm) (nk hL (by decide)) (lv' := [(0, .ref 73), (3, .int p3), (4, .long v5), (6, .int v6)]) rfl ?_
      refine k_goto (pc := 30) (tgt := 6) h dX9_foldPoint_30 rfl ?_
      obtain rfl := so1 hf
      exact k_drop [0, 1, 2, 3] rfl kc6
  · refine k_lload (pc := 33) h dX9_foldPoint_33 2 rfl ?_
    refine k_aload_n (pc := 35) h dX9_foldPoint_35 rfl 0 rfl ?_
    refine k_iload_n (pc := 36) h dX9_foldPoint_36 rfl 1 rfl ?_
    obtain ⟨v7, s8, cv7, hf⟩ := ob2_s hf
    refine k_callV0 (pc := 37) h cv_RX9_310 (c_X9_next p3 s0 v7 s8 cv7) rfl rfl rfl (st1 := [.int v7, .long v3]) rfl ⟨rfl, rfl⟩ (rk hR (Nat.le_of_ble_eq_true rfl) (Nat.le_of_ble_eq_true rfl)) (Nat.le_of_ble_eq_true rfl) dX9_foldPoint_37 ?_
    refine k_i2l (pc := 40) h dX9_foldPoint_40 ?_
    obtain ⟨v9, cv9, hf⟩ := ob_s hf
    refine k_callSp (pc := 41) h cs_RX9_271 (c_X9_fold v3 (v7.toInt64) _ v9 cv9) rfl rfl (st1 := [.long v9]) rfl ⟨rfl, rfl⟩ (rk hR (Nat.le_of_ble_eq_true rfl) (Nat.le_of_ble_eq_true rfl)) (Nat.le_of_ble_eq_true rfl) dX9_foldPoint_41 ?_
    refine k_lstore (pc := 44) h dX9_foldPoint_44 (nk hL (by decide)) (lv' := [(0, .ref 73), (3, .int p3), (4, .long v9)]) rfl ?_
    refine k_iconst (pc := 46) h dX9_foldPoint_46 kc_iconst_0 ?_
    refine k_istore (pc := 47) h dX9_foldPoint_47 (nk hL (by decide)) (lv' := [(0, .ref 73), (3, .int p3), (4, .long v9), (6, .int (0 : Int32))]) rfl ?_
    obtain ⟨v13, s14, hl, hf⟩ := ob2_s hf
    refine k_drop (lv' := [(0, .ref 73), (3, .int p3), (4, .long v9), (6, .int (0 : Int32))]) [0, 1, 2, 3] rfl ?_
    refine lp_s (P := (fun q : Int64 × Int32 × sh_S => sh_K G shX 49 [(0, .ref 73), (3, .int p3), (4, .long q.1), (6, .int q.2.1)] [] q.2.2)) (Q := (fun q : Int64 × sh_S => sh_K G shX 77 [(0, .ref 73), (3, .int p3), (4, .long q.1)] [] q.2)) (s := (v9, (0 : Int32), s8)) ?_ hl ?_
    · clear hf hl
      intro q rr hf kc49
      obtain ⟨v10, v11, s12⟩ := q
      have hf : f_X9_foldPoint_L49 p3 v10 v11 s12 = some rr := hf
      unfold f_X9_foldPoint_L49 at hf
      refine k_iload (pc := 49) h dX9_foldPoint_49 3 rfl ?_
      refine k_bipush (pc := 51) h dX9_foldPoint_51 kc_bipush_8 ?_
      refine k_icmp_ge (pc := 53) (tgt := 77) h dX9_foldPoint_53 rfl (fun hc => ?_) (fun hc => ?_)
      · have hf := it_p hc hf
        obtain rfl := so1 hf
        exact k_drop [0, 1, 2] rfl kc49
      · have hf := it_n hc hf
        refine k_lload (pc := 56) h dX9_foldPoint_56 2 rfl ?_
        refine k_aload_n (pc := 58) h dX9_foldPoint_58 rfl 0 rfl ?_
        refine k_iload_n (pc := 59) h dX9_foldPoint_59 rfl 1 rfl ?_
        refine k_iload (pc := 60) h dX9_foldPoint_60 3 rfl ?_
        obtain ⟨v15, s16, cv15, hf⟩ := ob2_s hf
        refine k_callV0 (pc := 62) h cv_RX9_313 (c_X9_holds p3 v11 s12 v15 s16 cv15) rfl rfl rfl (st1 := [.int v15, .long v10]) rfl ⟨rfl, rfl⟩ (rk hR (Nat.le_of_ble_eq_true rfl) (Nat.le_of_ble_eq_true rfl)) (Nat.le_of_ble_eq_true rfl) dX9_foldPoint_62 ?_
        refine k_i2l (pc := 65) h dX9_foldPoint_65 ?_
        obtain ⟨v17, cv17, hf⟩ := ob_s hf
        refine k_callSp (pc := 66) h cs_RX9_271 (c_X9_fold v10 (v15.toInt64) _ v17 cv17) rfl rfl (st1 := [.long v17]) rfl ⟨rfl, rfl⟩ (rk hR (Nat.le_of_ble_eq_true rfl) (Nat.le_of_ble_eq_true rfl)) (Nat.le_of_ble_eq_true rfl) dX9_foldPoint_66 ?_
        refine k_lstore (pc := 69) h dX9_foldPoint_69 (nk hL (by decide)) (lv' := [(0, .ref 73), (3, .int p3), (4, .long v17), (6, .int v11)]) rfl ?_
        obtain ⟨v18, ev18, hf⟩ := lb_s hf
        refine k_iinc (pc := 71) h dX9_foldPoint_71 3 rfl ((congrArg (_ + ·) kc_iconst_1).trans ev18.symm) (nk hL (by decide)) (lv' := [(0, .ref 73), (3, .int p3), (4, .long v17), (6, .int v18)]) rfl ?_
        refine k_goto (pc := 74) (tgt := 49) h dX9_foldPoint_74 rfl ?_
        obtain rfl := so1 hf
        exact k_drop [0, 1, 2, 3] rfl kc49
    · refine k_lload (pc := 77) h dX9_foldPoint_77 2 rfl ?_
      refine k_aload_n (pc := 79) h dX9_foldPoint_79 rfl 0 rfl ?_
      refine k_iload_n (pc := 80) h dX9_foldPoint_80 rfl 1 rfl ?_
      obtain ⟨v19, s20, cv19, hf⟩ := ob2_s hf
      refine k_callV0 (pc := 81) h cv_RX9_316 (c_X9_scope p3 s14 v19 s20 cv19) rfl rfl rfl (st1 := [.int v19, .long v13]) rfl ⟨rfl, rfl⟩ (rk hR (Nat.le_of_ble_eq_true rfl) (Nat.le_of_ble_eq_true rfl)) (Nat.le_of_ble_eq_true rfl) dX9_foldPoint_81 ?_
      refine k_i2l (pc := 84) h dX9_foldPoint_84 ?_
      obtain ⟨v21, cv21, hf⟩ := ob_s hf
      refine k_callSp (pc := 85) h cs_RX9_271 (c_X9_fold v13 (v19.toInt64) _ v21 cv21) rfl rfl (st1 := [.long v21]) rfl ⟨rfl, rfl⟩ (rk hR (Nat.le_of_ble_eq_true rfl) (Nat.le_of_ble_eq_true rfl)) (Nat.le_of_ble_eq_true rfl) dX9_foldPoint_85 ?_
      refine k_lstore (pc := 88) h dX9_foldPoint_88 (nk hL (by decide)) (lv' := [(0, .ref 73), (3, .int p3), (4, .long v21)]) rfl ?_
      refine k_lload (pc := 90) h dX9_foldPoint_90 2 rfl ?_
      refine k_aload_n (pc := 92) h dX9_foldPoint_92 rfl 0 rfl ?_
      refine k_iload_n (pc := 93) h dX9_foldPoint_93 rfl 1 rfl ?_
      obtain ⟨v22, s23, cv22, hf⟩ := ob2_s hf
      refine k_callV0 (pc := 94) h cv_RX9_319 (c_X9_active p3 s20 v22 s23 cv22) rfl rfl rfl (st1 := [.int v22, .long v21]) rfl ⟨rfl, rfl⟩ (rk hR (Nat.le_of_ble_eq_true rfl) (Nat.le_of_ble_eq_true rfl)) (Nat.le_of_ble_eq_true rfl) dX9_foldPoint_94 ?_
      refine k_i2l (pc := 97) h dX9_foldPoint_97 ?_
      obtain ⟨v24, cv24, hf⟩ := ob_s hf
      refine k_callSp (pc := 98) h cs_RX9_271 (c_X9_fold v21 (v22.toInt64) _ v24 cv24) rfl rfl (st1 := [.long v24]) rfl ⟨rfl, rfl⟩ (rk hR (Nat.le_of_ble_eq_true rfl) (Nat.le_of_ble_eq_true rfl)) (Nat.le_of_ble_eq_true rfl) dX9_foldPoint_98 ?_
      refine k_lstore (pc := 101) h dX9_foldPoint_101 (nk hL (by decide)) (lv' := [(0, .ref 73), (3, .int p3), (4, .long v24)]) rfl ?_
      refine k_lload (pc := 103) h dX9_foldPoint_103 2 rfl ?_
      refine k_aload_n (pc := 105) h dX9_foldPoint_105 rfl 0 rfl ?_
      refine k_iload_n (pc := 106) h dX9_foldPoint_106 rfl 1 rfl ?_
      obtain ⟨v25, s26, cv25, hf⟩ := ob2_s hf
      refine k_callV0 (pc := 107) h cv_RX9_322 (c_X9_bears p3 s23 v25 s26 cv25) rfl rfl rfl (st1 := [.int v25, .long v24]) rfl ⟨rfl, rfl⟩ (rk hR (Nat.le_of_ble_eq_true rfl) (Nat.le_of_ble_eq_true rfl)) (Nat.le_of_ble_eq_true rfl) dX9_foldPoint_107 ?_
      refine k_i2l (pc := 110) h dX9_foldPoint_110 ?_
      obtain ⟨v27, cv27, hf⟩ := ob_s hf
      refine k_callSp (pc := 111) h cs_RX9_271 (c_X9_fold v24 (v25.toInt64) _ v27 cv27) rfl rfl (st1 := [.long v27]) rfl ⟨rfl, rfl⟩ (rk hR (Nat.le_of_ble_eq_true rfl) (Nat.le_of_ble_eq_true rfl)) (Nat.le_of_ble_eq_true rfl) dX9_foldPoint_111 ?_
      obtain ⟨rfl, rfl⟩ := so2 hf
      exact hret 114 _ dX9_foldPoint_114 trivial
theorem dX9_foldError_0 : decode cX9_foldError 0 = .ok (.lload_n 1, 1) := by decide +kernel
theorem dX9_foldError_1 : decode cX9_foldError 1 = .ok (.lstore 4, 2) := by decide +kernel
theorem dX9_foldError_3 : decode cX9_foldError 3 = .ok (.iconst 0, 1) := by decide +kernel
theorem dX9_foldError_4 : decode cX9_foldError 4 = .ok (.istore 6, 2) := by decide +kernel
theorem dX9_foldError_6 : decode cX9_foldError 6 = .ok (.iload 6, 2) := by decide +kernel
theorem dX9_foldError_8 : decode cX9_foldError 8 = .ok (.iconst 2, 1) := by decide +kernel
theorem dX9_foldError_9 : decode cX9_foldError 9 = .ok (.if_icmp .gt 24, 3) := by decide +kernel
theorem dX9_foldError_12 : decode cX9_foldError 12 = .ok (.lload 4, 2) := by decide +kernel
theorem dX9_foldError_14 : decode cX9_foldError 14 = .ok (.aload_n 0, 1) := by decide +kernel
theorem dX9_foldError_15 : decode cX9_foldError 15 = .ok (.iload_n 3, 1) := by decide +kernel
theorem dX9_foldError_16 : decode cX9_foldError 16 = .ok (.iload 6, 2) := by decide +kernel
theorem dX9_foldError_18 : decode cX9_foldError 18 = .ok (.invokevirtual 325, 3) := by decide +kernel
theorem dX9_foldError_21 : decode cX9_foldError 21 = .ok (.i2l, 1) := by decide +kernel
theorem dX9_foldError_22 : decode cX9_foldError 22 = .ok (.invokestatic 271, 3) := by decide +kernel
theorem dX9_foldError_25 : decode cX9_foldError 25 = .ok (.lstore 4, 2) := by decide +kernel
theorem dX9_foldError_27 : decode cX9_foldError 27 = .ok (.iinc 6 1, 3) := by decide +kernel
theorem dX9_foldError_30 : decode cX9_foldError 30 = .ok (.goto (-24), 3) := by decide +kernel
theorem dX9_foldError_33 : decode cX9_foldError 33 = .ok (.lload 4, 2) := by decide +kernel
theorem dX9_foldError_35 : decode cX9_foldError 35 = .ok (.aload_n 0, 1) := by decide +kernel
theorem dX9_foldError_36 : decode cX9_foldError 36 = .ok (.iload_n 3, 1) := by decide +kernel
theorem dX9_foldError_37 : decode cX9_foldError 37 = .ok (.iconst (-1), 1) := by decide +kernel
theorem dX9_foldError_38 : decode cX9_foldError 38 = .ok (.invokevirtual 328, 3) := by decide +kernel
theorem dX9_foldError_41 : decode cX9_foldError 41 = .ok (.i2l, 1) := by decide +kernel
theorem dX9_foldError_42 : decode cX9_foldError 42 = .ok (.invokestatic 271, 3) := by decide +kernel
theorem dX9_foldError_45 : decode cX9_foldError 45 = .ok (.lstore 4, 2) := by decide +kernel
theorem dX9_foldError_47 : decode cX9_foldError 47 = .ok (.lload 4, 2) := by decide +kernel
theorem dX9_foldError_49 : decode cX9_foldError 49 = .ok (.aload_n 0, 1) := by decide +kernel
theorem dX9_foldError_50 : decode cX9_foldError 50 = .ok (.iload_n 3, 1) := by decide +kernel
theorem dX9_foldError_51 : decode cX9_foldError 51 = .ok (.iconst 1, 1) := by decide +kernel
theorem dX9_foldError_52 : decode cX9_foldError 52 = .ok (.invokevirtual 328, 3) := by decide +kernel
theorem dX9_foldError_55 : decode cX9_foldError 55 = .ok (.i2l, 1) := by decide +kernel
theorem dX9_foldError_56 : decode cX9_foldError 56 = .ok (.invokestatic 271, 3) := by decide +kernel
theorem dX9_foldError_59 : decode cX9_foldError 59 = .ok (.lreturn, 1) := by decide +kernel
def f_X9_foldError_L6 (p3 : Int32) (v1 : Int64) (v2 : Int32) (s3 : sh_S) : Option ((Int64 × Int32 × sh_S) ⊕ (Int64 × sh_S)) := (if (2 : Int32) < v2 then some (.inr (v1, s3)) else ob2 (f_X9_error p3 v2 s3) (fun v6 s7 => ob (f_X9_fold v1 (v6.toInt64)) (fun v8 => lb (v2 + (1 : Int32)) (fun v9 => some (.inl (v8, v9, s7))))))
def f_X9_foldError (p1 : Int64) (p3 : Int32) (s0 : sh_S) : Option (Int64 × sh_S) := ob2 (lp (fun q => f_X9_foldError_L6 p3 q.1 q.2.1 q.2.2) FU (p1, (0 : Int32), s0)) (fun v4 s5 => ob2 (f_X9_witness p3 (-1 : Int32) s5) (fun v10 s11 => ob (f_X9_fold v4 (v10.toInt64)) (fun v12 => ob2 (f_X9_witness p3 (1 : Int32) s11) (fun v13 s14 => ob (f_X9_fold v12 (v13.toInt64)) (fun v15 => some (v15, s14))))))
set_option maxRecDepth 100000 in
set_option maxHeartbeats 4000000 in
theorem c_X9_foldError (p1 : Int64) (p3 : Int32) (s0 : sh_S) (r : Int64) (s9x : sh_S) (hf : f_X9_foldError p1 p3 s0 = some (r, s9x)) : Ctr yX9_foldError cX9_foldError 7 (some .long) ({ frames := 5, cells := 0, slots := 0, locals := 151 } : Room) shX [.ref 73, .long p1, .int p3] s0 (some (.long r)) s9x := by
  refine Ctr.mk (ri := .lreturn) (by decide) (Nat.le_of_ble_eq_true rfl) (Rt_l r) ?_
  intro G h hL hR hret
  refine k_drop (lv' := [(0, .ref 73), (1, .long p1), (3, .int p3)]) [0, 1, 2] rfl ?_
  unfold f_X9_foldError at hf
  refine k_lload_n (pc := 0) h dX9_foldError_0 rfl 1 rfl ?_
  refine k_lstore (pc := 1) h dX9_foldError_1 (nk hL (by decide)) (lv' := [(0, .ref 73), (1, .long p1), (3, .int p3), (4, .long p1)]) rfl ?_
  refine k_iconst (pc := 3) h dX9_foldError_3 kc_iconst_0 ?_
  refine k_istore (pc := 4) h dX9_foldError_4 (nk hL (by decide)) (lv' := [(0, .ref 73), (1, .long p1), (3, .int p3), (4, .long p1), (6, .int (0 : Int32))]) rfl ?_
  obtain ⟨v4, s5, hl, hf⟩ := ob2_s hf
  refine k_drop (lv' := [(0, .ref 73), (3, .int p3), (4, .long p1), (6, .int (0 : Int32))]) [0, 2, 3, 4] rfl ?_
  refine lp_s (P := (fun q : Int64 × Int32 × sh_S => sh_K G shX 6 [(0, .ref 73), (3, .int p3), (4, .long q.1), (6, .int q.2.1)] [] q.2.2)) (Q := (fun q : Int64 × sh_S => sh_K G shX 33 [(0, .ref 73), (3, .int p3), (4, .long q.1)] [] q.2)) (s := (p1, (0 : Int32), s0)) ?_ hl ?_
  · clear hf hl
    intro q rr hf kc6
    obtain ⟨v1, v2, s3⟩ := q
    have hf : f_X9_foldError_L6 p3 v1 v2 s3 = some rr := hf
    unfold f_X9_foldError_L6 at hf
    refine k_iload (pc := 6) h dX9_foldError_6 3 rfl ?_
    refine k_iconst (pc := 8) h dX9_foldError_8 kc_iconst_2 ?_
    refine k_icmp_gt (pc := 9) (tgt := 33) h dX9_foldError_9 rfl (fun hc => ?_) (fun hc => ?_)
    · have hf := it_p hc hf
      obtain rfl := so1 hf
      exact k_drop [0, 1, 2] rfl kc6
    · have hf := it_n hc hf
      refine k_lload (pc := 12) h dX9_foldError_12 2 rfl ?_
      refine k_aload_n (pc := 14) h dX9_foldError_14 rfl 0 rfl ?_
      refine k_iload_n (pc := 15) h dX9_foldError_15 rfl 1 rfl ?_
      refine k_iload (pc := 16) h dX9_foldError_16 3 rfl ?_
      obtain ⟨v6, s7, cv6, hf⟩ := ob2_s hf
      refine k_callV0 (pc := 18) h cv_RX9_325 (c_X9_error p3 v2 s3 v6 s7 cv6) rfl rfl rfl (st1 := [.int v6, .long v1]) rfl ⟨rfl, rfl⟩ (rk hR (Nat.le_of_ble_eq_true rfl) (Nat.le_of_ble_eq_true rfl)) (Nat.le_of_ble_eq_true rfl) dX9_foldError_18 ?_
      refine k_i2l (pc := 21) h dX9_foldError_21 ?_
      obtain ⟨v8, cv8, hf⟩ := ob_s hf
      refine k_callSp (pc := 22) h cs_RX9_271 (c_X9_fold v1 (v6.toInt64) _ v8 cv8) rfl rfl (st1 := [.long v8]) rfl ⟨rfl, rfl⟩ (rk hR (Nat.le_of_ble_eq_true rfl) (Nat.le_of_ble_eq_true rfl)) (Nat.le_of_ble_eq_true rfl) dX9_foldError_22 ?_
      refine k_lstore (pc := 25) h dX9_foldError_25 (nk hL (by decide)) (lv' := [(0, .ref 73), (3, .int p3), (4, .long v8), (6, .int v2)]) rfl ?_
      obtain ⟨v9, ev9, hf⟩ := lb_s hf
      refine k_iinc (pc := 27) h dX9_foldError_27 3 rfl ((congrArg (_ + ·) kc_iconst_1).trans ev9.symm) (nk hL (by decide)) (lv' := [(0, .ref 73), (3, .int p3), (4, .long v8), (6, .int v9)]) rfl ?_
      refine k_goto (pc := 30) (tgt := 6) h dX9_foldError_30 rfl ?_
      obtain rfl := so1 hf
      exact k_drop [0, 1, 2, 3] rfl kc6
  · refine k_lload (pc := 33) h dX9_foldError_33 2 rfl ?_
    refine k_aload_n (pc := 35) h dX9_foldError_35 rfl 0 rfl ?_
    refine k_iload_n (pc := 36) h dX9_foldError_36 rfl 1 rfl ?_
    refine k_iconst (pc := 37) h dX9_foldError_37 kc_iconst_m1 ?_
    obtain ⟨v10, s11, cv10, hf⟩ := ob2_s hf
    refine k_callV0 (pc := 38) h cv_RX9_328 (c_X9_witness p3 (-1 : Int32) s5 v10 s11 cv10) rfl rfl rfl (st1 := [.int v10, .long v4]) rfl ⟨rfl, rfl⟩ (rk hR (Nat.le_of_ble_eq_true rfl) (Nat.le_of_ble_eq_true rfl)) (Nat.le_of_ble_eq_true rfl) dX9_foldError_38 ?_
    refine k_i2l (pc := 41) h dX9_foldError_41 ?_
    obtain ⟨v12, cv12, hf⟩ := ob_s hf
    refine k_callSp (pc := 42) h cs_RX9_271 (c_X9_fold v4 (v10.toInt64) _ v12 cv12) rfl rfl (st1 := [.long v12]) rfl ⟨rfl, rfl⟩ (rk hR (Nat.le_of_ble_eq_true rfl) (Nat.le_of_ble_eq_true rfl)) (Nat.le_of_ble_eq_true rfl) dX9_foldError_42 ?_
    refine k_lstore (pc := 45) h dX9_foldError_45 (nk hL (by decide)) (lv' := [(0, .ref 73), (3, .int p3), (4, .long v12)]) rfl ?_
    refine k_lload (pc := 47) h dX9_foldError_47 2 rfl ?_
    refine k_aload_n (pc := 49) h dX9_foldError_49 rfl 0 rfl ?_
    refine k_iload_n (pc := 50) h dX9_foldError_50 rfl 1 rfl ?_
    refine k_iconst (pc := 51) h dX9_foldError_51 kc_iconst_1 ?_
    obtain ⟨v13, s14, cv13, hf⟩ := ob2_s hf
    refine k_callV0 (pc := 52) h cv_RX9_328 (c_X9_witness p3 (1 : Int32) s11 v13 s14 cv13) rfl rfl rfl (st1 := [.int v13, .long v12]) rfl ⟨rfl, rfl⟩ (rk hR (Nat.le_of_ble_eq_true rfl) (Nat.le_of_ble_eq_true rfl)) (Nat.le_of_ble_eq_true rfl) dX9_foldError_52 ?_
    refine k_i2l (pc := 55) h dX9_foldError_55 ?_
    obtain ⟨v15, cv15, hf⟩ := ob_s hf
    refine k_callSp (pc := 56) h cs_RX9_271 (c_X9_fold v12 (v13.toInt64) _ v15 cv15) rfl rfl (st1 := [.long v15]) rfl ⟨rfl, rfl⟩ (rk hR (Nat.le_of_ble_eq_true rfl) (Nat.le_of_ble_eq_true rfl)) (Nat.le_of_ble_eq_true rfl) dX9_foldError_56 ?_
    obtain ⟨rfl, rfl⟩ := so2 hf
    exact hret 59 _ dX9_foldError_59 trivial
theorem dX9_foldRun_0 : decode cX9_foldRun 0 = .ok (.lload_n 1, 1) := by decide +kernel
theorem dX9_foldRun_1 : decode cX9_foldRun 1 = .ok (.lstore 4, 2) := by decide +kernel
theorem dX9_foldRun_3 : decode cX9_foldRun 3 = .ok (.iconst 0, 1) := by decide +kernel
theorem dX9_foldRun_4 : decode cX9_foldRun 4 = .ok (.istore 6, 2) := by decide +kernel
theorem dX9_foldRun_6 : decode cX9_foldRun 6 = .ok (.iload 6, 2) := by decide +kernel
theorem dX9_foldRun_8 : decode cX9_foldRun 8 = .ok (.iconst 2, 1) := by decide +kernel
theorem dX9_foldRun_9 : decode cX9_foldRun 9 = .ok (.if_icmp .gt 26, 3) := by decide +kernel
theorem dX9_foldRun_12 : decode cX9_foldRun 12 = .ok (.lload 4, 2) := by decide +kernel
theorem dX9_foldRun_14 : decode cX9_foldRun 14 = .ok (.aload_n 0, 1) := by decide +kernel
theorem dX9_foldRun_15 : decode cX9_foldRun 15 = .ok (.iload_n 3, 1) := by decide +kernel
theorem dX9_foldRun_16 : decode cX9_foldRun 16 = .ok (.bipush 60, 2) := by decide +kernel
theorem dX9_foldRun_18 : decode cX9_foldRun 18 = .ok (.iload 6, 2) := by decide +kernel
theorem dX9_foldRun_20 : decode cX9_foldRun 20 = .ok (.invokevirtual 331, 3) := by decide +kernel
theorem dX9_foldRun_23 : decode cX9_foldRun 23 = .ok (.i2l, 1) := by decide +kernel
theorem dX9_foldRun_24 : decode cX9_foldRun 24 = .ok (.invokestatic 271, 3) := by decide +kernel
theorem dX9_foldRun_27 : decode cX9_foldRun 27 = .ok (.lstore 4, 2) := by decide +kernel
theorem dX9_foldRun_29 : decode cX9_foldRun 29 = .ok (.iinc 6 1, 3) := by decide +kernel
theorem dX9_foldRun_32 : decode cX9_foldRun 32 = .ok (.goto (-26), 3) := by decide +kernel
theorem dX9_foldRun_35 : decode cX9_foldRun 35 = .ok (.lload 4, 2) := by decide +kernel
theorem dX9_foldRun_37 : decode cX9_foldRun 37 = .ok (.lreturn, 1) := by decide +kernel
def f_X9_foldRun_L6 (p3 : Int32) (v1 : Int64) (v2 : Int32) (s3 : sh_S) : Option ((Int64 × Int32 × sh_S) ⊕ (Int64 × sh_S)) := (if (2 : Int32) < v2 then some (.inr (v1, s3)) else ob2 (f_X9_run p3 (60 : Int32) v2 s3) (fun v6 s7 => ob (f_X9_fold v1 (v6.toInt64)) (fun v8 => lb (v2 + (1 : Int32)) (fun v9 => some (.inl (v8, v9, s7))))))
def f_X9_foldRun (p1 : Int64) (p3 : Int32) (s0 : sh_S) : Option (Int64 × sh_S) := ob2 (lp (fun q => f_X9_foldRun_L6 p3 q.1 q.2.1 q.2.2) FU (p1, (0 : Int32), s0)) (fun v4 s5 => some (v4, s5))
set_option maxRecDepth 100000 in
set_option maxHeartbeats 4000000 in
theorem c_X9_foldRun (p1 : Int64) (p3 : Int32) (s0 : sh_S) (r : Int64) (s9x : sh_S) (hf : f_X9_foldRun p1 p3 s0 = some (r, s9x)) : Ctr yX9_foldRun cX9_foldRun 7 (some .long) ({ frames := 5, cells := 0, slots := 0, locals := 122 } : Room) shX [.ref 73, .long p1, .int p3] s0 (some (.long r)) s9x := by
  refine Ctr.mk (ri := .lreturn) (by decide) (Nat.le_of_ble_eq_true rfl) (Rt_l r) ?_
  intro G h hL hR hret
  refine k_drop (lv' := [(0, .ref 73), (1, .long p1), (3, .int p3)]) [0, 1, 2] rfl ?_
  unfold f_X9_foldRun at hf
  refine k_lload_n (pc := 0) h dX9_foldRun_0 rfl 1 rfl ?_
  refine k_lstore (pc := 1) h dX9_foldRun_1 (nk hL (by decide)) (lv' := [(0, .ref 73), (1, .long p1), (3, .int p3), (4, .long p1)]) rfl ?_
  refine k_iconst (pc := 3) h dX9_foldRun_3 kc_iconst_0 ?_
  refine k_istore (pc := 4) h dX9_foldRun_4 (nk hL (by decide)) (lv' := [(0, .ref 73), (1, .long p1), (3, .int p3), (4, .long p1), (6, .int (0 : Int32))]) rfl ?_
  obtain ⟨v4, s5, hl, hf⟩ := ob2_s hf
  refine k_drop (lv' := [(0, .ref 73), (3, .int p3), (4, .long p1), (6, .int (0 : Int32))]) [0, 2, 3, 4] rfl ?_
  refine lp_s (P := (fun q : Int64 × Int32 × sh_S => sh_K G shX 6 [(0, .ref 73), (3, .int p3), (4, .long q.1), (6, .int q.2.1)] [] q.2.2)) (Q := (fun q : Int64 × sh_S => sh_K G shX 35 [(4, .long q.1)] [] q.2)) (s := (p1, (0 : Int32), s0)) ?_ hl ?_
  · clear hf hl
    intro q rr hf kc6
    obtain ⟨v1, v2, s3⟩ := q
    have hf : f_X9_foldRun_L6 p3 v1 v2 s3 = some rr := hf
    unfold f_X9_foldRun_L6 at hf
    refine k_iload (pc := 6) h dX9_foldRun_6 3 rfl ?_
    refine k_iconst (pc := 8) h dX9_foldRun_8 kc_iconst_2 ?_
    refine k_icmp_gt (pc := 9) (tgt := 35) h dX9_foldRun_9 rfl (fun hc => ?_) (fun hc => ?_)
    · have hf := it_p hc hf
      obtain rfl := so1 hf
      exact k_drop [2] rfl kc6
    · have hf := it_n hc hf
      refine k_lload (pc := 12) h dX9_foldRun_12 2 rfl ?_
      refine k_aload_n (pc := 14) h dX9_foldRun_14 rfl 0 rfl ?_
      refine k_iload_n (pc := 15) h dX9_foldRun_15 rfl 1 rfl ?_
      refine k_bipush (pc := 16) h dX9_foldRun_16 kc_bipush_60 ?_
      refine k_iload (pc := 18) h dX9_foldRun_18 3 rfl ?_
      obtain ⟨v6, s7, cv6, hf⟩ := ob2_s hf
      refine k_callV0 (pc := 20) h cv_RX9_331 (c_X9_run p3 (60 : Int32) v2 s3 v6 s7 cv6) rfl rfl rfl (st1 := [.int v6, .long v1]) rfl ⟨rfl, rfl⟩ (rk hR (Nat.le_of_ble_eq_true rfl) (Nat.le_of_ble_eq_true rfl)) (Nat.le_of_ble_eq_true rfl) dX9_foldRun_20 ?_
      refine k_i2l (pc := 23) h dX9_foldRun_23 ?_
      obtain ⟨v8, cv8, hf⟩ := ob_s hf
      refine k_callSp (pc := 24) h cs_RX9_271 (c_X9_fold v1 (v6.toInt64) _ v8 cv8) rfl rfl (st1 := [.long v8]) rfl ⟨rfl, rfl⟩ (rk hR (Nat.le_of_ble_eq_true rfl) (Nat.le_of_ble_eq_true rfl)) (Nat.le_of_ble_eq_true rfl) dX9_foldRun_24 ?_
      refine k_lstore (pc := 27) h dX9_foldRun_27 (nk hL (by decide)) (lv' := [(0, .ref 73), (3, .int p3), (4, .long v8), (6, .int v2)]) rfl ?_
      obtain ⟨v9, ev9, hf⟩ := lb_s hf
      refine k_iinc (pc := 29) h dX9_foldRun_29 3 rfl ((congrArg (_ + ·) kc_iconst_1).trans ev9.symm) (nk hL (by decide)) (lv' := [(0, .ref 73), (3, .int p3), (4, .long v8), (6, .int v9)]) rfl ?_
      refine k_goto (pc := 32) (tgt := 6) h dX9_foldRun_32 rfl ?_
      obtain rfl := so1 hf
      exact k_drop [0, 1, 2, 3] rfl kc6
  · refine k_lload (pc := 35) h dX9_foldRun_35 0 rfl ?_
    obtain ⟨rfl, rfl⟩ := so2 hf
    exact hret 37 _ dX9_foldRun_37 trivial
theorem dX9_digest_0 : decode cX9_digest 0 = .ok (.ldc2_w 266, 3) := by decide +kernel
theorem dX9_digest_3 : decode cX9_digest 3 = .ok (.lstore_n 1, 1) := by decide +kernel
theorem dX9_digest_4 : decode cX9_digest 4 = .ok (.iconst 0, 1) := by decide +kernel
theorem dX9_digest_5 : decode cX9_digest 5 = .ok (.istore_n 3, 1) := by decide +kernel
theorem dX9_digest_6 : decode cX9_digest 6 = .ok (.iload_n 3, 1) := by decide +kernel
theorem dX9_digest_7 : decode cX9_digest 7 = .ok (.bipush 7, 2) := by decide +kernel
theorem dX9_digest_9 : decode cX9_digest 9 = .ok (.if_icmp .gt 20, 3) := by decide +kernel
theorem dX9_digest_12 : decode cX9_digest 12 = .ok (.lload_n 1, 1) := by decide +kernel
theorem dX9_digest_13 : decode cX9_digest 13 = .ok (.aload_n 0, 1) := by decide +kernel
theorem dX9_digest_14 : decode cX9_digest 14 = .ok (.iload_n 3, 1) := by decide +kernel
theorem dX9_digest_15 : decode cX9_digest 15 = .ok (.invokevirtual 268, 3) := by decide +kernel
theorem dX9_digest_18 : decode cX9_digest 18 = .ok (.i2l, 1) := by decide +kernel
theorem dX9_digest_19 : decode cX9_digest 19 = .ok (.invokestatic 271, 3) := by decide +kernel
theorem dX9_digest_22 : decode cX9_digest 22 = .ok (.lstore_n 1, 1) := by decide +kernel
theorem dX9_digest_23 : decode cX9_digest 23 = .ok (.iinc 3 1, 3) := by decide +kernel
theorem dX9_digest_26 : decode cX9_digest 26 = .ok (.goto (-20), 3) := by decide +kernel
theorem dX9_digest_29 : decode cX9_digest 29 = .ok (.lload_n 1, 1) := by decide +kernel
theorem dX9_digest_30 : decode cX9_digest 30 = .ok (.aload_n 0, 1) := by decide +kernel
theorem dX9_digest_31 : decode cX9_digest 31 = .ok (.invokevirtual 275, 3) := by decide +kernel
theorem dX9_digest_34 : decode cX9_digest 34 = .ok (.i2l, 1) := by decide +kernel
theorem dX9_digest_35 : decode cX9_digest 35 = .ok (.invokestatic 271, 3) := by decide +kernel
theorem dX9_digest_38 : decode cX9_digest 38 = .ok (.lstore_n 1, 1) := by decide +kernel
theorem dX9_digest_39 : decode cX9_digest 39 = .ok (.lload_n 1, 1) := by decide +kernel
theorem dX9_digest_40 : decode cX9_digest 40 = .ok (.aload_n 0, 1) := by decide +kernel
theorem dX9_digest_41 : decode cX9_digest 41 = .ok (.invokevirtual 279, 3) := by decide +kernel
theorem dX9_digest_44 : decode cX9_digest 44 = .ok (.i2l, 1) := by decide +kernel
theorem dX9_digest_45 : decode cX9_digest 45 = .ok (.invokestatic 271, 3) := by decide +kernel
theorem dX9_digest_48 : decode cX9_digest 48 = .ok (.lstore_n 1, 1) := by decide +kernel
theorem dX9_digest_49 : decode cX9_digest 49 = .ok (.iconst 0, 1) := by decide +kernel
theorem dX9_digest_50 : decode cX9_digest 50 = .ok (.istore_n 3, 1) := by decide +kernel
theorem dX9_digest_51 : decode cX9_digest 51 = .ok (.iload_n 3, 1) := by decide +kernel
theorem dX9_digest_52 : decode cX9_digest 52 = .ok (.bipush 8, 2) := by decide +kernel
theorem dX9_digest_54 : decode cX9_digest 54 = .ok (.if_icmp .ge 31, 3) := by decide +kernel
theorem dX9_digest_57 : decode cX9_digest 57 = .ok (.lload_n 1, 1) := by decide +kernel
theorem dX9_digest_58 : decode cX9_digest 58 = .ok (.aload_n 0, 1) := by decide +kernel
theorem dX9_digest_59 : decode cX9_digest 59 = .ok (.iload_n 3, 1) := by decide +kernel
theorem dX9_digest_60 : decode cX9_digest 60 = .ok (.invokevirtual 282, 3) := by decide +kernel
theorem dX9_digest_63 : decode cX9_digest 63 = .ok (.i2l, 1) := by decide +kernel
theorem dX9_digest_64 : decode cX9_digest 64 = .ok (.invokestatic 271, 3) := by decide +kernel
theorem dX9_digest_67 : decode cX9_digest 67 = .ok (.lstore_n 1, 1) := by decide +kernel
theorem dX9_digest_68 : decode cX9_digest 68 = .ok (.lload_n 1, 1) := by decide +kernel
theorem dX9_digest_69 : decode cX9_digest 69 = .ok (.aload_n 0, 1) := by decide +kernel
theorem dX9_digest_70 : decode cX9_digest 70 = .ok (.iload_n 3, 1) := by decide +kernel
theorem dX9_digest_71 : decode cX9_digest 71 = .ok (.invokevirtual 285, 3) := by decide +kernel
theorem dX9_digest_74 : decode cX9_digest 74 = .ok (.i2l, 1) := by decide +kernel
theorem dX9_digest_75 : decode cX9_digest 75 = .ok (.invokestatic 271, 3) := by decide +kernel
theorem dX9_digest_78 : decode cX9_digest 78 = .ok (.lstore_n 1, 1) := by decide +kernel
theorem dX9_digest_79 : decode cX9_digest 79 = .ok (.iinc 3 1, 3) := by decide +kernel
theorem dX9_digest_82 : decode cX9_digest 82 = .ok (.goto (-31), 3) := by decide +kernel
theorem dX9_digest_85 : decode cX9_digest 85 = .ok (.iconst 0, 1) := by decide +kernel
theorem dX9_digest_86 : decode cX9_digest 86 = .ok (.istore_n 3, 1) := by decide +kernel
theorem dX9_digest_87 : decode cX9_digest 87 = .ok (.iload_n 3, 1) := by decide +kernel
theorem dX9_digest_88 : decode cX9_digest 88 = .ok (.aload_n 0, 1) := by decide +kernel
theorem dX9_digest_89 : decode cX9_digest 89 = .ok (.getfield 12, 3) := by decide +kernel
theorem dX9_digest_92 : decode cX9_digest 92 = .ok (.getfield 63, 3) := by decide +kernel
theorem dX9_digest_95 : decode cX9_digest 95 = .ok (.if_icmp .ge 16, 3) := by decide +kernel
theorem dX9_digest_98 : decode cX9_digest 98 = .ok (.aload_n 0, 1) := by decide +kernel
theorem dX9_digest_99 : decode cX9_digest 99 = .ok (.lload_n 1, 1) := by decide +kernel
theorem dX9_digest_100 : decode cX9_digest 100 = .ok (.iload_n 3, 1) := by decide +kernel
theorem dX9_digest_101 : decode cX9_digest 101 = .ok (.invokevirtual 288, 3) := by decide +kernel
theorem dX9_digest_104 : decode cX9_digest 104 = .ok (.lstore_n 1, 1) := by decide +kernel
theorem dX9_digest_105 : decode cX9_digest 105 = .ok (.iinc 3 1, 3) := by decide +kernel
theorem dX9_digest_108 : decode cX9_digest 108 = .ok (.goto (-21), 3) := by decide +kernel
theorem dX9_digest_111 : decode cX9_digest 111 = .ok (.iconst 0, 1) := by decide +kernel
theorem dX9_digest_112 : decode cX9_digest 112 = .ok (.istore_n 3, 1) := by decide +kernel
theorem dX9_digest_113 : decode cX9_digest 113 = .ok (.iload_n 3, 1) := by decide +kernel
theorem dX9_digest_114 : decode cX9_digest 114 = .ok (.bipush 30, 2) := by decide +kernel
theorem dX9_digest_116 : decode cX9_digest 116 = .ok (.if_icmp .ge 16, 3) := by decide +kernel
theorem dX9_digest_119 : decode cX9_digest 119 = .ok (.aload_n 0, 1) := by decide +kernel
theorem dX9_digest_120 : decode cX9_digest 120 = .ok (.lload_n 1, 1) := by decide +kernel
theorem dX9_digest_121 : decode cX9_digest 121 = .ok (.iload_n 3, 1) := by decide +kernel
theorem dX9_digest_122 : decode cX9_digest 122 = .ok (.invokevirtual 292, 3) := by decide +kernel
theorem dX9_digest_125 : decode cX9_digest 125 = .ok (.lstore_n 1, 1) := by decide +kernel
theorem dX9_digest_126 : decode cX9_digest 126 = .ok (.iinc 3 1, 3) := by decide +kernel
theorem dX9_digest_129 : decode cX9_digest 129 = .ok (.goto (-16), 3) := by decide +kernel
theorem dX9_digest_132 : decode cX9_digest 132 = .ok (.lload_n 1, 1) := by decide +kernel
theorem dX9_digest_133 : decode cX9_digest 133 = .ok (.aload_n 0, 1) := by decide +kernel
theorem dX9_digest_134 : decode cX9_digest 134 = .ok (.iconst 0, 1) := by decide +kernel
theorem dX9_digest_135 : decode cX9_digest 135 = .ok (.invokevirtual 295, 3) := by decide +kernel
theorem dX9_digest_138 : decode cX9_digest 138 = .ok (.i2l, 1) := by decide +kernel
theorem dX9_digest_139 : decode cX9_digest 139 = .ok (.invokestatic 271, 3) := by decide +kernel
theorem dX9_digest_142 : decode cX9_digest 142 = .ok (.lstore_n 1, 1) := by decide +kernel
theorem dX9_digest_143 : decode cX9_digest 143 = .ok (.lload_n 1, 1) := by decide +kernel
theorem dX9_digest_144 : decode cX9_digest 144 = .ok (.aload_n 0, 1) := by decide +kernel
theorem dX9_digest_145 : decode cX9_digest 145 = .ok (.iconst 1, 1) := by decide +kernel
theorem dX9_digest_146 : decode cX9_digest 146 = .ok (.invokevirtual 295, 3) := by decide +kernel
theorem dX9_digest_149 : decode cX9_digest 149 = .ok (.i2l, 1) := by decide +kernel
theorem dX9_digest_150 : decode cX9_digest 150 = .ok (.invokestatic 271, 3) := by decide +kernel
theorem dX9_digest_153 : decode cX9_digest 153 = .ok (.lstore_n 1, 1) := by decide +kernel
theorem dX9_digest_154 : decode cX9_digest 154 = .ok (.lload_n 1, 1) := by decide +kernel
theorem dX9_digest_155 : decode cX9_digest 155 = .ok (.aload_n 0, 1) := by decide +kernel
theorem dX9_digest_156 : decode cX9_digest 156 = .ok (.invokevirtual 298, 3) := by decide +kernel
theorem dX9_digest_159 : decode cX9_digest 159 = .ok (.i2l, 1) := by decide +kernel
theorem dX9_digest_160 : decode cX9_digest 160 = .ok (.invokestatic 271, 3) := by decide +kernel
theorem dX9_digest_163 : decode cX9_digest 163 = .ok (.lstore_n 1, 1) := by decide +kernel
theorem dX9_digest_164 : decode cX9_digest 164 = .ok (.aload_n 0, 1) := by decide +kernel
theorem dX9_digest_165 : decode cX9_digest 165 = .ok (.lload_n 1, 1) := by decide +kernel
theorem dX9_digest_166 : decode cX9_digest 166 = .ok (.iconst 0, 1) := by decide +kernel
theorem dX9_digest_167 : decode cX9_digest 167 = .ok (.invokevirtual 301, 3) := by decide +kernel
theorem dX9_digest_170 : decode cX9_digest 170 = .ok (.lstore_n 1, 1) := by decide +kernel
theorem dX9_digest_171 : decode cX9_digest 171 = .ok (.aload_n 0, 1) := by decide +kernel
theorem dX9_digest_172 : decode cX9_digest 172 = .ok (.lload_n 1, 1) := by decide +kernel
theorem dX9_digest_173 : decode cX9_digest 173 = .ok (.iconst 5, 1) := by decide +kernel
theorem dX9_digest_174 : decode cX9_digest 174 = .ok (.invokevirtual 301, 3) := by decide +kernel
theorem dX9_digest_177 : decode cX9_digest 177 = .ok (.lstore_n 1, 1) := by decide +kernel
theorem dX9_digest_178 : decode cX9_digest 178 = .ok (.aload_n 0, 1) := by decide +kernel
theorem dX9_digest_179 : decode cX9_digest 179 = .ok (.lload_n 1, 1) := by decide +kernel
theorem dX9_digest_180 : decode cX9_digest 180 = .ok (.ldc_w 304, 3) := by decide +kernel
theorem dX9_digest_183 : decode cX9_digest 183 = .ok (.invokevirtual 301, 3) := by decide +kernel
theorem dX9_digest_186 : decode cX9_digest 186 = .ok (.lreturn, 1) := by decide +kernel
def f_X9_digest_L6 (v1 : Int64) (v2 : Int32) (s3 : sh_S) : Option ((Int64 × Int32 × sh_S) ⊕ (Int64 × sh_S)) := (if (7 : Int32) < v2 then some (.inr (v1, s3)) else ob2 (f_X9_count v2 s3) (fun v6 s7 => ob (f_X9_fold v1 (v6.toInt64)) (fun v8 => lb (v2 + (1 : Int32)) (fun v9 => some (.inl (v8, v9, s7))))))
def f_X9_digest_L51 (v16 : Int64) (v17 : Int32) (s18 : sh_S) : Option ((Int64 × Int32 × sh_S) ⊕ (Int64 × sh_S)) := (if (8 : Int32) ≤ v17 then some (.inr (v16, s18)) else ob2 (f_X9_live v17 s18) (fun v21 s22 => ob (f_X9_fold v16 (v21.toInt64)) (fun v23 => ob2 (f_X9_region v17 s22) (fun v24 s25 => ob (f_X9_fold v23 (v24.toInt64)) (fun v26 => lb (v17 + (1 : Int32)) (fun v27 => some (.inl (v26, v27, s25))))))))
def f_X9_digest_L87 (v28 : Int64) (v29 : Int32) (s30 : sh_S) : Option ((Int64 × Int32 × sh_S) ⊕ (Int64 × sh_S)) := (if (s30 0 9) ≤ v29 then some (.inr (v28, s30)) else ob2 (f_X9_foldPoint v28 v29 s30) (fun v33 s34 => lb (v29 + (1 : Int32)) (fun v35 => some (.inl (v33, v35, s34)))))
def f_X9_digest_L113 (v36 : Int64) (v37 : Int32) (s38 : sh_S) : Option ((Int64 × Int32 × sh_S) ⊕ (Int64 × sh_S)) := (if (30 : Int32) ≤ v37 then some (.inr (v36, s38)) else ob2 (f_X9_foldError v36 v37 s38) (fun v41 s42 => lb (v37 + (1 : Int32)) (fun v43 => some (.inl (v41, v43, s42)))))
def f_X9_digest  (s0 : sh_S) : Option (Int64 × sh_S) := ob2 (lp (fun q => f_X9_digest_L6 q.1 q.2.1 q.2.2) FU ((17 : Int64), (0 : Int32), s0)) (fun v4 s5 => ob2 (f_X9_reached  s5) (fun v10 s11 => ob (f_X9_fold v4 (v10.toInt64)) (fun v12 => ob2 (f_X9_loans  s11) (fun v13 s14 => ob (f_X9_fold v12 (v13.toInt64)) (fun v15 => ob2 (lp (fun q => f_X9_digest_L51 q.1 q.2.1 q.2.2) FU (v15, (0 : Int32), s14)) (fun v19 s20 => ob2 (lp (fun q => f_X9_digest_L87 q.1 q.2.1 q.2.2) FU (v19, (0 : Int32), s20)) (fun v31 s32 => ob2 (lp (fun q => f_X9_digest_L113 q.1 q.2.1 q.2.2) FU (v31, (0 : Int32), s32)) (fun v39 s40 => ob2 (f_X9_mend (0 : Int32) s40) (fun v44 s45 => ob (f_X9_fold v39 (v44.toInt64)) (fun v46 => ob2 (f_X9_mend (1 : Int32) s45) (fun v47 s48 => ob (f_X9_fold v46 (v47.toInt64)) (fun v49 => ob2 (f_X9_soft  s48) (fun v50 s51 => ob (f_X9_fold v49 (v50.toInt64)) (fun v52 => ob2 (f_X9_foldRun v52 (0 : Int32) s51) (fun v53 s54 => ob2 (f_X9_foldRun v53 (5 : Int32) s54) (fun v55 s56 => ob2 (f_X9_foldRun v55 (2147483647 : Int32) s56) (fun v57 s58 => some (v57, s58))))))))))))))))))
set_option maxRecDepth 100000 in
set_option maxHeartbeats 4000000 in
theorem c_X9_digest  (s0 : sh_S) (r : Int64) (s9x : sh_S) (hf : f_X9_digest  s0 = some (r, s9x)) : Ctr yX9_digest cX9_digest 4 (some .long) ({ frames := 7, cells := 0, slots := 0, locals := 195 } : Room) shX [.ref 73] s0 (some (.long r)) s9x := by
  refine Ctr.mk (ri := .lreturn) (by decide) (Nat.le_of_ble_eq_true rfl) (Rt_l r) ?_
  intro G h hL hR hret
  refine k_drop (lv' := [(0, .ref 73)]) [0] rfl ?_
  unfold f_X9_digest at hf
  refine k_ldc2 (pc := 0) h dX9_digest_0 wd_922 ?_
  refine k_lstore_n (pc := 3) h dX9_digest_3 rfl (nk hL (by decide)) (lv' := [(0, .ref 73), (1, .long (17 : Int64))]) rfl ?_
  refine k_iconst (pc := 4) h dX9_digest_4 kc_iconst_0 ?_
  refine k_istore_n (pc := 5) h dX9_digest_5 rfl (nk hL (by decide)) (lv' := [(0, .ref 73), (1, .long (17 : Int64)), (3, .int (0 : Int32))]) rfl ?_
  obtain ⟨v4, s5, hl, hf⟩ := ob2_s hf
  refine k_drop (lv' := [(0, .ref 73), (1, .long (17 : Int64)), (3, .int (0 : Int32))]) [0, 1, 2] rfl ?_
  refine lp_s (P := (fun q : Int64 × Int32 × sh_S => sh_K G shX 6 [(0, .ref 73), (1, .long q.1), (3, .int q.2.1)] [] q.2.2)) (Q := (fun q : Int64 × sh_S => sh_K G shX 29 [(0, .ref 73), (1, .long q.1)] [] q.2)) (s := ((17 : Int64), (0 : Int32), s0)) ?_ hl ?_
  · clear hf hl
    intro q rr hf kc6
    obtain ⟨v1, v2, s3⟩ := q
    have hf : f_X9_digest_L6 v1 v2 s3 = some rr := hf
    unfold f_X9_digest_L6 at hf
    refine k_iload_n (pc := 6) h dX9_digest_6 rfl 2 rfl ?_
    refine k_bipush (pc := 7) h dX9_digest_7 kc_bipush_7 ?_
    refine k_icmp_gt (pc := 9) (tgt := 29) h dX9_digest_9 rfl (fun hc => ?_) (fun hc => ?_)
    · have hf := it_p hc hf
      obtain rfl := so1 hf
      exact k_drop [0, 1] rfl kc6
    · have hf := it_n hc hf
      refine k_lload_n (pc := 12) h dX9_digest_12 rfl 1 rfl ?_
      refine k_aload_n (pc := 13) h dX9_digest_13 rfl 0 rfl ?_
      refine k_iload_n (pc := 14) h dX9_digest_14 rfl 2 rfl ?_
      obtain ⟨v6, s7, cv6, hf⟩ := ob2_s hf
      refine k_callV0 (pc := 15) h cv_RX9_268 (c_X9_count v2 s3 v6 s7 cv6) rfl rfl rfl (st1 := [.int v6, .long v1]) rfl ⟨rfl, rfl⟩ (rk hR (Nat.le_of_ble_eq_true rfl) (Nat.le_of_ble_eq_true rfl)) (Nat.le_of_ble_eq_true rfl) dX9_digest_15 ?_
      refine k_i2l (pc := 18) h dX9_digest_18 ?_
      obtain ⟨v8, cv8, hf⟩ := ob_s hf
      refine k_callSp (pc := 19) h cs_RX9_271 (c_X9_fold v1 (v6.toInt64) _ v8 cv8) rfl rfl (st1 := [.long v8]) rfl ⟨rfl, rfl⟩ (rk hR (Nat.le_of_ble_eq_true rfl) (Nat.le_of_ble_eq_true rfl)) (Nat.le_of_ble_eq_true rfl) dX9_digest_19 ?_
      refine k_lstore_n (pc := 22) h dX9_digest_22 rfl (nk hL (by decide)) (lv' := [(0, .ref 73), (1, .long v8), (3, .int v2)]) rfl ?_
      obtain ⟨v9, ev9, hf⟩ := lb_s hf
      refine k_iinc (pc := 23) h dX9_digest_23 2 rfl ((congrArg (_ + ·) kc_iconst_1).trans ev9.symm) (nk hL (by decide)) (lv' := [(0, .ref 73), (1, .long v8), (3, .int v9)]) rfl ?_
      refine k_goto (pc := 26) (tgt := 6) h dX9_digest_26 rfl ?_
      obtain rfl := so1 hf
      exact k_drop [0, 1, 2] rfl kc6
  · refine k_lload_n (pc := 29) h dX9_digest_29 rfl 1 rfl ?_
    refine k_aload_n (pc := 30) h dX9_digest_30 rfl 0 rfl ?_
    obtain ⟨v10, s11, cv10, hf⟩ := ob2_s hf
    refine k_callV0 (pc := 31) h cv_RX9_275 (c_X9_reached  s5 v10 s11 cv10) rfl rfl rfl (st1 := [.int v10, .long v4]) rfl ⟨rfl, rfl⟩ (rk hR (Nat.le_of_ble_eq_true rfl) (Nat.le_of_ble_eq_true rfl)) (Nat.le_of_ble_eq_true rfl) dX9_digest_31 ?_
    refine k_i2l (pc := 34) h dX9_digest_34 ?_
    obtain ⟨v12, cv12, hf⟩ := ob_s hf
    refine k_callSp (pc := 35) h cs_RX9_271 (c_X9_fold v4 (v10.toInt64) _ v12 cv12) rfl rfl (st1 := [.long v12]) rfl ⟨rfl, rfl⟩ (rk hR (Nat.le_of_ble_eq_true rfl) (Nat.le_of_ble_eq_true rfl)) (Nat.le_of_ble_eq_true rfl) dX9_digest_35 ?_
    refine k_lstore_n (pc := 38) h dX9_digest_38 rfl (nk hL (by decide)) (lv' := [(0, .ref 73), (1, .long v12)]) rfl ?_
    refine k_lload_n (pc := 39) h dX9_digest_39 rfl 1 rfl ?_
    refine k_aload_n (pc := 40) h dX9_digest_40 rfl 0 rfl ?_
    obtain ⟨v13, s14, cv13, hf⟩ := ob2_s hf
    refine k_callV0 (pc := 41) h cv_RX9_279 (c_X9_loans  s11 v13 s14 cv13) rfl rfl rfl (st1 := [.int v13, .long v12]) rfl ⟨rfl, rfl⟩ (rk hR (Nat.le_of_ble_eq_true rfl) (Nat.le_of_ble_eq_true rfl)) (Nat.le_of_ble_eq_true rfl) dX9_digest_41 ?_
    refine k_i2l (pc := 44) h dX9_digest_44 ?_
    obtain ⟨v15, cv15, hf⟩ := ob_s hf
    refine k_callSp (pc := 45) h cs_RX9_271 (c_X9_fold v12 (v13.toInt64) _ v15 cv15) rfl rfl (st1 := [.long v15]) rfl ⟨rfl, rfl⟩ (rk hR (Nat.le_of_ble_eq_true rfl) (Nat.le_of_ble_eq_true rfl)) (Nat.le_of_ble_eq_true rfl) dX9_digest_45 ?_
    refine k_lstore_n (pc := 48) h dX9_digest_48 rfl (nk hL (by decide)) (lv' := [(0, .ref 73), (1, .long v15)]) rfl ?_
    refine k_iconst (pc := 49) h dX9_digest_49 kc_iconst_0 ?_
    refine k_istore_n (pc := 50) h dX9_digest_50 rfl (nk hL (by decide)) (lv' := [(0, .ref 73), (1, .long v15), (3, .int (0 : Int32))]) rfl ?_
    obtain ⟨v19, s20, hl, hf⟩ := ob2_s hf
    refine k_drop (lv' := [(0, .ref 73), (1, .long v15), (3, .int (0 : Int32))]) [0, 1, 2] rfl ?_
    refine lp_s (P := (fun q : Int64 × Int32 × sh_S => sh_K G shX 51 [(0, .ref 73), (1, .long q.1), (3, .int q.2.1)] [] q.2.2)) (Q := (fun q : Int64 × sh_S => sh_K G shX 85 [(0, .ref 73), (1, .long q.1)] [] q.2)) (s := (v15, (0 : Int32), s14)) ?_ hl ?_
    · clear hf hl
      intro q rr hf kc51
      obtain ⟨v16, v17, s18⟩ := q
      have hf : f_X9_digest_L51 v16 v17 s18 = some rr := hf
      unfold f_X9_digest_L51 at hf
      refine k_iload_n (pc := 51) h dX9_digest_51 rfl 2 rfl ?_
      refine k_bipush (pc := 52) h dX9_digest_52 kc_bipush_8 ?_
      refine k_icmp_ge (pc := 54) (tgt := 85) h dX9_digest_54 rfl (fun hc => ?_) (fun hc => ?_)
      · have hf := it_p hc hf
        obtain rfl := so1 hf
        exact k_drop [0, 1] rfl kc51
      · have hf := it_n hc hf
        refine k_lload_n (pc := 57) h dX9_digest_57 rfl 1 rfl ?_
        refine k_aload_n (pc := 58) h dX9_digest_58 rfl 0 rfl ?_
        refine k_iload_n (pc := 59) h dX9_digest_59 rfl 2 rfl ?_
        obtain ⟨v21, s22, cv21, hf⟩ := ob2_s hf
        refine k_callV0 (pc := 60) h cv_RX9_282 (c_X9_live v17 s18 v21 s22 cv21) rfl rfl rfl (st1 := [.int v21, .long v16]) rfl ⟨rfl, rfl⟩ (rk hR (Nat.le_of_ble_eq_true rfl) (Nat.le_of_ble_eq_true rfl)) (Nat.le_of_ble_eq_true rfl) dX9_digest_60 ?_
        refine k_i2l (pc := 63) h dX9_digest_63 ?_
        obtain ⟨v23, cv23, hf⟩ := ob_s hf
        refine k_callSp (pc := 64) h cs_RX9_271 (c_X9_fold v16 (v21.toInt64) _ v23 cv23) rfl rfl (st1 := [.long v23]) rfl ⟨rfl, rfl⟩ (rk hR (Nat.le_of_ble_eq_true rfl) (Nat.le_of_ble_eq_true rfl)) (Nat.le_of_ble_eq_true rfl) dX9_digest_64 ?_
        refine k_lstore_n (pc := 67) h dX9_digest_67 rfl (nk hL (by decide)) (lv' := [(0, .ref 73), (1, .long v23), (3, .int v17)]) rfl ?_
        refine k_lload_n (pc := 68) h dX9_digest_68 rfl 1 rfl ?_
        refine k_aload_n (pc := 69) h dX9_digest_69 rfl 0 rfl ?_
        refine k_iload_n (pc := 70) h dX9_digest_70 rfl 2 rfl ?_
        obtain ⟨v24, s25, cv24, hf⟩ := ob2_s hf
        refine k_callV0 (pc := 71) h cv_RX9_285 (c_X9_region v17 s22 v24 s25 cv24) rfl rfl rfl (st1 := [.int v24, .long v23]) rfl ⟨rfl, rfl⟩ (rk hR (Nat.le_of_ble_eq_true rfl) (Nat.le_of_ble_eq_true rfl)) (Nat.le_of_ble_eq_true rfl) dX9_digest_71 ?_
        refine k_i2l (pc := 74) h dX9_digest_74 ?_
        obtain ⟨v26, cv26, hf⟩ := ob_s hf
        refine k_callSp (pc := 75) h cs_RX9_271 (c_X9_fold v23 (v24.toInt64) _ v26 cv26) rfl rfl (st1 := [.long v26]) rfl ⟨rfl, rfl⟩ (rk hR (Nat.le_of_ble_eq_true rfl) (Nat.le_of_ble_eq_true rfl)) (Nat.le_of_ble_eq_true rfl) dX9_digest_75 ?_
        refine k_lstore_n (pc := 78) h dX9_digest_78 rfl (nk hL (by decide)) (lv' := [(0, .ref 73), (1, .long v26), (3, .int v17)]) rfl ?_
        obtain ⟨v27, ev27, hf⟩ := lb_s hf
        refine k_iinc (pc := 79) h dX9_digest_79 2 rfl ((congrArg (_ + ·) kc_iconst_1).trans ev27.symm) (nk hL (by decide)) (lv' := [(0, .ref 73), (1, .long v26), (3, .int v27)]) rfl ?_
        refine k_goto (pc := 82) (tgt := 51) h dX9_digest_82 rfl ?_
        obtain rfl := so1 hf
        exact k_drop [0, 1, 2] rfl kc51
    · refine k_iconst (pc := 85) h dX9_digest_85 kc_iconst_0 ?_
      refine k_istore_n (pc := 86) h dX9_digest_86 rfl (nk hL (by decide)) (lv' := [(0, .ref 73), (1, .long v19), (3, .int (0 : Int32))]) rfl ?_
      obtain ⟨v31, s32, hl, hf⟩ := ob2_s hf
      refine k_drop (lv' := [(0, .ref 73), (1, .long v19), (3, .int (0 : Int32))]) [0, 1, 2] rfl ?_
      refine lp_s (P := (fun q : Int64 × Int32 × sh_S => sh_K G shX 87 [(0, .ref 73), (1, .long q.1), (3, .int q.2.1)] [] q.2.2)) (Q := (fun q : Int64 × sh_S => sh_K G shX 111 [(0, .ref 73), (1, .long q.1)] [] q.2)) (s := (v19, (0 : Int32), s20)) ?_ hl ?_
      · clear hf hl
        intro q rr hf kc87
        obtain ⟨v28, v29, s30⟩ := q
        have hf : f_X9_digest_L87 v28 v29 s30 = some rr := hf
        unfold f_X9_digest_L87 at hf
        refine k_iload_n (pc := 87) h dX9_digest_87 rfl 2 rfl ?_
        refine k_aload_n (pc := 88) h dX9_digest_88 rfl 0 rfl ?_
        refine k_getR (pc := 89) h fl_RX9_12 rfl rfl dX9_digest_89 ?_
        refine k_getI (pc := 92) h fl_RX9_63 rfl rfl dX9_digest_92 ?_
        refine k_icmp_ge (pc := 95) (tgt := 111) h dX9_digest_95 rfl (fun hc => ?_) (fun hc => ?_)
        · have hf := it_p hc hf
          obtain rfl := so1 hf
          exact k_drop [0, 1] rfl kc87
        · have hf := it_n hc hf
          refine k_aload_n (pc := 98) h dX9_digest_98 rfl 0 rfl ?_
          refine k_lload_n (pc := 99) h dX9_digest_99 rfl 1 rfl ?_
          refine k_iload_n (pc := 100) h dX9_digest_100 rfl 2 rfl ?_
          obtain ⟨v33, s34, cv33, hf⟩ := ob2_s hf
          refine k_callV0 (pc := 101) h cv_RX9_288 (c_X9_foldPoint v28 v29 s30 v33 s34 cv33) rfl rfl rfl (st1 := [.long v33]) rfl ⟨rfl, rfl⟩ (rk hR (Nat.le_of_ble_eq_true rfl) (Nat.le_of_ble_eq_true rfl)) (Nat.le_of_ble_eq_true rfl) dX9_digest_101 ?_
          refine k_lstore_n (pc := 104) h dX9_digest_104 rfl (nk hL (by decide)) (lv' := [(0, .ref 73), (1, .long v33), (3, .int v29)]) rfl ?_
          obtain ⟨v35, ev35, hf⟩ := lb_s hf
          refine k_iinc (pc := 105) h dX9_digest_105 2 rfl ((congrArg (_ + ·) kc_iconst_1).trans ev35.symm) (nk hL (by decide)) (lv' := [(0, .ref 73), (1, .long v33), (3, .int v35)]) rfl ?_
          refine k_goto (pc := 108) (tgt := 87) h dX9_digest_108 rfl ?_
          obtain rfl := so1 hf
          exact k_drop [0, 1, 2] rfl kc87
      · refine k_iconst (pc := 111) h dX9_digest_111 kc_iconst_0 ?_
        refine k_istore_n (pc := 112) h dX9_digest_112 rfl (nk hL (by decide)) (lv' := [(0, .ref 73), (1, .long v31), (3, .int (0 : Int32))]) rfl ?_
        obtain ⟨v39, s40, hl, hf⟩ := ob2_s hf
        refine k_drop (lv' := [(0, .ref 73), (1, .long v31), (3, .int (0 : Int32))]) [0, 1, 2] rfl ?_
        refine lp_s (P := (fun q : Int64 × Int32 × sh_S => sh_K G shX 113 [(0, .ref 73), (1, .long q.1), (3, .int q.2.1)] [] q.2.2)) (Q := (fun q : Int64 × sh_S => sh_K G shX 132 [(0, .ref 73), (1, .long q.1)] [] q.2)) (s := (v31, (0 : Int32), s32)) ?_ hl ?_
        · clear hf hl
          intro q rr hf kc113
          obtain ⟨v36, v37, s38⟩ := q
          have hf : f_X9_digest_L113 v36 v37 s38 = some rr := hf
          unfold f_X9_digest_L113 at hf
          refine k_iload_n (pc := 113) h dX9_digest_113 rfl 2 rfl ?_
          refine k_bipush (pc := 114) h dX9_digest_114 kc_bipush_30 ?_
          refine k_icmp_ge (pc := 116) (tgt := 132) h dX9_digest_116 rfl (fun hc => ?_) (fun hc => ?_)
          · have hf := it_p hc hf
            obtain rfl := so1 hf
            exact k_drop [0, 1] rfl kc113
          · have hf := it_n hc hf
            refine k_aload_n (pc := 119) h dX9_digest_119 rfl 0 rfl ?_
            refine k_lload_n (pc := 120) h dX9_digest_120 rfl 1 rfl ?_
            refine k_iload_n (pc := 121) h dX9_digest_121 rfl 2 rfl ?_
            obtain ⟨v41, s42, cv41, hf⟩ := ob2_s hf
            refine k_callV0 (pc := 122) h cv_RX9_292 (c_X9_foldError v36 v37 s38 v41 s42 cv41) rfl rfl rfl (st1 := [.long v41]) rfl ⟨rfl, rfl⟩ (rk hR (Nat.le_of_ble_eq_true rfl) (Nat.le_of_ble_eq_true rfl)) (Nat.le_of_ble_eq_true rfl) dX9_digest_122 ?_
            refine k_lstore_n (pc := 125) h dX9_digest_125 rfl (nk hL (by decide)) (lv' := [(0, .ref 73), (1, .long v41), (3, .int v37)]) rfl ?_
            obtain ⟨v43, ev43, hf⟩ := lb_s hf
            refine k_iinc (pc := 126) h dX9_digest_126 2 rfl ((congrArg (_ + ·) kc_iconst_1).trans ev43.symm) (nk hL (by decide)) (lv' := [(0, .ref 73), (1, .long v41), (3, .int v43)]) rfl ?_
            refine k_goto (pc := 129) (tgt := 113) h dX9_digest_129 rfl ?_
            obtain rfl := so1 hf
            exact k_drop [0, 1, 2] rfl kc113
        · refine k_lload_n (pc := 132) h dX9_digest_132 rfl 1 rfl ?_
          refine k_aload_n (pc := 133) h dX9_digest_133 rfl 0 rfl ?_
          refine k_iconst (pc := 134) h dX9_digest_134 kc_iconst_0 ?_
          obtain ⟨v44, s45, cv44, hf⟩ := ob2_s hf
          refine k_callV0 (pc := 135) h cv_RX9_295 (c_X9_mend (0 : Int32) s40 v44 s45 cv44) rfl rfl rfl (st1 := [.int v44, .long v39]) rfl ⟨rfl, rfl⟩ (rk hR (Nat.le_of_ble_eq_true rfl) (Nat.le_of_ble_eq_true rfl)) (Nat.le_of_ble_eq_true rfl) dX9_digest_135 ?_
          refine k_i2l (pc := 138) h dX9_digest_138 ?_
          obtain ⟨v46, cv46, hf⟩ := ob_s hf
          refine k_callSp (pc := 139) h cs_RX9_271 (c_X9_fold v39 (v44.toInt64) _ v46 cv46) rfl rfl (st1 := [.long v46]) rfl ⟨rfl, rfl⟩ (rk hR (Nat.le_of_ble_eq_true rfl) (Nat.le_of_ble_eq_true rfl)) (Nat.le_of_ble_eq_true rfl) dX9_digest_139 ?_
          refine k_lstore_n (pc := 142) h dX9_digest_142 rfl (nk hL (by decide)) (lv' := [(0, .ref 73), (1, .long v46)]) rfl ?_
          refine k_lload_n (pc := 143) h dX9_digest_143 rfl 1 rfl ?_
          refine k_aload_n (pc := 144) h dX9_digest_144 rfl 0 rfl ?_
          refine k_iconst (pc := 145) h dX9_digest_145 kc_iconst_1 ?_
          obtain ⟨v47, s48, cv47, hf⟩ := ob2_s hf
          refine k_callV0 (pc := 146) h cv_RX9_295 (c_X9_mend (1 : Int32) s45 v47 s48 cv47) rfl rfl rfl (st1 := [.int v47, .long v46]) rfl ⟨rfl, rfl⟩ (rk hR (Nat.le_of_ble_eq_true rfl) (Nat.le_of_ble_eq_true rfl)) (Nat.le_of_ble_eq_true rfl) dX9_digest_146 ?_
          refine k_i2l (pc := 149) h dX9_digest_149 ?_
          obtain ⟨v49, cv49, hf⟩ := ob_s hf
          refine k_callSp (pc := 150) h cs_RX9_271 (c_X9_fold v46 (v47.toInt64) _ v49 cv49) rfl rfl (st1 := [.long v49]) rfl ⟨rfl, rfl⟩ (rk hR (Nat.le_of_ble_eq_true rfl) (Nat.le_of_ble_eq_true rfl)) (Nat.le_of_ble_eq_true rfl) dX9_digest_150 ?_
          refine k_lstore_n (pc := 153) h dX9_digest_153 rfl (nk hL (by decide)) (lv' := [(0, .ref 73), (1, .long v49)]) rfl ?_
          refine k_lload_n (pc := 154) h dX9_digest_154 rfl 1 rfl ?_
          refine k_aload_n (pc := 155) h dX9_digest_155 rfl 0 rfl ?_
          obtain ⟨v50, s51, cv50, hf⟩ := ob2_s hf
          refine k_callV0 (pc := 156) h cv_RX9_298 (c_X9_soft  s48 v50 s51 cv50) rfl rfl rfl (st1 := [.int v50, .long v49]) rfl ⟨rfl, rfl⟩ (rk hR (Nat.le_of_ble_eq_true rfl) (Nat.le_of_ble_eq_true rfl)) (Nat.le_of_ble_eq_true rfl) dX9_digest_156 ?_
          refine k_i2l (pc := 159) h dX9_digest_159 ?_
          obtain ⟨v52, cv52, hf⟩ := ob_s hf
          refine k_callSp (pc := 160) h cs_RX9_271 (c_X9_fold v49 (v50.toInt64) _ v52 cv52) rfl rfl (st1 := [.long v52]) rfl ⟨rfl, rfl⟩ (rk hR (Nat.le_of_ble_eq_true rfl) (Nat.le_of_ble_eq_true rfl)) (Nat.le_of_ble_eq_true rfl) dX9_digest_160 ?_
          refine k_lstore_n (pc := 163) h dX9_digest_163 rfl (nk hL (by decide)) (lv' := [(0, .ref 73), (1, .long v52)]) rfl ?_
          refine k_aload_n (pc := 164) h dX9_digest_164 rfl 0 rfl ?_
          refine k_lload_n (pc := 165) h dX9_digest_165 rfl 1 rfl ?_
          refine k_iconst (pc := 166) h dX9_digest_166 kc_iconst_0 ?_
          obtain ⟨v53, s54, cv53, hf⟩ := ob2_s hf
          refine k_callV0 (pc := 167) h cv_RX9_301 (c_X9_foldRun v52 (0 : Int32) s51 v53 s54 cv53) rfl rfl rfl (st1 := [.long v53]) rfl ⟨rfl, rfl⟩ (rk hR (Nat.le_of_ble_eq_true rfl) (Nat.le_of_ble_eq_true rfl)) (Nat.le_of_ble_eq_true rfl) dX9_digest_167 ?_
          refine k_lstore_n (pc := 170) h dX9_digest_170 rfl (nk hL (by decide)) (lv' := [(0, .ref 73), (1, .long v53)]) rfl ?_
          refine k_aload_n (pc := 171) h dX9_digest_171 rfl 0 rfl ?_
          refine k_lload_n (pc := 172) h dX9_digest_172 rfl 1 rfl ?_
          refine k_iconst (pc := 173) h dX9_digest_173 kc_iconst_5 ?_
          obtain ⟨v55, s56, cv55, hf⟩ := ob2_s hf
          refine k_callV0 (pc := 174) h cv_RX9_301 (c_X9_foldRun v53 (5 : Int32) s54 v55 s56 cv55) rfl rfl rfl (st1 := [.long v55]) rfl ⟨rfl, rfl⟩ (rk hR (Nat.le_of_ble_eq_true rfl) (Nat.le_of_ble_eq_true rfl)) (Nat.le_of_ble_eq_true rfl) dX9_digest_174 ?_
          refine k_lstore_n (pc := 177) h dX9_digest_177 rfl (nk hL (by decide)) (lv' := [(0, .ref 73), (1, .long v55)]) rfl ?_
          refine k_aload_n (pc := 178) h dX9_digest_178 rfl 0 rfl ?_
          refine k_lload_n (pc := 179) h dX9_digest_179 rfl 1 rfl ?_
          refine k_ldcw (pc := 180) h dX9_digest_180 wd_955 ?_
          obtain ⟨v57, s58, cv57, hf⟩ := ob2_s hf
          refine k_callV0 (pc := 183) h cv_RX9_301 (c_X9_foldRun v55 (2147483647 : Int32) s56 v57 s58 cv57) rfl rfl rfl (st1 := [.long v57]) rfl ⟨rfl, rfl⟩ (rk hR (Nat.le_of_ble_eq_true rfl) (Nat.le_of_ble_eq_true rfl)) (Nat.le_of_ble_eq_true rfl) dX9_digest_183 ?_
          obtain ⟨rfl, rfl⟩ := so2 hf
          exact hret 186 _ dX9_digest_186 trivial
