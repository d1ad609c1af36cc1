theorem dX0_examine_0 : decode cX0_examine 0 = .ok (.aload_n 0, 1) := by decide +kernel
theorem dX0_examine_1 : decode cX0_examine 1 = .ok (.getfield 7, 3) := by decide +kernel
theorem dX0_examine_4 : decode cX0_examine 4 = .ok (.ifCond .ne 165, 3) := by decide +kernel
theorem dX0_examine_7 : decode cX0_examine 7 = .ok (.aload_n 0, 1) := by decide +kernel
theorem dX0_examine_8 : decode cX0_examine 8 = .ok (.getfield 16, 3) := by decide +kernel
theorem dX0_examine_11 : decode cX0_examine 11 = .ok (.aload_n 0, 1) := by decide +kernel
theorem dX0_examine_12 : decode cX0_examine 12 = .ok (.getfield 34, 3) := by decide +kernel
theorem dX0_examine_15 : decode cX0_examine 15 = .ok (.invokevirtual 38, 3) := by decide +kernel
theorem dX0_examine_18 : decode cX0_examine 18 = .ok (.aload_n 0, 1) := by decide +kernel
theorem dX0_examine_19 : decode cX0_examine 19 = .ok (.getfield 16, 3) := by decide +kernel
theorem dX0_examine_22 : decode cX0_examine 22 = .ok (.invokevirtual 42, 3) := by decide +kernel
theorem dX0_examine_25 : decode cX0_examine 25 = .ok (.aload_n 0, 1) := by decide +kernel
theorem dX0_examine_26 : decode cX0_examine 26 = .ok (.getfield 16, 3) := by decide +kernel
theorem dX0_examine_29 : decode cX0_examine 29 = .ok (.aload_n 0, 1) := by decide +kernel
theorem dX0_examine_30 : decode cX0_examine 30 = .ok (.getfield 34, 3) := by decide +kernel
theorem dX0_examine_33 : decode cX0_examine 33 = .ok (.invokevirtual 45, 3) := by decide +kernel
theorem dX0_examine_36 : decode cX0_examine 36 = .ok (.aload_n 0, 1) := by decide +kernel
theorem dX0_examine_37 : decode cX0_examine 37 = .ok (.getfield 16, 3) := by decide +kernel
theorem dX0_examine_40 : decode cX0_examine 40 = .ok (.invokevirtual 48, 3) := by decide +kernel
theorem dX0_examine_43 : decode cX0_examine 43 = .ok (.aload_n 0, 1) := by decide +kernel
theorem dX0_examine_44 : decode cX0_examine 44 = .ok (.getfield 16, 3) := by decide +kernel
theorem dX0_examine_47 : decode cX0_examine 47 = .ok (.aload_n 0, 1) := by decide +kernel
theorem dX0_examine_48 : decode cX0_examine 48 = .ok (.getfield 34, 3) := by decide +kernel
theorem dX0_examine_51 : decode cX0_examine 51 = .ok (.invokevirtual 51, 3) := by decide +kernel
theorem dX0_examine_54 : decode cX0_examine 54 = .ok (.aload_n 0, 1) := by decide +kernel
theorem dX0_examine_55 : decode cX0_examine 55 = .ok (.getfield 23, 3) := by decide +kernel
theorem dX0_examine_58 : decode cX0_examine 58 = .ok (.aload_n 0, 1) := by decide +kernel
theorem dX0_examine_59 : decode cX0_examine 59 = .ok (.getfield 34, 3) := by decide +kernel
theorem dX0_examine_62 : decode cX0_examine 62 = .ok (.aload_n 0, 1) := by decide +kernel
theorem dX0_examine_63 : decode cX0_examine 63 = .ok (.getfield 16, 3) := by decide +kernel
theorem dX0_examine_66 : decode cX0_examine 66 = .ok (.getfield 54, 3) := by decide +kernel
theorem dX0_examine_69 : decode cX0_examine 69 = .ok (.invokevirtual 58, 3) := by decide +kernel
theorem dX0_examine_72 : decode cX0_examine 72 = .ok (.aload_n 0, 1) := by decide +kernel
theorem dX0_examine_73 : decode cX0_examine 73 = .ok (.getfield 23, 3) := by decide +kernel
theorem dX0_examine_76 : decode cX0_examine 76 = .ok (.aload_n 0, 1) := by decide +kernel
theorem dX0_examine_77 : decode cX0_examine 77 = .ok (.getfield 34, 3) := by decide +kernel
theorem dX0_examine_80 : decode cX0_examine 80 = .ok (.aload_n 0, 1) := by decide +kernel
theorem dX0_examine_81 : decode cX0_examine 81 = .ok (.getfield 16, 3) := by decide +kernel
theorem dX0_examine_84 : decode cX0_examine 84 = .ok (.invokevirtual 62, 3) := by decide +kernel
theorem dX0_examine_87 : decode cX0_examine 87 = .ok (.aload_n 0, 1) := by decide +kernel
theorem dX0_examine_88 : decode cX0_examine 88 = .ok (.getfield 23, 3) := by decide +kernel
theorem dX0_examine_91 : decode cX0_examine 91 = .ok (.aload_n 0, 1) := by decide +kernel
theorem dX0_examine_92 : decode cX0_examine 92 = .ok (.getfield 34, 3) := by decide +kernel
theorem dX0_examine_95 : decode cX0_examine 95 = .ok (.aload_n 0, 1) := by decide +kernel
theorem dX0_examine_96 : decode cX0_examine 96 = .ok (.getfield 16, 3) := by decide +kernel
theorem dX0_examine_99 : decode cX0_examine 99 = .ok (.invokevirtual 66, 3) := by decide +kernel
theorem dX0_examine_102 : decode cX0_examine 102 = .ok (.aload_n 0, 1) := by decide +kernel
theorem dX0_examine_103 : decode cX0_examine 103 = .ok (.getfield 23, 3) := by decide +kernel
theorem dX0_examine_106 : decode cX0_examine 106 = .ok (.aload_n 0, 1) := by decide +kernel
theorem dX0_examine_107 : decode cX0_examine 107 = .ok (.getfield 16, 3) := by decide +kernel
theorem dX0_examine_110 : decode cX0_examine 110 = .ok (.aload_n 0, 1) := by decide +kernel
theorem dX0_examine_111 : decode cX0_examine 111 = .ok (.getfield 34, 3) := by decide +kernel
theorem dX0_examine_114 : decode cX0_examine 114 = .ok (.getfield 69, 3) := by decide +kernel
theorem dX0_examine_117 : decode cX0_examine 117 = .ok (.invokevirtual 74, 3) := by decide +kernel
theorem dX0_examine_120 : decode cX0_examine 120 = .ok (.aload_n 0, 1) := by decide +kernel
theorem dX0_examine_121 : decode cX0_examine 121 = .ok (.getfield 30, 3) := by decide +kernel
theorem dX0_examine_124 : decode cX0_examine 124 = .ok (.aload_n 0, 1) := by decide +kernel
theorem dX0_examine_125 : decode cX0_examine 125 = .ok (.getfield 34, 3) := by decide +kernel
theorem dX0_examine_128 : decode cX0_examine 128 = .ok (.aload_n 0, 1) := by decide +kernel
theorem dX0_examine_129 : decode cX0_examine 129 = .ok (.getfield 23, 3) := by decide +kernel
theorem dX0_examine_132 : decode cX0_examine 132 = .ok (.invokevirtual 78, 3) := by decide +kernel
theorem dX0_examine_135 : decode cX0_examine 135 = .ok (.aload_n 0, 1) := by decide +kernel
theorem dX0_examine_136 : decode cX0_examine 136 = .ok (.getfield 30, 3) := by decide +kernel
theorem dX0_examine_139 : decode cX0_examine 139 = .ok (.aload_n 0, 1) := by decide +kernel
theorem dX0_examine_140 : decode cX0_examine 140 = .ok (.getfield 34, 3) := by decide +kernel
theorem dX0_examine_143 : decode cX0_examine 143 = .ok (.aload_n 0, 1) := by decide +kernel
theorem dX0_examine_144 : decode cX0_examine 144 = .ok (.getfield 23, 3) := by decide +kernel
theorem dX0_examine_147 : decode cX0_examine 147 = .ok (.invokevirtual 82, 3) := by decide +kernel
theorem dX0_examine_150 : decode cX0_examine 150 = .ok (.aload_n 0, 1) := by decide +kernel
theorem dX0_examine_151 : decode cX0_examine 151 = .ok (.getfield 30, 3) := by decide +kernel
theorem dX0_examine_154 : decode cX0_examine 154 = .ok (.aload_n 0, 1) := by decide +kernel
theorem dX0_examine_155 : decode cX0_examine 155 = .ok (.getfield 34, 3) := by decide +kernel
theorem dX0_examine_158 : decode cX0_examine 158 = .ok (.getfield 69, 3) := by decide +kernel
theorem dX0_examine_161 : decode cX0_examine 161 = .ok (.invokevirtual 85, 3) := by decide +kernel
theorem dX0_examine_164 : decode cX0_examine 164 = .ok (.aload_n 0, 1) := by decide +kernel
theorem dX0_examine_165 : decode cX0_examine 165 = .ok (.iconst 1, 1) := by decide +kernel
theorem dX0_examine_166 : decode cX0_examine 166 = .ok (.putfield 7, 3) := by decide +kernel
theorem dX0_examine_169 : decode cX0_examine 169 = .ok (.aload_n 0, 1) := by decide +kernel
theorem dX0_examine_170 : decode cX0_examine 170 = .ok (.areturn, 1) := by decide +kernel
def f_X0_examine  (s0 : sh_S) : Option (sh_S) := ob (if (s0 10 1) = 0 then ob (f_X2_findNext  s0) (fun s2 => ob (f_X2_findReached  s2) (fun s3 => ob (f_X2_findUses  s3) (fun s4 => ob (f_X2_findLive  s4) (fun s5 => ob (f_X2_findRegions  s5) (fun s6 => ob (f_X3_findLoans (s6 11 8) s6) (fun s7 => ob (f_X3_findHeld  s7) (fun s8 => ob (f_X3_markPoints  s8) (fun s9 => ob (f_X3_findScopes (s9 0 9) s9) (fun s10 => ob (f_X1_findClashes  s10) (fun s11 => ob (f_X1_findMisuses  s11) (fun s12 => ob (f_X1_addUp (s12 0 9) s12) (fun s13 => lb (ur s13 10 (upd (s13 10) 1 (1 : Int32))) (fun s14 => some s14))))))))))))) else some s0) (fun s1 => some s1)
set_option maxRecDepth 100000 in
set_option maxHeartbeats 4000000 in
theorem c_X0_examine  (s0 : sh_S) (s9x : sh_S) (hf : f_X0_examine  s0 = some s9x) : Ctr yX0_examine cX0_examine 1 (some (.object "LoanPoints$Check")) ({ frames := 3, cells := 0, slots := 0, locals := 109 } : Room) shCK [.ref 10] s0 (some (.ref 10)) s9x := by
  refine Ctr.mk (ri := .areturn) (by decide) (Nat.le_of_ble_eq_true rfl) (Rt_a 10) ?_
  intro G h hL hR hret
  refine k_drop (lv' := [(0, .ref 10)]) [0] rfl ?_
  unfold f_X0_examine at hf
  refine k_aload_n (pc := 0) h dX0_examine_0 rfl 0 rfl ?_
  refine k_getI (pc := 1) h fl_RX0_7 rfl rfl dX0_examine_1 ?_
  obtain ⟨s1, hj, hf⟩ := ob_s hf
  have kj4 : sh_K G shCK 169 [(0, .ref 10)] [] s1 := by
    refine k_aload_n (pc := 169) h dX0_examine_169 rfl 0 rfl ?_
    obtain rfl := so1 hf
    exact hret 170 _ dX0_examine_170 trivial
  clear hf
  have hf := hj
  clear hj
  refine k_if_ne (pc := 4) (tgt := 169) h dX0_examine_4 rfl (fun hc => ?_) (fun hc => ?_)
  · have hf := it_n hc hf
    obtain rfl := so1 hf
    exact k_drop [0] rfl kj4
  · have hf := it_p hc hf
    refine k_aload_n (pc := 7) h dX0_examine_7 rfl 0 rfl ?_
    refine k_getR (pc := 8) h fl_RX0_16 rfl rfl dX0_examine_8 ?_
    refine k_aload_n (pc := 11) h dX0_examine_11 rfl 0 rfl ?_
    refine k_getR (pc := 12) h fl_RX0_34 rfl rfl dX0_examine_12 ?_
    obtain ⟨s2, cs2, hf⟩ := ob_s hf
    refine k_callV0 (pc := 15) h cv_RX0_38 (c_X2_findNext  s0 s2 cs2) rfl rfl rfl (st1 := []) rfl ⟨rfl, rfl⟩ (rk hR (Nat.le_of_ble_eq_true rfl) (Nat.le_of_ble_eq_true rfl)) (Nat.le_of_ble_eq_true rfl) dX0_examine_15 ?_
    refine k_aload_n (pc := 18) h dX0_examine_18 rfl 0 rfl ?_
    refine k_getR (pc := 19) h fl_RX0_16 rfl rfl dX0_examine_19 ?_
    obtain ⟨s3, cs3, hf⟩ := ob_s hf
    refine k_callV0 (pc := 22) h cv_RX0_42 (c_X2_findReached  s2 s3 cs3) rfl rfl rfl (st1 := []) rfl ⟨rfl, rfl⟩ (rk hR (Nat.le_of_ble_eq_true rfl) (Nat.le_of_ble_eq_true rfl)) (Nat.le_of_ble_eq_true rfl) dX0_examine_22 ?_
    refine k_aload_n (pc := 25) h dX0_examine_25 rfl 0 rfl ?_
    refine k_getR (pc := 26) h fl_RX0_16 rfl rfl dX0_examine_26 ?_
    refine k_aload_n (pc := 29) h dX0_examine_29 rfl 0 rfl ?_
    refine k_getR (pc := 30) h fl_RX0_34 rfl rfl dX0_examine_30 ?_
    obtain ⟨s4, cs4, hf⟩ := ob_s hf
    refine k_callV0 (pc := 33) h cv_RX0_45 (c_X2_findUses  s3 s4 cs4) rfl rfl rfl (st1 := []) rfl ⟨rfl, rfl⟩ (rk hR (Nat.le_of_ble_eq_true rfl) (Nat.le_of_ble_eq_true rfl)) (Nat.le_of_ble_eq_true rfl) dX0_examine_33 ?_
    refine k_aload_n (pc := 36) h dX0_examine_36 rfl 0 rfl ?_
    refine k_getR (pc := 37) h fl_RX0_16 rfl rfl dX0_examine_37 ?_
    obtain ⟨s5, cs5, hf⟩ := ob_s hf
    refine k_callV0 (pc := 40) h cv_RX0_48 (c_X2_findLive  s4 s5 cs5) rfl rfl rfl (st1 := []) rfl ⟨rfl, rfl⟩ (rk hR (Nat.le_of_ble_eq_true rfl) (Nat.le_of_ble_eq_true rfl)) (Nat.le_of_ble_eq_true rfl) dX0_examine_40 ?_
    refine k_aload_n (pc := 43) h dX0_examine_43 rfl 0 rfl ?_
    refine k_getR (pc := 44) h fl_RX0_16 rfl rfl dX0_examine_44 ?_
    refine k_aload_n (pc := 47) h dX0_examine_47 rfl 0 rfl ?_
    refine k_getR (pc := 48) h fl_RX0_34 rfl rfl dX0_examine_48 ?_
    obtain ⟨s6, cs6, hf⟩ := ob_s hf
    refine k_callV0 (pc := 51) h cv_RX0_51 (c_X2_findRegions  s5 s6 cs6) rfl rfl rfl (st1 := []) rfl ⟨rfl, rfl⟩ (rk hR (Nat.le_of_ble_eq_true rfl) (Nat.le_of_ble_eq_true rfl)) (Nat.le_of_ble_eq_true rfl) dX0_examine_51 ?_
    refine k_aload_n (pc := 54) h dX0_examine_54 rfl 0 rfl ?_
    refine k_getR (pc := 55) h fl_RX0_23 rfl rfl dX0_examine_55 ?_
    refine k_aload_n (pc := 58) h dX0_examine_58 rfl 0 rfl ?_
    refine k_getR (pc := 59) h fl_RX0_34 rfl rfl dX0_examine_59 ?_
    refine k_aload_n (pc := 62) h dX0_examine_62 rfl 0 rfl ?_
    refine k_getR (pc := 63) h fl_RX0_16 rfl rfl dX0_examine_63 ?_
    refine k_getI (pc := 66) h fl_RX0_54 rfl rfl dX0_examine_66 ?_
    obtain ⟨s7, cs7, hf⟩ := ob_s hf
    refine k_callV0 (pc := 69) h cv_RX0_58 (c_X3_findLoans (s6 11 8) s6 s7 cs7) rfl rfl rfl (st1 := []) rfl ⟨rfl, rfl⟩ (rk hR (Nat.le_of_ble_eq_true rfl) (Nat.le_of_ble_eq_true rfl)) (Nat.le_of_ble_eq_true rfl) dX0_examine_69 ?_
    refine k_aload_n (pc := 72) h dX0_examine_72 rfl 0 rfl ?_
    refine k_getR (pc := 73) h fl_RX0_23 rfl rfl dX0_examine_73 ?_
    refine k_aload_n (pc := 76) h dX0_examine_76 rfl 0 rfl ?_
    refine k_getR (pc := 77) h fl_RX0_34 rfl rfl dX0_examine_77 ?_
    refine k_aload_n (pc := 80) h dX0_examine_80 rfl 0 rfl ?_
    refine k_getR (pc := 81) h fl_RX0_16 rfl rfl dX0_examine_81 ?_
    obtain ⟨s8, cs8, hf⟩ := ob_s hf
    refine k_callV0 (pc := 84) h cv_RX0_62 (c_X3_findHeld  s7 s8 cs8) rfl rfl rfl (st1 := []) rfl ⟨rfl, rfl⟩ (rk hR (Nat.le_of_ble_eq_true rfl) (Nat.le_of_ble_eq_true rfl)) (Nat.le_of_ble_eq_true rfl) dX0_examine_84 ?_
    refine k_aload_n (pc := 87) h dX0_examine_87 rfl 0 rfl ?_
    refine k_getR (pc := 88) h fl_RX0_23 rfl rfl dX0_examine_88 ?_
    refine k_aload_n (pc := 91) h dX0_examine_91 rfl 0 rfl ?_
    refine k_getR (pc := 92) h fl_RX0_34 rfl rfl dX0_examine_92 ?_
    refine k_aload_n (pc := 95) h dX0_examine_95 rfl 0 rfl ?_
    refine k_getR (pc := 96) h fl_RX0_16 rfl rfl dX0_examine_96 ?_
    obtain ⟨s9, cs9, hf⟩ := ob_s hf
    refine k_callV0 (pc := 99) h cv_RX0_66 (c_X3_markPoints  s8 s9 cs9) rfl rfl rfl (st1 := []) rfl ⟨rfl, rfl⟩ (rk hR (Nat.le_of_ble_eq_true rfl) (Nat.le_of_ble_eq_true rfl)) (Nat.le_of_ble_eq_true rfl) dX0_examine_99 ?_
    refine k_aload_n (pc := 102) h dX0_examine_102 rfl 0 rfl ?_
    refine k_getR (pc := 103) h fl_RX0_23 rfl rfl dX0_examine_103 ?_
    refine k_aload_n (pc := 106) h dX0_examine_106 rfl 0 rfl ?_
    refine k_getR (pc := 107) h fl_RX0_16 rfl rfl dX0_examine_107 ?_
    refine k_aload_n (pc := 110) h dX0_examine_110 rfl 0 rfl ?_
    refine k_getR (pc := 111) h fl_RX0_34 rfl rfl dX0_examine_111 ?_
    refine k_getI (pc := 114) h fl_RX0_69 rfl rfl dX0_examine_114 ?_
    obtain ⟨s10, cs10, hf⟩ := ob_s hf
    refine k_callV0 (pc := 117) h cv_RX0_74 (c_X3_findScopes (s9 0 9) s9 s10 cs10) rfl rfl rfl (st1 := []) rfl ⟨rfl, rfl⟩ (rk hR (Nat.le_of_ble_eq_true rfl) (Nat.le_of_ble_eq_true rfl)) (Nat.le_of_ble_eq_true rfl) dX0_examine_117 ?_
    refine k_aload_n (pc := 120) h dX0_examine_120 rfl 0 rfl ?_
    refine k_getR (pc := 121) h fl_RX0_30 rfl rfl dX0_examine_121 ?_
    refine k_aload_n (pc := 124) h dX0_examine_124 rfl 0 rfl ?_
    refine k_getR (pc := 125) h fl_RX0_34 rfl rfl dX0_examine_125 ?_
    refine k_aload_n (pc := 128) h dX0_examine_128 rfl 0 rfl ?_
    refine k_getR (pc := 129) h fl_RX0_23 rfl rfl dX0_examine_129 ?_
    obtain ⟨s11, cs11, hf⟩ := ob_s hf
    refine k_callV0 (pc := 132) h cv_RX0_78 (c_X1_findClashes  s10 s11 cs11) rfl rfl rfl (st1 := []) rfl ⟨rfl, rfl⟩ (rk hR (Nat.le_of_ble_eq_true rfl) (Nat.le_of_ble_eq_true rfl)) (Nat.le_of_ble_eq_true rfl) dX0_examine_132 ?_
    refine k_aload_n (pc := 135) h dX0_examine_135 rfl 0 rfl ?_
    refine k_getR (pc := 136) h fl_RX0_30 rfl rfl dX0_examine_136 ?_
    refine k_aload_n (pc := 139) h dX0_examine_139 rfl 0 rfl ?_
    refine k_getR (pc := 140) h fl_RX0_34 rfl rfl dX0_examine_140 ?_
    refine k_aload_n (pc := 143) h dX0_examine_143 rfl 0 rfl ?_
    refine k_getR (pc := 144) h fl_RX0_23 rfl rfl dX0_examine_144 ?_
    obtain ⟨s12, cs12, hf⟩ := ob_s hf
    refine k_callV0 (pc := 147) h cv_RX0_82 (c_X1_findMisuses  s11 s12 cs12) rfl rfl rfl (st1 := []) rfl ⟨rfl, rfl⟩ (rk hR (Nat.le_of_ble_eq_true rfl) (Nat.le_of_ble_eq_true rfl)) (Nat.le_of_ble_eq_true rfl) dX0_examine_147 ?_
    refine k_aload_n (pc := 150) h dX0_examine_150 rfl 0 rfl ?_
    refine k_getR (pc := 151) h fl_RX0_30 rfl rfl dX0_examine_151 ?_
    refine k_aload_n (pc := 154) h dX0_examine_154 rfl 0 rfl ?_
    refine k_getR (pc := 155) h fl_RX0_34 rfl rfl dX0_examine_155 ?_
    refine k_getI (pc := 158) h fl_RX0_69 rfl rfl dX0_examine_158 ?_
    obtain ⟨s13, cs13, hf⟩ := ob_s hf
    refine k_callV0 (pc := 161) h cv_RX0_85 (c_X1_addUp (s12 0 9) s12 s13 cs13) rfl rfl rfl (st1 := []) rfl ⟨rfl, rfl⟩ (rk hR (Nat.le_of_ble_eq_true rfl) (Nat.le_of_ble_eq_true rfl)) (Nat.le_of_ble_eq_true rfl) dX0_examine_161 ?_
    refine k_aload_n (pc := 164) h dX0_examine_164 rfl 0 rfl ?_
    refine k_iconst (pc := 165) h dX0_examine_165 kc_iconst_1 ?_
    obtain ⟨s14, es14, hf⟩ := lb_s hf
    refine k_put (pc := 166) h fl_RX0_7 fp_X0_1 rfl rfl rfl rfl dX0_examine_166 ?_
    refine k_heap es14 ?_
    obtain rfl := so1 hf
    exact k_drop [0] rfl kj4
theorem dX1_totalOf_0 : decode cX1_totalOf 0 = .ok (.iconst 0, 1) := by decide +kernel
theorem dX1_totalOf_1 : decode cX1_totalOf 1 = .ok (.istore_n 2, 1) := by decide +kernel
theorem dX1_totalOf_2 : decode cX1_totalOf 2 = .ok (.iconst 0, 1) := by decide +kernel
theorem dX1_totalOf_3 : decode cX1_totalOf 3 = .ok (.istore_n 3, 1) := by decide +kernel
theorem dX1_totalOf_4 : decode cX1_totalOf 4 = .ok (.iload_n 3, 1) := by decide +kernel
theorem dX1_totalOf_5 : decode cX1_totalOf 5 = .ok (.aload_n 0, 1) := by decide +kernel
theorem dX1_totalOf_6 : decode cX1_totalOf 6 = .ok (.getfield 15, 3) := by decide +kernel
theorem dX1_totalOf_9 : decode cX1_totalOf 9 = .ok (.if_icmp .ge 25, 3) := by decide +kernel
theorem dX1_totalOf_12 : decode cX1_totalOf 12 = .ok (.iload_n 2, 1) := by decide +kernel
theorem dX1_totalOf_13 : decode cX1_totalOf 13 = .ok (.aload_n 0, 1) := by decide +kernel
theorem dX1_totalOf_14 : decode cX1_totalOf 14 = .ok (.getfield 9, 3) := by decide +kernel
theorem dX1_totalOf_17 : decode cX1_totalOf 17 = .ok (.iload_n 3, 1) := by decide +kernel
theorem dX1_totalOf_18 : decode cX1_totalOf 18 = .ok (.iconst 4, 1) := by decide +kernel
theorem dX1_totalOf_19 : decode cX1_totalOf 19 = .ok (.imul, 1) := by decide +kernel
theorem dX1_totalOf_20 : decode cX1_totalOf 20 = .ok (.iload_n 1, 1) := by decide +kernel
theorem dX1_totalOf_21 : decode cX1_totalOf 21 = .ok (.iadd, 1) := by decide +kernel
theorem dX1_totalOf_22 : decode cX1_totalOf 22 = .ok (.iaload, 1) := by decide +kernel
theorem dX1_totalOf_23 : decode cX1_totalOf 23 = .ok (.invokestatic 81, 3) := by decide +kernel
theorem dX1_totalOf_26 : decode cX1_totalOf 26 = .ok (.iadd, 1) := by decide +kernel
theorem dX1_totalOf_27 : decode cX1_totalOf 27 = .ok (.istore_n 2, 1) := by decide +kernel
theorem dX1_totalOf_28 : decode cX1_totalOf 28 = .ok (.iinc 3 1, 3) := by decide +kernel
theorem dX1_totalOf_31 : decode cX1_totalOf 31 = .ok (.goto (-27), 3) := by decide +kernel
theorem dX1_totalOf_34 : decode cX1_totalOf 34 = .ok (.iload_n 2, 1) := by decide +kernel
theorem dX1_totalOf_35 : decode cX1_totalOf 35 = .ok (.ireturn, 1) := by decide +kernel
def f_X1_totalOf_L4 (p1 : Int32) (s0 : sh_S) (v1 : Int32) (v2 : Int32) : Option ((Int32 × Int32) ⊕ (Int32)) := (if (s0 29 1) ≤ v2 then some (.inr v1) else gu (inb ((v2 * (4 : Int32)) + p1) 96) (ob (f_J6_bitCount_0f7a4 (s0 30 (ix ((v2 * (4 : Int32)) + p1)))) (fun v5 => lb ((v1 + v5)) (fun v6 => lb (v2 + (1 : Int32)) (fun v7 => some (.inl (v6, v7)))))))
def f_X1_totalOf (p1 : Int32) (s0 : sh_S) : Option (Int32) := ob (lp (fun q => f_X1_totalOf_L4 p1 s0 q.1 q.2) FU ((0 : Int32), (0 : Int32))) (fun v3 => some v3)
set_option maxRecDepth 100000 in
set_option maxHeartbeats 4000000 in
theorem c_X1_totalOf (p1 : Int32) (s0 : sh_S) (r : Int32) (hf : f_X1_totalOf p1 s0 = some r) : Ctr yX1_totalOf cX1_totalOf 4 (some .int) ({ frames := 1, cells := 0, slots := 0, locals := 20 } : Room) shCK [.ref 29, .int p1] s0 (some (.int r)) s0 := by
  refine Ctr.mk (ri := .ireturn) (by decide) (Nat.le_of_ble_eq_true rfl) (Rt_i r) ?_
  intro G h hL hR hret
  refine k_drop (lv' := [(0, .ref 29), (1, .int p1)]) [0, 1] rfl ?_
  unfold f_X1_totalOf at hf
  refine k_iconst (pc := 0) h dX1_totalOf_0 kc_iconst_0 ?_
  refine k_istore_n (pc := 1) h dX1_totalOf_1 rfl (nk hL (by decide)) (lv' := [(0, .ref 29), (1, .int p1), (2, .int (0 : Int32))]) rfl ?_
  refine k_iconst (pc := 2) h dX1_totalOf_2 kc_iconst_0 ?_
  refine k_istore_n (pc := 3) h dX1_totalOf_3 rfl (nk hL (by decide)) (lv' := [(0, .ref 29), (1, .int p1), (2, .int (0 : Int32)), (3, .int (0 : Int32))]) rfl ?_
  obtain ⟨v3, hl, hf⟩ := ob_s hf
  refine k_drop (lv' := [(0, .ref 29), (1, .int p1), (2, .int (0 : Int32)), (3, .int (0 : Int32))]) [0, 1, 2, 3] rfl ?_
  refine lp_s (P := (fun q : Int32 × Int32 => sh_K G shCK 4 [(0, .ref 29), (1, .int p1), (2, .int q.1), (3, .int q.2)] [] s0)) (Q := (fun q : Int32 => sh_K G shCK 34 [(2, .int q)] [] s0)) (s := ((0 : Int32), (0 : Int32))) ?_ hl ?_
  · clear hf hl
    intro q rr hf kc4
    obtain ⟨v1, v2⟩ := q
    have hf : f_X1_totalOf_L4 p1 s0 v1 v2 = some rr := hf
    unfold f_X1_totalOf_L4 at hf
    refine k_iload_n (pc := 4) h dX1_totalOf_4 rfl 3 rfl ?_
    refine k_aload_n (pc := 5) h dX1_totalOf_5 rfl 0 rfl ?_
    refine k_getI (pc := 6) h fl_RX1_15 rfl rfl dX1_totalOf_6 ?_
    refine k_icmp_ge (pc := 9) (tgt := 34) h dX1_totalOf_9 rfl (fun hc => ?_) (fun hc => ?_)
    · have hf := it_p hc hf
      obtain rfl := so1 hf
      exact k_drop [2] rfl kc4
    · have hf := it_n hc hf
      refine k_iload_n (pc := 12) h dX1_totalOf_12 rfl 2 rfl ?_
      refine k_aload_n (pc := 13) h dX1_totalOf_13 rfl 0 rfl ?_
      refine k_getR (pc := 14) h fl_RX1_9 rfl rfl dX1_totalOf_14 ?_
      refine k_iload_n (pc := 17) h dX1_totalOf_17 rfl 3 rfl ?_
      refine k_iconst (pc := 18) h dX1_totalOf_18 kc_iconst_4 ?_
      refine k_imul (pc := 19) h dX1_totalOf_19 ?_
      refine k_iload_n (pc := 20) h dX1_totalOf_20 rfl 1 rfl ?_
      refine k_iadd (pc := 21) h dX1_totalOf_21 ?_
      obtain ⟨g4, hf⟩ := gu_s hf
      refine k_iald (pc := 22) (n := 96) h rfl g4 dX1_totalOf_22 ?_
      obtain ⟨v5, cv5, hf⟩ := ob_s hf
      refine k_callSp (pc := 23) h cs_RX1_81 (c_J6_bitCount_0f7a4 (s0 30 (ix ((v2 * (4 : Int32)) + p1))) _ v5 cv5) rfl rfl (st1 := [.int v5, .int v1]) rfl ⟨rfl, rfl⟩ (rk hR (Nat.le_of_ble_eq_true rfl) (Nat.le_of_ble_eq_true rfl)) (Nat.le_of_ble_eq_true rfl) dX1_totalOf_23 ?_
      refine k_iadd (pc := 26) h dX1_totalOf_26 ?_
      obtain ⟨v6, ev6, hf⟩ := lb_s hf
      refine k_top ev6 ?_
      refine k_istore_n (pc := 27) h dX1_totalOf_27 rfl (nk hL (by decide)) (lv' := [(0, .ref 29), (1, .int p1), (2, .int v6), (3, .int v2)]) rfl ?_
      obtain ⟨v7, ev7, hf⟩ := lb_s hf
      refine k_iinc (pc := 28) h dX1_totalOf_28 3 rfl ((congrArg (_ + ·) kc_iconst_1).trans ev7.symm) (nk hL (by decide)) (lv' := [(0, .ref 29), (1, .int p1), (2, .int v6), (3, .int v7)]) rfl ?_
      refine k_goto (pc := 31) (tgt := 4) h dX1_totalOf_31 rfl ?_
      obtain rfl := so1 hf
      exact k_drop [0, 1, 2, 3] rfl kc4
  · refine k_iload_n (pc := 34) h dX1_totalOf_34 rfl 0 rfl ?_
    obtain rfl := so1 hf
    exact hret 35 _ dX1_totalOf_35 trivial
theorem dX1_tell_0 : decode cX1_tell 0 = .ok (.iload_n 1, 1) := by decide +kernel
theorem dX1_tell_1 : decode cX1_tell 1 = .ok (.istore_n 3, 1) := by decide +kernel
theorem dX1_tell_2 : decode cX1_tell 2 = .ok (.iconst 0, 1) := by decide +kernel
theorem dX1_tell_3 : decode cX1_tell 3 = .ok (.istore 4, 2) := by decide +kernel
theorem dX1_tell_5 : decode cX1_tell 5 = .ok (.iload 4, 2) := by decide +kernel
theorem dX1_tell_7 : decode cX1_tell 7 = .ok (.aload_n 0, 1) := by decide +kernel
theorem dX1_tell_8 : decode cX1_tell 8 = .ok (.getfield 15, 3) := by decide +kernel
theorem dX1_tell_11 : decode cX1_tell 11 = .ok (.iconst 4, 1) := by decide +kernel
theorem dX1_tell_12 : decode cX1_tell 12 = .ok (.imul, 1) := by decide +kernel
theorem dX1_tell_13 : decode cX1_tell 13 = .ok (.if_icmp .ge 65, 3) := by decide +kernel
theorem dX1_tell_16 : decode cX1_tell 16 = .ok (.aload_n 0, 1) := by decide +kernel
theorem dX1_tell_17 : decode cX1_tell 17 = .ok (.getfield 9, 3) := by decide +kernel
theorem dX1_tell_20 : decode cX1_tell 20 = .ok (.iload 4, 2) := by decide +kernel
theorem dX1_tell_22 : decode cX1_tell 22 = .ok (.iaload, 1) := by decide +kernel
theorem dX1_tell_23 : decode cX1_tell 23 = .ok (.invokestatic 81, 3) := by decide +kernel
theorem dX1_tell_26 : decode cX1_tell 26 = .ok (.istore 5, 2) := by decide +kernel
theorem dX1_tell_28 : decode cX1_tell 28 = .ok (.iload_n 3, 1) := by decide +kernel
theorem dX1_tell_29 : decode cX1_tell 29 = .ok (.iload 5, 2) := by decide +kernel
theorem dX1_tell_31 : decode cX1_tell 31 = .ok (.if_icmp .ge 36, 3) := by decide +kernel
theorem dX1_tell_34 : decode cX1_tell 34 = .ok (.iload_n 2, 1) := by decide +kernel
theorem dX1_tell_35 : decode cX1_tell 35 = .ok (.ifCond .ne 8, 3) := by decide +kernel
theorem dX1_tell_38 : decode cX1_tell 38 = .ok (.iload 4, 2) := by decide +kernel
theorem dX1_tell_40 : decode cX1_tell 40 = .ok (.iconst 4, 1) := by decide +kernel
theorem dX1_tell_41 : decode cX1_tell 41 = .ok (.idiv, 1) := by decide +kernel
theorem dX1_tell_42 : decode cX1_tell 42 = .ok (.ireturn, 1) := by decide +kernel
theorem dX1_tell_43 : decode cX1_tell 43 = .ok (.iload_n 2, 1) := by decide +kernel
theorem dX1_tell_44 : decode cX1_tell 44 = .ok (.iconst 1, 1) := by decide +kernel
theorem dX1_tell_45 : decode cX1_tell 45 = .ok (.if_icmp .ne 10, 3) := by decide +kernel
theorem dX1_tell_48 : decode cX1_tell 48 = .ok (.iload 4, 2) := by decide +kernel
theorem dX1_tell_50 : decode cX1_tell 50 = .ok (.iconst 4, 1) := by decide +kernel
theorem dX1_tell_51 : decode cX1_tell 51 = .ok (.irem, 1) := by decide +kernel
theorem dX1_tell_52 : decode cX1_tell 52 = .ok (.goto 14, 3) := by decide +kernel
theorem dX1_tell_55 : decode cX1_tell 55 = .ok (.aload_n 0, 1) := by decide +kernel
theorem dX1_tell_56 : decode cX1_tell 56 = .ok (.getfield 9, 3) := by decide +kernel
theorem dX1_tell_59 : decode cX1_tell 59 = .ok (.iload 4, 2) := by decide +kernel
theorem dX1_tell_61 : decode cX1_tell 61 = .ok (.iaload, 1) := by decide +kernel
theorem dX1_tell_62 : decode cX1_tell 62 = .ok (.iload_n 3, 1) := by decide +kernel
theorem dX1_tell_63 : decode cX1_tell 63 = .ok (.invokestatic 87, 3) := by decide +kernel
theorem dX1_tell_66 : decode cX1_tell 66 = .ok (.ireturn, 1) := by decide +kernel
theorem dX1_tell_67 : decode cX1_tell 67 = .ok (.iload_n 3, 1) := by decide +kernel
theorem dX1_tell_68 : decode cX1_tell 68 = .ok (.iload 5, 2) := by decide +kernel
theorem dX1_tell_70 : decode cX1_tell 70 = .ok (.isub, 1) := by decide +kernel
theorem dX1_tell_71 : decode cX1_tell 71 = .ok (.istore_n 3, 1) := by decide +kernel
theorem dX1_tell_72 : decode cX1_tell 72 = .ok (.iinc 4 1, 3) := by decide +kernel
theorem dX1_tell_75 : decode cX1_tell 75 = .ok (.goto (-70), 3) := by decide +kernel
theorem dX1_tell_78 : decode cX1_tell 78 = .ok (.iconst (-1), 1) := by decide +kernel
theorem dX1_tell_79 : decode cX1_tell 79 = .ok (.ireturn, 1) := by decide +kernel
def f_X1_tell_L5 (p2 : Int32) (s0 : sh_S) (v1 : Int32) (v2 : Int32) : Option ((Int32 × Int32) ⊕ ((Unit) ⊕ (Int32))) := (if ((s0 29 1) * (4 : Int32)) ≤ v2 then some (.inr (.inl ())) else gu (inb v2 96) (ob (f_J6_bitCount_0f7a4 (s0 30 (ix v2))) (fun v4 => (if v4 ≤ v1 then lb ((v1 - v4)) (fun v5 => lb (v2 + (1 : Int32)) (fun v6 => some (.inl (v5, v6)))) else (if p2 = 0 then some (.inr (.inr (v2 / (4 : Int32)))) else ob (if p2 = (1 : Int32) then some (v2 - v2 / (4 : Int32) * (4 : Int32)) else gu (inb v2 96) (ob (f_X1_numberOfBit (s0 30 (ix v2)) v1) (fun v9 => some v9))) (fun v7 => some (.inr (.inr v7))))))))
def f_X1_tell (p1 : Int32) (p2 : Int32) (s0 : sh_S) : Option (Int32) := ob (lp (fun q => f_X1_tell_L5 p2 s0 q.1 q.2) FU (p1, (0 : Int32))) (fun ee => sm ee (fun _ => some (-1 : Int32)) (fun q => some q))
set_option maxRecDepth 100000 in
set_option maxHeartbeats 4000000 in
theorem c_X1_tell (p1 : Int32) (p2 : Int32) (s0 : sh_S) (r : Int32) (hf : f_X1_tell p1 p2 s0 = some r) : Ctr yX1_tell cX1_tell 6 (some .int) ({ frames := 2, cells := 0, slots := 0, locals := 44 } : Room) shCK [.ref 29, .int p1, .int p2] s0 (some (.int r)) s0 := by
  refine Ctr.mk (ri := .ireturn) (by decide) (Nat.le_of_ble_eq_true rfl) (Rt_i r) ?_
  intro G h hL hR hret
  refine k_drop (lv' := [(0, .ref 29), (1, .int p1), (2, .int p2)]) [0, 1, 2] rfl ?_
  unfold f_X1_tell at hf
  refine k_iload_n (pc := 0) h dX1_tell_0 rfl 1 rfl ?_
  refine k_istore_n (pc := 1) h dX1_tell_1 rfl (nk hL (by decide)) (lv' := [(0, .ref 29), (1, .int p1), (2, .int p2), (3, .int p1)]) rfl ?_
  refine k_iconst (pc := 2) h dX1_tell_2 kc_iconst_0 ?_
  refine k_istore (pc := 3) h dX1_tell_3 (nk hL (by decide)) (lv' := [(0, .ref 29), (1, .int p1), (2, .int p2), (3, .int p1), (4, .int (0 : Int32))]) rfl ?_
  obtain ⟨ee, hl, hf⟩ := ob_s hf
  refine k_drop (lv' := [(0, .ref 29), (2, .int p2), (3, .int p1), (4, .int (0 : Int32))]) [0, 2, 3, 4] rfl ?_
  refine lp_s (P := (fun q : Int32 × Int32 => sh_K G shCK 5 [(0, .ref 29), (2, .int p2), (3, .int q.1), (4, .int q.2)] [] s0)) (Q := (Sum.elim (fun q : Unit => sh_K G shCK 78 [] [] s0) (fun q : Int32 => q = r))) (s := (p1, (0 : Int32))) ?_ hl ?_
  · clear hf hl
    intro q rr hf kc5
    obtain ⟨v1, v2⟩ := q
    have hf : f_X1_tell_L5 p2 s0 v1 v2 = some rr := hf
    unfold f_X1_tell_L5 at hf
    refine k_iload (pc := 5) h dX1_tell_5 3 rfl ?_
    refine k_aload_n (pc := 7) h dX1_tell_7 rfl 0 rfl ?_
    refine k_getI (pc := 8) h fl_RX1_15 rfl rfl dX1_tell_8 ?_
    refine k_iconst (pc := 11) h dX1_tell_11 kc_iconst_4 ?_
    refine k_imul (pc := 12) h dX1_tell_12 ?_
    refine k_icmp_ge (pc := 13) (tgt := 78) h dX1_tell_13 rfl (fun hc => ?_) (fun hc => ?_)
    · have hf := it_p hc hf
      obtain rfl := so1 hf
      exact k_drop [] rfl kc5
    · have hf := it_n hc hf
      refine k_aload_n (pc := 16) h dX1_tell_16 rfl 0 rfl ?_
      refine k_getR (pc := 17) h fl_RX1_9 rfl rfl dX1_tell_17 ?_
      refine k_iload (pc := 20) h dX1_tell_20 3 rfl ?_
      obtain ⟨g3, hf⟩ := gu_s hf
      refine k_iald (pc := 22) (n := 96) h rfl g3 dX1_tell_22 ?_
      obtain ⟨v4, cv4, hf⟩ := ob_s hf
      refine k_callSp (pc := 23) h cs_RX1_81 (c_J6_bitCount_0f7a4 (s0 30 (ix v2)) _ v4 cv4) rfl rfl (st1 := [.int v4]) rfl ⟨rfl, rfl⟩ (rk hR (Nat.le_of_ble_eq_true rfl) (Nat.le_of_ble_eq_true rfl)) (Nat.le_of_ble_eq_true rfl) dX1_tell_23 ?_
      refine k_istore (pc := 26) h dX1_tell_26 (nk hL (by decide)) (lv' := [(0, .ref 29), (2, .int p2), (3, .int v1), (4, .int v2), (5, .int v4)]) rfl ?_
      refine k_iload_n (pc := 28) h dX1_tell_28 rfl 2 rfl ?_
      refine k_iload (pc := 29) h dX1_tell_29 4 rfl ?_
      refine k_icmp_ge (pc := 31) (tgt := 67) h dX1_tell_31 rfl (fun hc => ?_) (fun hc => ?_)
      · have hf := it_p hc hf
        refine k_iload_n (pc := 67) h dX1_tell_67 rfl 2 rfl ?_
        refine k_iload (pc := 68) h dX1_tell_68 4 rfl ?_
        refine k_isub (pc := 70) h dX1_tell_70 ?_
        obtain ⟨v5, ev5, hf⟩ := lb_s hf
        refine k_top ev5 ?_
        refine k_istore_n (pc := 71) h dX1_tell_71 rfl (nk hL (by decide)) (lv' := [(0, .ref 29), (2, .int p2), (3, .int v5), (4, .int v2), (5, .int v4)]) rfl ?_
        obtain ⟨v6, ev6, hf⟩ := lb_s hf
        refine k_iinc (pc := 72) h dX1_tell_72 3 rfl ((congrArg (_ + ·) kc_iconst_1).trans ev6.symm) (nk hL (by decide)) (lv' := [(0, .ref 29), (2, .int p2), (3, .int v5), (4, .int v6), (5, .int v4)]) rfl ?_
        refine k_goto (pc := 75) (tgt := 5) h dX1_tell_75 rfl ?_
        obtain rfl := so1 hf
        exact k_drop [0, 1, 2, 3] rfl kc5
      · have hf := it_n hc hf
        refine k_iload_n (pc := 34) h dX1_tell_34 rfl 1 rfl ?_
        refine k_if_ne (pc := 35) (tgt := 43) h dX1_tell_35 rfl (fun hc => ?_) (fun hc => ?_)
        · have hf := it_n hc hf
          refine k_iload_n (pc := 43) h dX1_tell_43 rfl 1 rfl ?_
          refine k_iconst (pc := 44) h dX1_tell_44 kc_iconst_1 ?_
          obtain ⟨v7, hj, hf⟩ := ob_s hf
          have kj45 : sh_K G shCK 66 [] [.int v7] s0 := by
            obtain rfl := so1 hf
            obtain rfl := sp1 kc5
            exact hret 66 _ dX1_tell_66 trivial
          clear hf
          have hf := hj
          clear hj
          refine k_icmp_ne (pc := 45) (tgt := 55) h dX1_tell_45 rfl (fun hc => ?_) (fun hc => ?_)
          · have hf := it_n hc hf
            refine k_aload_n (pc := 55) h dX1_tell_55 rfl 0 rfl ?_
            refine k_getR (pc := 56) h fl_RX1_9 rfl rfl dX1_tell_56 ?_
            refine k_iload (pc := 59) h dX1_tell_59 3 rfl ?_
            obtain ⟨g8, hf⟩ := gu_s hf
            refine k_iald (pc := 61) (n := 96) h rfl g8 dX1_tell_61 ?_
            refine k_iload_n (pc := 62) h dX1_tell_62 rfl 2 rfl ?_
            obtain ⟨v9, cv9, hf⟩ := ob_s hf
            refine k_callSp (pc := 63) h cs_RX1_87 (c_X1_numberOfBit (s0 30 (ix v2)) v1 _ v9 cv9) rfl rfl (st1 := [.int v9]) rfl ⟨rfl, rfl⟩ (rk hR (Nat.le_of_ble_eq_true rfl) (Nat.le_of_ble_eq_true rfl)) (Nat.le_of_ble_eq_true rfl) dX1_tell_63 ?_
            obtain rfl := so1 hf
            exact k_drop [] rfl kj45
          · have hf := it_p hc hf
            refine k_iload (pc := 48) h dX1_tell_48 3 rfl ?_
            refine k_iconst (pc := 50) h dX1_tell_50 kc_iconst_4 ?_
            refine k_irem (pc := 51) h dX1_tell_51 (by decide) ?_
            refine k_goto (pc := 52) (tgt := 66) h dX1_tell_52 rfl ?_
            obtain rfl := so1 hf
            exact k_drop [] rfl kj45
        · have hf := it_p hc hf
          refine k_iload (pc := 38) h dX1_tell_38 3 rfl ?_
          refine k_iconst (pc := 40) h dX1_tell_40 kc_iconst_4 ?_
          refine k_idiv (pc := 41) h dX1_tell_41 (by decide) ?_
          obtain rfl := so1 hf
          obtain rfl := sp1 kc5
          exact hret 42 _ dX1_tell_42 trivial
  · cases ee with
    | inl qq =>
      refine k_iconst (pc := 78) h dX1_tell_78 kc_iconst_m1 ?_
      obtain rfl := so1 hf
      exact hret 79 _ dX1_tell_79 trivial
    | inr qq =>
      exact (Option.some.inj hf)
theorem dX2_bearers_0 : decode cX2_bearers 0 = .ok (.iconst 1, 1) := by decide +kernel
theorem dX2_bearers_1 : decode cX2_bearers 1 = .ok (.aload_n 1, 1) := by decide +kernel
theorem dX2_bearers_2 : decode cX2_bearers 2 = .ok (.getfield 71, 3) := by decide +kernel
theorem dX2_bearers_5 : decode cX2_bearers 5 = .ok (.iload_n 2, 1) := by decide +kernel
theorem dX2_bearers_6 : decode cX2_bearers 6 = .ok (.iaload, 1) := by decide +kernel
theorem dX2_bearers_7 : decode cX2_bearers 7 = .ok (.ishl, 1) := by decide +kernel
theorem dX2_bearers_8 : decode cX2_bearers 8 = .ok (.istore_n 3, 1) := by decide +kernel
theorem dX2_bearers_9 : decode cX2_bearers 9 = .ok (.iconst 1, 1) := by decide +kernel
theorem dX2_bearers_10 : decode cX2_bearers 10 = .ok (.istore 4, 2) := by decide +kernel
theorem dX2_bearers_12 : decode cX2_bearers 12 = .ok (.iconst 0, 1) := by decide +kernel
theorem dX2_bearers_13 : decode cX2_bearers 13 = .ok (.istore 5, 2) := by decide +kernel
theorem dX2_bearers_15 : decode cX2_bearers 15 = .ok (.iload 4, 2) := by decide +kernel
theorem dX2_bearers_17 : decode cX2_bearers 17 = .ok (.ifCond .eq 99, 3) := by decide +kernel
theorem dX2_bearers_20 : decode cX2_bearers 20 = .ok (.iload 5, 2) := by decide +kernel
theorem dX2_bearers_22 : decode cX2_bearers 22 = .ok (.sipush 1000, 3) := by decide +kernel
theorem dX2_bearers_25 : decode cX2_bearers 25 = .ok (.if_icmp .ge 91, 3) := by decide +kernel
theorem dX2_bearers_28 : decode cX2_bearers 28 = .ok (.iload_n 3, 1) := by decide +kernel
theorem dX2_bearers_29 : decode cX2_bearers 29 = .ok (.istore 6, 2) := by decide +kernel
theorem dX2_bearers_31 : decode cX2_bearers 31 = .ok (.iconst 0, 1) := by decide +kernel
theorem dX2_bearers_32 : decode cX2_bearers 32 = .ok (.istore 7, 2) := by decide +kernel
theorem dX2_bearers_34 : decode cX2_bearers 34 = .ok (.iload 7, 2) := by decide +kernel
theorem dX2_bearers_36 : decode cX2_bearers 36 = .ok (.aload_n 0, 1) := by decide +kernel
theorem dX2_bearers_37 : decode cX2_bearers 37 = .ok (.getfield 33, 3) := by decide +kernel
theorem dX2_bearers_40 : decode cX2_bearers 40 = .ok (.if_icmp .ge 57, 3) := by decide +kernel
theorem dX2_bearers_43 : decode cX2_bearers 43 = .ok (.aload_n 0, 1) := by decide +kernel
theorem dX2_bearers_44 : decode cX2_bearers 44 = .ok (.getfield 27, 3) := by decide +kernel
theorem dX2_bearers_47 : decode cX2_bearers 47 = .ok (.iload 7, 2) := by decide +kernel
theorem dX2_bearers_49 : decode cX2_bearers 49 = .ok (.iaload, 1) := by decide +kernel
theorem dX2_bearers_50 : decode cX2_bearers 50 = .ok (.istore 8, 2) := by decide +kernel
theorem dX2_bearers_52 : decode cX2_bearers 52 = .ok (.iload 8, 2) := by decide +kernel
theorem dX2_bearers_54 : decode cX2_bearers 54 = .ok (.iconst (-1), 1) := by decide +kernel
theorem dX2_bearers_55 : decode cX2_bearers 55 = .ok (.if_icmp .eq 36, 3) := by decide +kernel
theorem dX2_bearers_58 : decode cX2_bearers 58 = .ok (.aload_n 0, 1) := by decide +kernel
theorem dX2_bearers_59 : decode cX2_bearers 59 = .ok (.getfield 37, 3) := by decide +kernel
theorem dX2_bearers_62 : decode cX2_bearers 62 = .ok (.iload 7, 2) := by decide +kernel
theorem dX2_bearers_64 : decode cX2_bearers 64 = .ok (.invokestatic 53, 3) := by decide +kernel
theorem dX2_bearers_67 : decode cX2_bearers 67 = .ok (.ifCond .eq 24, 3) := by decide +kernel
theorem dX2_bearers_70 : decode cX2_bearers 70 = .ok (.iload_n 3, 1) := by decide +kernel
theorem dX2_bearers_71 : decode cX2_bearers 71 = .ok (.iload 8, 2) := by decide +kernel
theorem dX2_bearers_73 : decode cX2_bearers 73 = .ok (.invokestatic 53, 3) := by decide +kernel
theorem dX2_bearers_76 : decode cX2_bearers 76 = .ok (.ifCond .eq 15, 3) := by decide +kernel
theorem dX2_bearers_79 : decode cX2_bearers 79 = .ok (.iload_n 3, 1) := by decide +kernel
theorem dX2_bearers_80 : decode cX2_bearers 80 = .ok (.iconst 1, 1) := by decide +kernel
theorem dX2_bearers_81 : decode cX2_bearers 81 = .ok (.aload_n 1, 1) := by decide +kernel
theorem dX2_bearers_82 : decode cX2_bearers 82 = .ok (.getfield 71, 3) := by decide +kernel
theorem dX2_bearers_85 : decode cX2_bearers 85 = .ok (.iload 7, 2) := by decide +kernel
theorem dX2_bearers_87 : decode cX2_bearers 87 = .ok (.iaload, 1) := by decide +kernel
theorem dX2_bearers_88 : decode cX2_bearers 88 = .ok (.ishl, 1) := by decide +kernel
theorem dX2_bearers_89 : decode cX2_bearers 89 = .ok (.ior, 1) := by decide +kernel
theorem dX2_bearers_90 : decode cX2_bearers 90 = .ok (.istore_n 3, 1) := by decide +kernel
theorem dX2_bearers_91 : decode cX2_bearers 91 = .ok (.iinc 7 1, 3) := by decide +kernel
theorem dX2_bearers_94 : decode cX2_bearers 94 = .ok (.goto (-60), 3) := by decide +kernel
theorem dX2_bearers_97 : decode cX2_bearers 97 = .ok (.iload_n 3, 1) := by decide +kernel
theorem dX2_bearers_98 : decode cX2_bearers 98 = .ok (.iload 6, 2) := by decide +kernel
theorem dX2_bearers_100 : decode cX2_bearers 100 = .ok (.if_icmp .eq 7, 3) := by decide +kernel
theorem dX2_bearers_103 : decode cX2_bearers 103 = .ok (.iconst 1, 1) := by decide +kernel
theorem dX2_bearers_104 : decode cX2_bearers 104 = .ok (.goto 4, 3) := by decide +kernel
theorem dX2_bearers_107 : decode cX2_bearers 107 = .ok (.iconst 0, 1) := by decide +kernel
theorem dX2_bearers_108 : decode cX2_bearers 108 = .ok (.istore 4, 2) := by decide +kernel
theorem dX2_bearers_110 : decode cX2_bearers 110 = .ok (.iinc 5 1, 3) := by decide +kernel
theorem dX2_bearers_113 : decode cX2_bearers 113 = .ok (.goto (-98), 3) := by decide +kernel
theorem dX2_bearers_116 : decode cX2_bearers 116 = .ok (.iload_n 3, 1) := by decide +kernel
theorem dX2_bearers_117 : decode cX2_bearers 117 = .ok (.ireturn, 1) := by decide +kernel
def f_X2_bearers_L34 (s0 : sh_S) (v7 : Int32) (v8 : Int32) : Option ((Int32 × Int32) ⊕ (Int32)) := (if (s0 11 7) ≤ v8 then some (.inr v7) else gu (inb v8 24) (lb ((s0 17 (ix v8))) (fun v11 => ob (if v11 = (-1 : Int32) then some v7 else ob (f_X9_hasBit (s0 11 8) v8) (fun v13 => (if v13 = 0 then some v7 else ob (f_X9_hasBit v7 v11) (fun v14 => (if v14 = 0 then some v7 else gu (inb v8 24) (lb ((v7 ||| ((1 : Int32) <<< ((s0 2 (ix v8)) &&& 31)))) (fun v16 => some v16))))))) (fun v12 => lb (v8 + (1 : Int32)) (fun v17 => some (.inl (v12, v17)))))))
def f_X2_bearers_L15 (s0 : sh_S) (v3 : Int32) (v4 : Int32) (v5 : Int32) : Option ((Int32 × Int32 × Int32) ⊕ (Int32)) := (if v4 = 0 then some (.inr v3) else (if (1000 : Int32) ≤ v5 then some (.inr v3) else ob (lp (fun q => f_X2_bearers_L34 s0 q.1 q.2) FU (v3, (0 : Int32))) (fun v9 => ob (if v9 = v3 then some (0 : Int32) else some (1 : Int32)) (fun v18 => lb (v5 + (1 : Int32)) (fun v19 => some (.inl (v9, v18, v19)))))))
def f_X2_bearers (p2 : Int32) (s0 : sh_S) : Option (Int32) := gu (inb p2 24) (lb (((1 : Int32) <<< ((s0 2 (ix p2)) &&& 31))) (fun v2 => ob (lp (fun q => f_X2_bearers_L15 s0 q.1 q.2.1 q.2.2) FU (v2, (1 : Int32), (0 : Int32))) (fun v6 => some v6)))
set_option maxRecDepth 100000 in
set_option maxHeartbeats 4000000 in
theorem c_X2_bearers (p2 : Int32) (s0 : sh_S) (r : Int32) (hf : f_X2_bearers p2 s0 = some r) : Ctr yX2_bearers cX2_bearers 9 (some .int) ({ frames := 1, cells := 0, slots := 0, locals := 21 } : Room) shCK [.ref 11, .ref 0, .int p2] s0 (some (.int r)) s0 := by
  refine Ctr.mk (ri := .ireturn) (by decide) (Nat.le_of_ble_eq_true rfl) (Rt_i r) ?_
  intro G h hL hR hret
  refine k_drop (lv' := [(0, .ref 11), (1, .ref 0), (2, .int p2)]) [0, 1, 2] rfl ?_
  unfold f_X2_bearers at hf
  refine k_iconst (pc := 0) h dX2_bearers_0 kc_iconst_1 ?_
  refine k_aload_n (pc := 1) h dX2_bearers_1 rfl 1 rfl ?_
  refine k_getR (pc := 2) h fl_RX2_71 rfl rfl dX2_bearers_2 ?_
  refine k_iload_n (pc := 5) h dX2_bearers_5 rfl 2 rfl ?_
  obtain ⟨g1, hf⟩ := gu_s hf
  refine k_iald (pc := 6) (n := 24) h rfl g1 dX2_bearers_6 ?_
  refine k_ishl (pc := 7) h dX2_bearers_7 ?_
  obtain ⟨v2, ev2, hf⟩ := lb_s hf
  refine k_top ev2 ?_
  refine k_istore_n (pc := 8) h dX2_bearers_8 rfl (nk hL (by decide)) (lv' := [(0, .ref 11), (1, .ref 0), (2, .int p2), (3, .int v2)]) rfl ?_
  refine k_iconst (pc := 9) h dX2_bearers_9 kc_iconst_1 ?_
  refine k_istore (pc := 10) h dX2_bearers_10 (nk hL (by decide)) (lv' := [(0, .ref 11), (1, .ref 0), (2, .int p2), (3, .int v2), (4, .int (1 : Int32))]) rfl ?_
  refine k_iconst (pc := 12) h dX2_bearers_12 kc_iconst_0 ?_
  refine k_istore (pc := 13) h dX2_bearers_13 (nk hL (by decide)) (lv' := [(0, .ref 11), (1, .ref 0), (2, .int p2), (3, .int v2), (4, .int (1 : Int32)), (5, .int (0 : Int32))]) rfl ?_
  obtain ⟨v6, hl, hf⟩ := ob_s hf
  refine k_drop (lv' := [(0, .ref 11), (1, .ref 0), (3, .int v2), (4, .int (1 : Int32)), (5, .int (0 : Int32))]) [0, 1, 3, 4, 5] rfl ?_
  refine lp_s (P := (fun q : Int32 × Int32 × Int32 => sh_K G shCK 15 [(0, .ref 11), (1, .ref 0), (3, .int q.1), (4, .int q.2.1), (5, .int q.2.2)] [] s0)) (Q := (fun q : Int32 => sh_K G shCK 116 [(3, .int q)] [] s0)) (s := (v2, (1 : Int32), (0 : Int32))) ?_ hl ?_
  · clear hf hl
    intro q rr hf kc15
    obtain ⟨v3, v4, v5⟩ := q
    have hf : f_X2_bearers_L15 s0 v3 v4 v5 = some rr := hf
    unfold f_X2_bearers_L15 at hf
    refine k_iload (pc := 15) h dX2_bearers_15 3 rfl ?_
    refine k_if_eq (pc := 17) (tgt := 116) h dX2_bearers_17 rfl (fun hc => ?_) (fun hc => ?_)
    · have hf := it_p hc hf
      obtain rfl := so1 hf
      exact k_drop [2] rfl kc15
    · have hf := it_n hc hf
      refine k_iload (pc := 20) h dX2_bearers_20 4 rfl ?_
      refine k_sipush (pc := 22) h dX2_bearers_22 kc_sipush_1000 ?_
      refine k_icmp_ge (pc := 25) (tgt := 116) h dX2_bearers_25 rfl (fun hc => ?_) (fun hc => ?_)
      · have hf := it_p hc hf
        obtain rfl := so1 hf
        exact k_drop [2] rfl kc15
      · have hf := it_n hc hf
        refine k_iload_n (pc := 28) h dX2_bearers_28 rfl 2 rfl ?_
        refine k_istore (pc := 29) h dX2_bearers_29 (nk hL (by decide)) (lv' := [(0, .ref 11), (1, .ref 0), (3, .int v3), (4, .int v4), (5, .int v5), (6, .int v3)]) rfl ?_
        refine k_iconst (pc := 31) h dX2_bearers_31 kc_iconst_0 ?_
        refine k_istore (pc := 32) h dX2_bearers_32 (nk hL (by decide)) (lv' := [(0, .ref 11), (1, .ref 0), (3, .int v3), (4, .int v4), (5, .int v5), (6, .int v3), (7, .int (0 : Int32))]) rfl ?_
        obtain ⟨v9, hl, hf⟩ := ob_s hf
        refine k_drop (lv' := [(0, .ref 11), (1, .ref 0), (3, .int v3), (5, .int v5), (6, .int v3), (7, .int (0 : Int32))]) [0, 1, 2, 4, 5, 6] rfl ?_
        refine lp_s (P := (fun q : Int32 × Int32 => sh_K G shCK 34 [(0, .ref 11), (1, .ref 0), (3, .int q.1), (5, .int v5), (6, .int v3), (7, .int q.2)] [] s0)) (Q := (fun q : Int32 => sh_K G shCK 97 [(0, .ref 11), (1, .ref 0), (3, .int q), (5, .int v5), (6, .int v3)] [] s0)) (s := (v3, (0 : Int32))) ?_ hl ?_
        · clear hf hl
          intro q rr hf kc34
          obtain ⟨v7, v8⟩ := q
          have hf : f_X2_bearers_L34 s0 v7 v8 = some rr := hf
          unfold f_X2_bearers_L34 at hf
          refine k_iload (pc := 34) h dX2_bearers_34 5 rfl ?_
          refine k_aload_n (pc := 36) h dX2_bearers_36 rfl 0 rfl ?_
          refine k_getI (pc := 37) h fl_RX2_33 rfl rfl dX2_bearers_37 ?_
          refine k_icmp_ge (pc := 40) (tgt := 97) h dX2_bearers_40 rfl (fun hc => ?_) (fun hc => ?_)
          · have hf := it_p hc hf
            obtain rfl := so1 hf
            exact k_drop [0, 1, 2, 3, 4] rfl kc34
          · have hf := it_n hc hf
            refine k_aload_n (pc := 43) h dX2_bearers_43 rfl 0 rfl ?_
            refine k_getR (pc := 44) h fl_RX2_27 rfl rfl dX2_bearers_44 ?_
            refine k_iload (pc := 47) h dX2_bearers_47 5 rfl ?_
            obtain ⟨g10, hf⟩ := gu_s hf
            refine k_iald (pc := 49) (n := 24) h rfl g10 dX2_bearers_49 ?_
            obtain ⟨v11, ev11, hf⟩ := lb_s hf
            refine k_top ev11 ?_
            refine k_istore (pc := 50) h dX2_bearers_50 (nk hL (by decide)) (lv' := [(0, .ref 11), (1, .ref 0), (3, .int v7), (5, .int v5), (6, .int v3), (7, .int v8), (8, .int v11)]) rfl ?_
            refine k_iload (pc := 52) h dX2_bearers_52 6 rfl ?_
            refine k_iconst (pc := 54) h dX2_bearers_54 kc_iconst_m1 ?_
            obtain ⟨v12, hj, hf⟩ := ob_s hf
            have kj55 : sh_K G shCK 91 [(0, .ref 11), (1, .ref 0), (3, .int v12), (5, .int v5), (6, .int v3), (7, .int v8)] [] s0 := by
              obtain ⟨v17, ev17, hf⟩ := lb_s hf
              refine k_iinc (pc := 91) h dX2_bearers_91 5 rfl ((congrArg (_ + ·) kc_iconst_1).trans ev17.symm) (nk hL (by decide)) (lv' := [(0, .ref 11), (1, .ref 0), (3, .int v12), (5, .int v5), (6, .int v3), (7, .int v17)]) rfl ?_
              refine k_goto (pc := 94) (tgt := 34) h dX2_bearers_94 rfl ?_
              obtain rfl := so1 hf
              exact k_drop [0, 1, 2, 3, 4, 5] rfl kc34
            clear hf
            have hf := hj
            clear hj
            refine k_icmp_eq (pc := 55) (tgt := 91) h dX2_bearers_55 rfl (fun hc => ?_) (fun hc => ?_)
            · have hf := it_p hc hf
              obtain rfl := so1 hf
              exact k_drop [0, 1, 2, 3, 4, 5] rfl kj55
            · have hf := it_n hc hf
              refine k_aload_n (pc := 58) h dX2_bearers_58 rfl 0 rfl ?_
              refine k_getI (pc := 59) h fl_RX2_37 rfl rfl dX2_bearers_59 ?_
              refine k_iload (pc := 62) h dX2_bearers_62 5 rfl ?_
              obtain ⟨v13, cv13, hf⟩ := ob_s hf
              refine k_callNp (pc := 64) h cn_RX2_53 (c_X9_hasBit (s0 11 8) v8 _ v13 cv13) rfl rfl (st1 := [.int v13]) rfl ⟨rfl, rfl⟩ (rk hR (Nat.le_of_ble_eq_true rfl) (Nat.le_of_ble_eq_true rfl)) (Nat.le_of_ble_eq_true rfl) dX2_bearers_64 ?_
              refine k_if_eq (pc := 67) (tgt := 91) h dX2_bearers_67 rfl (fun hc => ?_) (fun hc => ?_)
              · have hf := it_p hc hf
                obtain rfl := so1 hf
                exact k_drop [0, 1, 2, 3, 4, 5] rfl kj55
              · have hf := it_n hc hf
                refine k_iload_n (pc := 70) h dX2_bearers_70 rfl 2 rfl ?_
                refine k_iload (pc := 71) h dX2_bearers_71 6 rfl ?_
                obtain ⟨v14, cv14, hf⟩ := ob_s hf
                refine k_callNp (pc := 73) h cn_RX2_53 (c_X9_hasBit v7 v11 _ v14 cv14) rfl rfl (st1 := [.int v14]) rfl ⟨rfl, rfl⟩ (rk hR (Nat.le_of_ble_eq_true rfl) (Nat.le_of_ble_eq_true rfl)) (Nat.le_of_ble_eq_true rfl) dX2_bearers_73 ?_
                refine k_if_eq (pc := 76) (tgt := 91) h dX2_bearers_76 rfl (fun hc => ?_) (fun hc => ?_)
                · have hf := it_p hc hf
                  obtain rfl := so1 hf
                  exact k_drop [0, 1, 2, 3, 4, 5] rfl kj55
                · have hf := it_n hc hf
                  refine k_iload_n (pc := 79) h dX2_bearers_79 rfl 2 rfl ?_
                  refine k_iconst (pc := 80) h dX2_bearers_80 kc_iconst_1 ?_
                  refine k_aload_n (pc := 81) h dX2_bearers_81 rfl 1 rfl ?_
                  refine k_getR (pc := 82) h fl_RX2_71 rfl rfl dX2_bearers_82 ?_
                  refine k_iload (pc := 85) h dX2_bearers_85 5 rfl ?_
                  obtain ⟨g15, hf⟩ := gu_s hf
                  refine k_iald (pc := 87) (n := 24) h rfl g15 dX2_bearers_87 ?_
                  refine k_ishl (pc := 88) h dX2_bearers_88 ?_
                  refine k_ior (pc := 89) h dX2_bearers_89 ?_
                  obtain ⟨v16, ev16, hf⟩ := lb_s hf
                  refine k_top ev16 ?_
                  refine k_istore_n (pc := 90) h dX2_bearers_90 rfl (nk hL (by decide)) (lv' := [(0, .ref 11), (1, .ref 0), (3, .int v16), (5, .int v5), (6, .int v3), (7, .int v8), (8, .int v11)]) rfl ?_
                  obtain rfl := so1 hf
                  exact k_drop [0, 1, 2, 3, 4, 5] rfl kj55
        · refine k_iload_n (pc := 97) h dX2_bearers_97 rfl 2 rfl ?_
          refine k_iload (pc := 98) h dX2_bearers_98 4 rfl ?_
          obtain ⟨v18, hj, hf⟩ := ob_s hf
          have kj100 : sh_K G shCK 108 [(0, .ref 11), (1, .ref 0), (3, .int v9), (5, .int v5)] [.int v18] s0 := by
            refine k_istore (pc := 108) h dX2_bearers_108 (nk hL (by decide)) (lv' := [(0, .ref 11), (1, .ref 0), (3, .int v9), (4, .int v18), (5, .int v5)]) rfl ?_
            obtain ⟨v19, ev19, hf⟩ := lb_s hf
            refine k_iinc (pc := 110) h dX2_bearers_110 4 rfl ((congrArg (_ + ·) kc_iconst_1).trans ev19.symm) (nk hL (by decide)) (lv' := [(0, .ref 11), (1, .ref 0), (3, .int v9), (4, .int v18), (5, .int v19)]) rfl ?_
            refine k_goto (pc := 113) (tgt := 15) h dX2_bearers_113 rfl ?_
            obtain rfl := so1 hf
            exact k_drop [0, 1, 2, 3, 4] rfl kc15
          clear hf
          have hf := hj
          clear hj
          refine k_icmp_eq (pc := 100) (tgt := 107) h dX2_bearers_100 rfl (fun hc => ?_) (fun hc => ?_)
          · have hf := it_p hc hf
            refine k_iconst (pc := 107) h dX2_bearers_107 kc_iconst_0 ?_
            obtain rfl := so1 hf
            exact k_drop [0, 1, 2, 3] rfl kj100
          · have hf := it_n hc hf
            refine k_iconst (pc := 103) h dX2_bearers_103 kc_iconst_1 ?_
            refine k_goto (pc := 104) (tgt := 108) h dX2_bearers_104 rfl ?_
            obtain rfl := so1 hf
            exact k_drop [0, 1, 2, 3] rfl kj100
  · refine k_iload_n (pc := 116) h dX2_bearers_116 rfl 0 rfl ?_
    obtain rfl := so1 hf
    exact hret 117 _ dX2_bearers_117 trivial
theorem dX3_passable_0 : decode cX3_passable 0 = .ok (.aload_n 2, 1) := by decide +kernel
theorem dX3_passable_1 : decode cX3_passable 1 = .ok (.getfield 109, 3) := by decide +kernel
theorem dX3_passable_4 : decode cX3_passable 4 = .ok (.aload_n 1, 1) := by decide +kernel
theorem dX3_passable_5 : decode cX3_passable 5 = .ok (.getfield 81, 3) := by decide +kernel
theorem dX3_passable_8 : decode cX3_passable 8 = .ok (.iload_n 3, 1) := by decide +kernel
theorem dX3_passable_9 : decode cX3_passable 9 = .ok (.iaload, 1) := by decide +kernel
theorem dX3_passable_10 : decode cX3_passable 10 = .ok (.iaload, 1) := by decide +kernel
theorem dX3_passable_11 : decode cX3_passable 11 = .ok (.istore 4, 2) := by decide +kernel
theorem dX3_passable_13 : decode cX3_passable 13 = .ok (.iconst 0, 1) := by decide +kernel
theorem dX3_passable_14 : decode cX3_passable 14 = .ok (.istore 5, 2) := by decide +kernel
theorem dX3_passable_16 : decode cX3_passable 16 = .ok (.iload 5, 2) := by decide +kernel
theorem dX3_passable_18 : decode cX3_passable 18 = .ok (.aload_n 1, 1) := by decide +kernel
theorem dX3_passable_19 : decode cX3_passable 19 = .ok (.getfield 55, 3) := by decide +kernel
theorem dX3_passable_22 : decode cX3_passable 22 = .ok (.if_icmp .ge 34, 3) := by decide +kernel
theorem dX3_passable_25 : decode cX3_passable 25 = .ok (.aload_n 0, 1) := by decide +kernel
theorem dX3_passable_26 : decode cX3_passable 26 = .ok (.getfield 40, 3) := by decide +kernel
theorem dX3_passable_29 : decode cX3_passable 29 = .ok (.iload 5, 2) := by decide +kernel
theorem dX3_passable_31 : decode cX3_passable 31 = .ok (.iaload, 1) := by decide +kernel
theorem dX3_passable_32 : decode cX3_passable 32 = .ok (.iload_n 3, 1) := by decide +kernel
theorem dX3_passable_33 : decode cX3_passable 33 = .ok (.invokestatic 64, 3) := by decide +kernel
theorem dX3_passable_36 : decode cX3_passable 36 = .ok (.ifCond .eq 14, 3) := by decide +kernel
theorem dX3_passable_39 : decode cX3_passable 39 = .ok (.iload 4, 2) := by decide +kernel
theorem dX3_passable_41 : decode cX3_passable 41 = .ok (.iconst 1, 1) := by decide +kernel
theorem dX3_passable_42 : decode cX3_passable 42 = .ok (.iload 5, 2) := by decide +kernel
theorem dX3_passable_44 : decode cX3_passable 44 = .ok (.ishl, 1) := by decide +kernel
theorem dX3_passable_45 : decode cX3_passable 45 = .ok (.iconst (-1), 1) := by decide +kernel
theorem dX3_passable_46 : decode cX3_passable 46 = .ok (.ixor, 1) := by decide +kernel
theorem dX3_passable_47 : decode cX3_passable 47 = .ok (.iand, 1) := by decide +kernel
theorem dX3_passable_48 : decode cX3_passable 48 = .ok (.istore 4, 2) := by decide +kernel
theorem dX3_passable_50 : decode cX3_passable 50 = .ok (.iinc 5 1, 3) := by decide +kernel
theorem dX3_passable_53 : decode cX3_passable 53 = .ok (.goto (-37), 3) := by decide +kernel
theorem dX3_passable_56 : decode cX3_passable 56 = .ok (.iload 4, 2) := by decide +kernel
theorem dX3_passable_58 : decode cX3_passable 58 = .ok (.ireturn, 1) := by decide +kernel
def f_X3_passable_L16 (p3 : Int32) (s0 : sh_S) (v4 : Int32) (v5 : Int32) : Option ((Int32 × Int32) ⊕ (Int32)) := (if (s0 0 9) ≤ v5 then some (.inr v4) else gu (inb v5 24) (ob (f_X9_hasBit (s0 24 (ix v5)) p3) (fun v8 => ob (if v8 = 0 then some v4 else lb ((v4 &&& (((1 : Int32) <<< (v5 &&& 31)) ^^^ (-1 : Int32)))) (fun v10 => some v10)) (fun v9 => lb (v5 + (1 : Int32)) (fun v11 => some (.inl (v9, v11)))))))
def f_X3_passable (p3 : Int32) (s0 : sh_S) : Option (Int32) := gu (inb p3 24) (gu (inb (s0 2 (ix p3)) 8) (lb ((s0 18 (ix (s0 2 (ix p3))))) (fun v3 => ob (lp (fun q => f_X3_passable_L16 p3 s0 q.1 q.2) FU (v3, (0 : Int32))) (fun v6 => some v6))))
set_option maxRecDepth 100000 in
set_option maxHeartbeats 4000000 in
theorem c_X3_passable (p3 : Int32) (s0 : sh_S) (r : Int32) (hf : f_X3_passable p3 s0 = some r) : Ctr yX3_passable cX3_passable 6 (some .int) ({ frames := 1, cells := 0, slots := 0, locals := 21 } : Room) shCK [.ref 19, .ref 0, .ref 11, .int p3] s0 (some (.int r)) s0 := by
  refine Ctr.mk (ri := .ireturn) (by decide) (Nat.le_of_ble_eq_true rfl) (Rt_i r) ?_
  intro G h hL hR hret
  refine k_drop (lv' := [(0, .ref 19), (1, .ref 0), (2, .ref 11), (3, .int p3)]) [0, 1, 2, 3] rfl ?_
  unfold f_X3_passable at hf
  refine k_aload_n (pc := 0) h dX3_passable_0 rfl 2 rfl ?_
  refine k_getR (pc := 1) h fl_RX3_109 rfl rfl dX3_passable_1 ?_
  refine k_aload_n (pc := 4) h dX3_passable_4 rfl 1 rfl ?_
  refine k_getR (pc := 5) h fl_RX3_81 rfl rfl dX3_passable_5 ?_
  refine k_iload_n (pc := 8) h dX3_passable_8 rfl 3 rfl ?_
  obtain ⟨g1, hf⟩ := gu_s hf
  refine k_iald (pc := 9) (n := 24) h rfl g1 dX3_passable_9 ?_
  obtain ⟨g2, hf⟩ := gu_s hf
  refine k_iald (pc := 10) (n := 8) h rfl g2 dX3_passable_10 ?_
  obtain ⟨v3, ev3, hf⟩ := lb_s hf
  refine k_top ev3 ?_
  refine k_istore (pc := 11) h dX3_passable_11 (nk hL (by decide)) (lv' := [(0, .ref 19), (1, .ref 0), (2, .ref 11), (3, .int p3), (4, .int v3)]) rfl ?_
  refine k_iconst (pc := 13) h dX3_passable_13 kc_iconst_0 ?_
  refine k_istore (pc := 14) h dX3_passable_14 (nk hL (by decide)) (lv' := [(0, .ref 19), (1, .ref 0), (2, .ref 11), (3, .int p3), (4, .int v3), (5, .int (0 : Int32))]) rfl ?_
  obtain ⟨v6, hl, hf⟩ := ob_s hf
  refine k_drop (lv' := [(0, .ref 19), (1, .ref 0), (3, .int p3), (4, .int v3), (5, .int (0 : Int32))]) [0, 1, 3, 4, 5] rfl ?_
  refine lp_s (P := (fun q : Int32 × Int32 => sh_K G shCK 16 [(0, .ref 19), (1, .ref 0), (3, .int p3), (4, .int q.1), (5, .int q.2)] [] s0)) (Q := (fun q : Int32 => sh_K G shCK 56 [(4, .int q)] [] s0)) (s := (v3, (0 : Int32))) ?_ hl ?_
  · clear hf hl
    intro q rr hf kc16
    obtain ⟨v4, v5⟩ := q
    have hf : f_X3_passable_L16 p3 s0 v4 v5 = some rr := hf
    unfold f_X3_passable_L16 at hf
    refine k_iload (pc := 16) h dX3_passable_16 4 rfl ?_
    refine k_aload_n (pc := 18) h dX3_passable_18 rfl 1 rfl ?_
    refine k_getI (pc := 19) h fl_RX3_55 rfl rfl dX3_passable_19 ?_
    refine k_icmp_ge (pc := 22) (tgt := 56) h dX3_passable_22 rfl (fun hc => ?_) (fun hc => ?_)
    · have hf := it_p hc hf
      obtain rfl := so1 hf
      exact k_drop [3] rfl kc16
    · have hf := it_n hc hf
      refine k_aload_n (pc := 25) h dX3_passable_25 rfl 0 rfl ?_
      refine k_getR (pc := 26) h fl_RX3_40 rfl rfl dX3_passable_26 ?_
      refine k_iload (pc := 29) h dX3_passable_29 4 rfl ?_
      obtain ⟨g7, hf⟩ := gu_s hf
      refine k_iald (pc := 31) (n := 24) h rfl g7 dX3_passable_31 ?_
      refine k_iload_n (pc := 32) h dX3_passable_32 rfl 2 rfl ?_
      obtain ⟨v8, cv8, hf⟩ := ob_s hf
      refine k_callNp (pc := 33) h cn_RX3_64 (c_X9_hasBit (s0 24 (ix v5)) p3 _ v8 cv8) rfl rfl (st1 := [.int v8]) rfl ⟨rfl, rfl⟩ (rk hR (Nat.le_of_ble_eq_true rfl) (Nat.le_of_ble_eq_true rfl)) (Nat.le_of_ble_eq_true rfl) dX3_passable_33 ?_
      obtain ⟨v9, hj, hf⟩ := ob_s hf
      have kj36 : sh_K G shCK 50 [(0, .ref 19), (1, .ref 0), (3, .int p3), (4, .int v9), (5, .int v5)] [] s0 := by
        obtain ⟨v11, ev11, hf⟩ := lb_s hf
        refine k_iinc (pc := 50) h dX3_passable_50 4 rfl ((congrArg (_ + ·) kc_iconst_1).trans ev11.symm) (nk hL (by decide)) (lv' := [(0, .ref 19), (1, .ref 0), (3, .int p3), (4, .int v9), (5, .int v11)]) rfl ?_
        refine k_goto (pc := 53) (tgt := 16) h dX3_passable_53 rfl ?_
        obtain rfl := so1 hf
        exact k_drop [0, 1, 2, 3, 4] rfl kc16
      clear hf
      have hf := hj
      clear hj
      refine k_if_eq (pc := 36) (tgt := 50) h dX3_passable_36 rfl (fun hc => ?_) (fun hc => ?_)
      · have hf := it_p hc hf
        obtain rfl := so1 hf
        exact k_drop [0, 1, 2, 3, 4] rfl kj36
      · have hf := it_n hc hf
        refine k_iload (pc := 39) h dX3_passable_39 3 rfl ?_
        refine k_iconst (pc := 41) h dX3_passable_41 kc_iconst_1 ?_
        refine k_iload (pc := 42) h dX3_passable_42 4 rfl ?_
        refine k_ishl (pc := 44) h dX3_passable_44 ?_
        refine k_iconst (pc := 45) h dX3_passable_45 kc_iconst_m1 ?_
        refine k_ixor (pc := 46) h dX3_passable_46 ?_
        refine k_iand (pc := 47) h dX3_passable_47 ?_
        obtain ⟨v10, ev10, hf⟩ := lb_s hf
        refine k_top ev10 ?_
        refine k_istore (pc := 48) h dX3_passable_48 (nk hL (by decide)) (lv' := [(0, .ref 19), (1, .ref 0), (3, .int p3), (4, .int v10), (5, .int v5)]) rfl ?_
        obtain rfl := so1 hf
        exact k_drop [0, 1, 2, 3, 4] rfl kj36
  · refine k_iload (pc := 56) h dX3_passable_56 0 rfl ?_
    obtain rfl := so1 hf
    exact hret 58 _ dX3_passable_58 trivial
