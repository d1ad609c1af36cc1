theorem dX10_digest_0 : decode cX10_digest 0 = .ok (.ldc2_w 349, 3) := by decide +kernel
theorem dX10_digest_3 : decode cX10_digest 3 = .ok (.lstore_n 1, 1) := by decide +kernel
theorem dX10_digest_4 : decode cX10_digest 4 = .ok (.iconst 0, 1) := by decide +kernel
theorem dX10_digest_5 : decode cX10_digest 5 = .ok (.istore_n 3, 1) := by decide +kernel
theorem dX10_digest_6 : decode cX10_digest 6 = .ok (.iload_n 3, 1) := by decide +kernel
theorem dX10_digest_7 : decode cX10_digest 7 = .ok (.bipush 8, 2) := by decide +kernel
theorem dX10_digest_9 : decode cX10_digest 9 = .ok (.if_icmp .ge 22, 3) := by decide +kernel
theorem dX10_digest_12 : decode cX10_digest 12 = .ok (.ldc2_w 347, 3) := by decide +kernel
theorem dX10_digest_15 : decode cX10_digest 15 = .ok (.lload_n 1, 1) := by decide +kernel
theorem dX10_digest_16 : decode cX10_digest 16 = .ok (.lmul, 1) := by decide +kernel
theorem dX10_digest_17 : decode cX10_digest 17 = .ok (.aload_n 0, 1) := by decide +kernel
theorem dX10_digest_18 : decode cX10_digest 18 = .ok (.iload_n 3, 1) := by decide +kernel
theorem dX10_digest_19 : decode cX10_digest 19 = .ok (.invokevirtual 351, 3) := by decide +kernel
theorem dX10_digest_22 : decode cX10_digest 22 = .ok (.i2l, 1) := by decide +kernel
theorem dX10_digest_23 : decode cX10_digest 23 = .ok (.ladd, 1) := by decide +kernel
theorem dX10_digest_24 : decode cX10_digest 24 = .ok (.lstore_n 1, 1) := by decide +kernel
theorem dX10_digest_25 : decode cX10_digest 25 = .ok (.iinc 3 1, 3) := by decide +kernel
theorem dX10_digest_28 : decode cX10_digest 28 = .ok (.goto (-22), 3) := by decide +kernel
theorem dX10_digest_31 : decode cX10_digest 31 = .ok (.ldc2_w 347, 3) := by decide +kernel
theorem dX10_digest_34 : decode cX10_digest 34 = .ok (.lload_n 1, 1) := by decide +kernel
theorem dX10_digest_35 : decode cX10_digest 35 = .ok (.lmul, 1) := by decide +kernel
theorem dX10_digest_36 : decode cX10_digest 36 = .ok (.aload_n 0, 1) := by decide +kernel
theorem dX10_digest_37 : decode cX10_digest 37 = .ok (.invokevirtual 196, 3) := by decide +kernel
theorem dX10_digest_40 : decode cX10_digest 40 = .ok (.i2l, 1) := by decide +kernel
theorem dX10_digest_41 : decode cX10_digest 41 = .ok (.ladd, 1) := by decide +kernel
theorem dX10_digest_42 : decode cX10_digest 42 = .ok (.lstore_n 1, 1) := by decide +kernel
theorem dX10_digest_43 : decode cX10_digest 43 = .ok (.ldc2_w 347, 3) := by decide +kernel
theorem dX10_digest_46 : decode cX10_digest 46 = .ok (.lload_n 1, 1) := by decide +kernel
theorem dX10_digest_47 : decode cX10_digest 47 = .ok (.lmul, 1) := by decide +kernel
theorem dX10_digest_48 : decode cX10_digest 48 = .ok (.aload_n 0, 1) := by decide +kernel
theorem dX10_digest_49 : decode cX10_digest 49 = .ok (.invokevirtual 209, 3) := by decide +kernel
theorem dX10_digest_52 : decode cX10_digest 52 = .ok (.i2l, 1) := by decide +kernel
theorem dX10_digest_53 : decode cX10_digest 53 = .ok (.ladd, 1) := by decide +kernel
theorem dX10_digest_54 : decode cX10_digest 54 = .ok (.lstore_n 1, 1) := by decide +kernel
theorem dX10_digest_55 : decode cX10_digest 55 = .ok (.iconst 0, 1) := by decide +kernel
theorem dX10_digest_56 : decode cX10_digest 56 = .ok (.istore_n 3, 1) := by decide +kernel
theorem dX10_digest_57 : decode cX10_digest 57 = .ok (.iload_n 3, 1) := by decide +kernel
theorem dX10_digest_58 : decode cX10_digest 58 = .ok (.bipush 8, 2) := by decide +kernel
theorem dX10_digest_60 : decode cX10_digest 60 = .ok (.if_icmp .ge 35, 3) := by decide +kernel
theorem dX10_digest_63 : decode cX10_digest 63 = .ok (.ldc2_w 347, 3) := by decide +kernel
theorem dX10_digest_66 : decode cX10_digest 66 = .ok (.lload_n 1, 1) := by decide +kernel
theorem dX10_digest_67 : decode cX10_digest 67 = .ok (.lmul, 1) := by decide +kernel
theorem dX10_digest_68 : decode cX10_digest 68 = .ok (.aload_n 0, 1) := by decide +kernel
theorem dX10_digest_69 : decode cX10_digest 69 = .ok (.iload_n 3, 1) := by decide +kernel
theorem dX10_digest_70 : decode cX10_digest 70 = .ok (.invokevirtual 200, 3) := by decide +kernel
theorem dX10_digest_73 : decode cX10_digest 73 = .ok (.i2l, 1) := by decide +kernel
theorem dX10_digest_74 : decode cX10_digest 74 = .ok (.ladd, 1) := by decide +kernel
theorem dX10_digest_75 : decode cX10_digest 75 = .ok (.lstore_n 1, 1) := by decide +kernel
theorem dX10_digest_76 : decode cX10_digest 76 = .ok (.ldc2_w 347, 3) := by decide +kernel
theorem dX10_digest_79 : decode cX10_digest 79 = .ok (.lload_n 1, 1) := by decide +kernel
theorem dX10_digest_80 : decode cX10_digest 80 = .ok (.lmul, 1) := by decide +kernel
theorem dX10_digest_81 : decode cX10_digest 81 = .ok (.aload_n 0, 1) := by decide +kernel
theorem dX10_digest_82 : decode cX10_digest 82 = .ok (.iload_n 3, 1) := by decide +kernel
theorem dX10_digest_83 : decode cX10_digest 83 = .ok (.invokevirtual 203, 3) := by decide +kernel
theorem dX10_digest_86 : decode cX10_digest 86 = .ok (.i2l, 1) := by decide +kernel
theorem dX10_digest_87 : decode cX10_digest 87 = .ok (.ladd, 1) := by decide +kernel
theorem dX10_digest_88 : decode cX10_digest 88 = .ok (.lstore_n 1, 1) := by decide +kernel
theorem dX10_digest_89 : decode cX10_digest 89 = .ok (.iinc 3 1, 3) := by decide +kernel
theorem dX10_digest_92 : decode cX10_digest 92 = .ok (.goto (-35), 3) := by decide +kernel
theorem dX10_digest_95 : decode cX10_digest 95 = .ok (.iconst 0, 1) := by decide +kernel
theorem dX10_digest_96 : decode cX10_digest 96 = .ok (.istore_n 3, 1) := by decide +kernel
theorem dX10_digest_97 : decode cX10_digest 97 = .ok (.iload_n 3, 1) := by decide +kernel
theorem dX10_digest_98 : decode cX10_digest 98 = .ok (.aload_n 0, 1) := by decide +kernel
theorem dX10_digest_99 : decode cX10_digest 99 = .ok (.getfield 101, 3) := by decide +kernel
theorem dX10_digest_102 : decode cX10_digest 102 = .ok (.if_icmp .ge 16, 3) := by decide +kernel
theorem dX10_digest_105 : decode cX10_digest 105 = .ok (.aload_n 0, 1) := by decide +kernel
theorem dX10_digest_106 : decode cX10_digest 106 = .ok (.lload_n 1, 1) := by decide +kernel
theorem dX10_digest_107 : decode cX10_digest 107 = .ok (.iload_n 3, 1) := by decide +kernel
theorem dX10_digest_108 : decode cX10_digest 108 = .ok (.invokevirtual 354, 3) := by decide +kernel
theorem dX10_digest_111 : decode cX10_digest 111 = .ok (.lstore_n 1, 1) := by decide +kernel
theorem dX10_digest_112 : decode cX10_digest 112 = .ok (.iinc 3 1, 3) := by decide +kernel
theorem dX10_digest_115 : decode cX10_digest 115 = .ok (.goto (-18), 3) := by decide +kernel
theorem dX10_digest_118 : decode cX10_digest 118 = .ok (.iconst 0, 1) := by decide +kernel
theorem dX10_digest_119 : decode cX10_digest 119 = .ok (.istore_n 3, 1) := by decide +kernel
theorem dX10_digest_120 : decode cX10_digest 120 = .ok (.iload_n 3, 1) := by decide +kernel
theorem dX10_digest_121 : decode cX10_digest 121 = .ok (.bipush 30, 2) := by decide +kernel
theorem dX10_digest_123 : decode cX10_digest 123 = .ok (.if_icmp .ge 16, 3) := by decide +kernel
theorem dX10_digest_126 : decode cX10_digest 126 = .ok (.aload_n 0, 1) := by decide +kernel
theorem dX10_digest_127 : decode cX10_digest 127 = .ok (.lload_n 1, 1) := by decide +kernel
theorem dX10_digest_128 : decode cX10_digest 128 = .ok (.iload_n 3, 1) := by decide +kernel
theorem dX10_digest_129 : decode cX10_digest 129 = .ok (.invokevirtual 358, 3) := by decide +kernel
theorem dX10_digest_132 : decode cX10_digest 132 = .ok (.lstore_n 1, 1) := by decide +kernel
theorem dX10_digest_133 : decode cX10_digest 133 = .ok (.iinc 3 1, 3) := by decide +kernel
theorem dX10_digest_136 : decode cX10_digest 136 = .ok (.goto (-16), 3) := by decide +kernel
theorem dX10_digest_139 : decode cX10_digest 139 = .ok (.ldc2_w 347, 3) := by decide +kernel
theorem dX10_digest_142 : decode cX10_digest 142 = .ok (.lload_n 1, 1) := by decide +kernel
theorem dX10_digest_143 : decode cX10_digest 143 = .ok (.lmul, 1) := by decide +kernel
theorem dX10_digest_144 : decode cX10_digest 144 = .ok (.aload_n 0, 1) := by decide +kernel
theorem dX10_digest_145 : decode cX10_digest 145 = .ok (.iconst 0, 1) := by decide +kernel
theorem dX10_digest_146 : decode cX10_digest 146 = .ok (.invokevirtual 283, 3) := by decide +kernel
theorem dX10_digest_149 : decode cX10_digest 149 = .ok (.i2l, 1) := by decide +kernel
theorem dX10_digest_150 : decode cX10_digest 150 = .ok (.ladd, 1) := by decide +kernel
theorem dX10_digest_151 : decode cX10_digest 151 = .ok (.lstore_n 1, 1) := by decide +kernel
theorem dX10_digest_152 : decode cX10_digest 152 = .ok (.ldc2_w 347, 3) := by decide +kernel
theorem dX10_digest_155 : decode cX10_digest 155 = .ok (.lload_n 1, 1) := by decide +kernel
theorem dX10_digest_156 : decode cX10_digest 156 = .ok (.lmul, 1) := by decide +kernel
theorem dX10_digest_157 : decode cX10_digest 157 = .ok (.aload_n 0, 1) := by decide +kernel
theorem dX10_digest_158 : decode cX10_digest 158 = .ok (.iconst 1, 1) := by decide +kernel
theorem dX10_digest_159 : decode cX10_digest 159 = .ok (.invokevirtual 283, 3) := by decide +kernel
theorem dX10_digest_162 : decode cX10_digest 162 = .ok (.i2l, 1) := by decide +kernel
theorem dX10_digest_163 : decode cX10_digest 163 = .ok (.ladd, 1) := by decide +kernel
theorem dX10_digest_164 : decode cX10_digest 164 = .ok (.lstore_n 1, 1) := by decide +kernel
theorem dX10_digest_165 : decode cX10_digest 165 = .ok (.ldc2_w 347, 3) := by decide +kernel
theorem dX10_digest_168 : decode cX10_digest 168 = .ok (.lload_n 1, 1) := by decide +kernel
theorem dX10_digest_169 : decode cX10_digest 169 = .ok (.lmul, 1) := by decide +kernel
theorem dX10_digest_170 : decode cX10_digest 170 = .ok (.aload_n 0, 1) := by decide +kernel
theorem dX10_digest_171 : decode cX10_digest 171 = .ok (.invokevirtual 286, 3) := by decide +kernel
theorem dX10_digest_174 : decode cX10_digest 174 = .ok (.i2l, 1) := by decide +kernel
theorem dX10_digest_175 : decode cX10_digest 175 = .ok (.ladd, 1) := by decide +kernel
theorem dX10_digest_176 : decode cX10_digest 176 = .ok (.lstore_n 1, 1) := by decide +kernel
theorem dX10_digest_177 : decode cX10_digest 177 = .ok (.aload_n 0, 1) := by decide +kernel
theorem dX10_digest_178 : decode cX10_digest 178 = .ok (.lload_n 1, 1) := by decide +kernel
theorem dX10_digest_179 : decode cX10_digest 179 = .ok (.iconst 0, 1) := by decide +kernel
theorem dX10_digest_180 : decode cX10_digest 180 = .ok (.invokevirtual 361, 3) := by decide +kernel
theorem dX10_digest_183 : decode cX10_digest 183 = .ok (.lstore_n 1, 1) := by decide +kernel
theorem dX10_digest_184 : decode cX10_digest 184 = .ok (.aload_n 0, 1) := by decide +kernel
theorem dX10_digest_185 : decode cX10_digest 185 = .ok (.lload_n 1, 1) := by decide +kernel
theorem dX10_digest_186 : decode cX10_digest 186 = .ok (.iconst 5, 1) := by decide +kernel
theorem dX10_digest_187 : decode cX10_digest 187 = .ok (.invokevirtual 361, 3) := by decide +kernel
theorem dX10_digest_190 : decode cX10_digest 190 = .ok (.lstore_n 1, 1) := by decide +kernel
theorem dX10_digest_191 : decode cX10_digest 191 = .ok (.aload_n 0, 1) := by decide +kernel
theorem dX10_digest_192 : decode cX10_digest 192 = .ok (.lload_n 1, 1) := by decide +kernel
theorem dX10_digest_193 : decode cX10_digest 193 = .ok (.ldc_w 364, 3) := by decide +kernel
theorem dX10_digest_196 : decode cX10_digest 196 = .ok (.invokevirtual 361, 3) := by decide +kernel
theorem dX10_digest_199 : decode cX10_digest 199 = .ok (.lreturn, 1) := by decide +kernel
def f_X10_digest_L6 (v1 : Int64) (v2 : Int32) (s3 : sh_S) : Option ((Int64 × Int32 × sh_S) ⊕ (Int64 × sh_S)) := (if (8 : Int32) ≤ v2 then some (.inr (v1, s3)) else ob2 (f_X10_count v2 s3) (fun v6 s7 => lb ((((31 : Int64) * v1) + (v6.toInt64))) (fun v8 => lb (v2 + (1 : Int32)) (fun v9 => some (.inl (v8, v9, s7))))))
def f_X10_digest_L57 (v16 : Int64) (v17 : Int32) (s18 : sh_S) : Option ((Int64 × Int32 × sh_S) ⊕ (Int64 × sh_S)) := (if (8 : Int32) ≤ v17 then some (.inr (v16, s18)) else ob2 (f_X10_liveOf v17 s18) (fun v21 s22 => lb ((((31 : Int64) * v16) + (v21.toInt64))) (fun v23 => ob2 (f_X10_regionOf v17 s22) (fun v24 s25 => lb ((((31 : Int64) * v23) + (v24.toInt64))) (fun v26 => lb (v17 + (1 : Int32)) (fun v27 => some (.inl (v26, v27, s25))))))))
def f_X10_digest_L97 (v28 : Int64) (v29 : Int32) (s30 : sh_S) : Option ((Int64 × Int32 × sh_S) ⊕ (Int64 × sh_S)) := (if (s30 0 0) ≤ v29 then some (.inr (v28, s30)) else ob2 (f_X10_pointDigest v28 v29 s30) (fun v33 s34 => lb (v29 + (1 : Int32)) (fun v35 => some (.inl (v33, v35, s34)))))
def f_X10_digest_L120 (v36 : Int64) (v37 : Int32) (s38 : sh_S) : Option ((Int64 × Int32 × sh_S) ⊕ (Int64 × sh_S)) := (if (30 : Int32) ≤ v37 then some (.inr (v36, s38)) else ob2 (f_X10_errorDigest v36 v37 s38) (fun v41 s42 => lb (v37 + (1 : Int32)) (fun v43 => some (.inl (v41, v43, s42)))))
def f_X10_digest  (s0 : sh_S) : Option (Int64 × sh_S) := ob2 (lp (fun q => f_X10_digest_L6 q.1 q.2.1 q.2.2) FU ((17 : Int64), (0 : Int32), s0)) (fun v4 s5 => ob2 (f_X10_reachedOf  s5) (fun v10 s11 => lb ((((31 : Int64) * v4) + (v10.toInt64))) (fun v12 => ob2 (f_X10_loansOf  s11) (fun v13 s14 => lb ((((31 : Int64) * v12) + (v13.toInt64))) (fun v15 => ob2 (lp (fun q => f_X10_digest_L57 q.1 q.2.1 q.2.2) FU (v15, (0 : Int32), s14)) (fun v19 s20 => ob2 (lp (fun q => f_X10_digest_L97 q.1 q.2.1 q.2.2) FU (v19, (0 : Int32), s20)) (fun v31 s32 => ob2 (lp (fun q => f_X10_digest_L120 q.1 q.2.1 q.2.2) FU (v31, (0 : Int32), s32)) (fun v39 s40 => ob2 (f_X10_mendOf (0 : Int32) s40) (fun v44 s45 => lb ((((31 : Int64) * v39) + (v44.toInt64))) (fun v46 => ob2 (f_X10_mendOf (1 : Int32) s45) (fun v47 s48 => lb ((((31 : Int64) * v46) + (v47.toInt64))) (fun v49 => ob2 (f_X10_softOf  s48) (fun v50 s51 => lb ((((31 : Int64) * v49) + (v50.toInt64))) (fun v52 => ob2 (f_X10_runDigest v52 (0 : Int32) s51) (fun v53 s54 => ob2 (f_X10_runDigest v53 (5 : Int32) s54) (fun v55 s56 => ob2 (f_X10_runDigest v55 (2147483647 : Int32) s56) (fun v57 s58 => some (v57, s58))))))))))))))))))
set_option maxRecDepth 100000 in
set_option maxHeartbeats 4000000 in
theorem c_X10_digest  (s0 : sh_S) (r : Int64) (s9x : sh_S) (hf : f_X10_digest  s0 = some (r, s9x)) : Ctr yX10_digest cX10_digest 4 (some .long) ({ frames := 10, cells := 0, slots := 0, locals := 226 } : Room) shM [.ref 0] s0 (some (.long r)) s9x := by
  refine Ctr.mk (ri := .lreturn) (by decide) (Nat.le_of_ble_eq_true rfl) (Rt_l r) ?_
  intro G h hL hR hret
  refine k_drop (lv' := [(0, .ref 0)]) [0] rfl ?_
  unfold f_X10_digest at hf
  refine k_ldc2 (pc := 0) h dX10_digest_0 wd_1454 ?_
  refine k_lstore_n (pc := 3) h dX10_digest_3 rfl (nk hL (by decide)) (lv' := [(0, .ref 0), (1, .long (17 : Int64))]) rfl ?_
  refine k_iconst (pc := 4) h dX10_digest_4 kc_iconst_0 ?_
  refine k_istore_n (pc := 5) h dX10_digest_5 rfl (nk hL (by decide)) (lv' := [(0, .ref 0), (1, .long (17 : Int64)), (3, .int (0 : Int32))]) rfl ?_
  obtain ⟨v4, s5, hl, hf⟩ := ob2_s hf
  refine k_drop (lv' := [(0, .ref 0), (1, .long (17 : Int64)), (3, .int (0 : Int32))]) [0, 1, 2] rfl ?_
  refine lp_s (P := (fun q : Int64 × Int32 × sh_S => sh_K G shM 6 [(0, .ref 0), (1, .long q.1), (3, .int q.2.1)] [] q.2.2)) (Q := (fun q : Int64 × sh_S => sh_K G shM 31 [(0, .ref 0), (1, .long q.1)] [] q.2)) (s := ((17 : Int64), (0 : Int32), s0)) ?_ hl ?_
  · clear hf hl
    intro q rr hf kc6
    obtain ⟨v1, v2, s3⟩ := q
    have hf : f_X10_digest_L6 v1 v2 s3 = some rr := hf
    unfold f_X10_digest_L6 at hf
    refine k_iload_n (pc := 6) h dX10_digest_6 rfl 2 rfl ?_
    refine k_bipush (pc := 7) h dX10_digest_7 kc_bipush_8 ?_
    refine k_icmp_ge (pc := 9) (tgt := 31) h dX10_digest_9 rfl (fun hc => ?_) (fun hc => ?_)
    · have hf := it_p hc hf
      obtain rfl := so1 hf
      exact k_drop [0, 1] rfl kc6
    · have hf := it_n hc hf
      refine k_ldc2 (pc := 12) h dX10_digest_12 wd_1455 ?_
      refine k_lload_n (pc := 15) h dX10_digest_15 rfl 1 rfl ?_
      refine k_lmul (pc := 16) h dX10_digest_16 ?_
      refine k_aload_n (pc := 17) h dX10_digest_17 rfl 0 rfl ?_
      refine k_iload_n (pc := 18) h dX10_digest_18 rfl 2 rfl ?_
      obtain ⟨v6, s7, cv6, hf⟩ := ob2_s hf
      refine k_callV0 (pc := 19) h cv_RX10_351 (c_X10_count v2 s3 v6 s7 cv6) rfl rfl rfl (st1 := [.int v6, .long ((31 : Int64) * v1)]) rfl ⟨rfl, rfl⟩ (rk hR (Nat.le_of_ble_eq_true rfl) (Nat.le_of_ble_eq_true rfl)) (Nat.le_of_ble_eq_true rfl) dX10_digest_19 ?_
      refine k_i2l (pc := 22) h dX10_digest_22 ?_
      refine k_ladd (pc := 23) h dX10_digest_23 ?_
      obtain ⟨v8, ev8, hf⟩ := lb_s hf
      refine k_topl ev8 ?_
      refine k_lstore_n (pc := 24) h dX10_digest_24 rfl (nk hL (by decide)) (lv' := [(0, .ref 0), (1, .long v8), (3, .int v2)]) rfl ?_
      obtain ⟨v9, ev9, hf⟩ := lb_s hf
      refine k_iinc (pc := 25) h dX10_digest_25 2 rfl ((congrArg (_ + ·) kc_iconst_1).trans ev9.symm) (nk hL (by decide)) (lv' := [(0, .ref 0), (1, .long v8), (3, .int v9)]) rfl ?_
      refine k_goto (pc := 28) (tgt := 6) h dX10_digest_28 rfl ?_
      obtain rfl := so1 hf
      exact k_drop [0, 1, 2] rfl kc6
  · refine k_ldc2 (pc := 31) h dX10_digest_31 wd_1455 ?_
    refine k_lload_n (pc := 34) h dX10_digest_34 rfl 1 rfl ?_
    refine k_lmul (pc := 35) h dX10_digest_35 ?_
    refine k_aload_n (pc := 36) h dX10_digest_36 rfl 0 rfl ?_
    obtain ⟨v10, s11, cv10, hf⟩ := ob2_s hf
    refine k_callV0 (pc := 37) h cv_RX10_196 (c_X10_reachedOf  s5 v10 s11 cv10) rfl rfl rfl (st1 := [.int v10, .long ((31 : Int64) * v4)]) rfl ⟨rfl, rfl⟩ (rk hR (Nat.le_of_ble_eq_true rfl) (Nat.le_of_ble_eq_true rfl)) (Nat.le_of_ble_eq_true rfl) dX10_digest_37 ?_
    refine k_i2l (pc := 40) h dX10_digest_40 ?_
    refine k_ladd (pc := 41) h dX10_digest_41 ?_
    obtain ⟨v12, ev12, hf⟩ := lb_s hf
    refine k_topl ev12 ?_
    refine k_lstore_n (pc := 42) h dX10_digest_42 rfl (nk hL (by decide)) (lv' := [(0, .ref 0), (1, .long v12)]) rfl ?_
    refine k_ldc2 (pc := 43) h dX10_digest_43 wd_1455 ?_
    refine k_lload_n (pc := 46) h dX10_digest_46 rfl 1 rfl ?_
    refine k_lmul (pc := 47) h dX10_digest_47 ?_
    refine k_aload_n (pc := 48) h dX10_digest_48 rfl 0 rfl ?_
    obtain ⟨v13, s14, cv13, hf⟩ := ob2_s hf
    refine k_callV0 (pc := 49) h cv_RX10_209 (c_X10_loansOf  s11 v13 s14 cv13) rfl rfl rfl (st1 := [.int v13, .long ((31 : Int64) * v12)]) rfl ⟨rfl, rfl⟩ (rk hR (Nat.le_of_ble_eq_true rfl) (Nat.le_of_ble_eq_true rfl)) (Nat.le_of_ble_eq_true rfl) dX10_digest_49 ?_
    refine k_i2l (pc := 52) h dX10_digest_52 ?_
    refine k_ladd (pc := 53) h dX10_digest_53 ?_
    obtain ⟨v15, ev15, hf⟩ := lb_s hf
    refine k_topl ev15 ?_
    refine k_lstore_n (pc := 54) h dX10_digest_54 rfl (nk hL (by decide)) (lv' := [(0, .ref 0), (1, .long v15)]) rfl ?_
    refine k_iconst (pc := 55) h dX10_digest_55 kc_iconst_0 ?_
    refine k_istore_n (pc := 56) h dX10_digest_56 rfl (nk hL (by decide)) (lv' := [(0, .ref 0), (1, .long v15), (3, .int (0 : Int32))]) rfl ?_
    obtain ⟨v19, s20, hl, hf⟩ := ob2_s hf
    refine k_drop (lv' := [(0, .ref 0), (1, .long v15), (3, .int (0 : Int32))]) [0, 1, 2] rfl ?_
    refine lp_s (P := (fun q : Int64 × Int32 × sh_S => sh_K G shM 57 [(0, .ref 0), (1, .long q.1), (3, .int q.2.1)] [] q.2.2)) (Q := (fun q : Int64 × sh_S => sh_K G shM 95 [(0, .ref 0), (1, .long q.1)] [] q.2)) (s := (v15, (0 : Int32), s14)) ?_ hl ?_
    · clear hf hl
      intro q rr hf kc57
      obtain ⟨v16, v17, s18⟩ := q
      have hf : f_X10_digest_L57 v16 v17 s18 = some rr := hf
      unfold f_X10_digest_L57 at hf
      refine k_iload_n (pc := 57) h dX10_digest_57 rfl 2 rfl ?_
      refine k_bipush (pc := 58) h dX10_digest_58 kc_bipush_8 ?_
      refine k_icmp_ge (pc := 60) (tgt := 95) h dX10_digest_60 rfl (fun hc => ?_) (fun hc => ?_)
      · have hf := it_p hc hf
        obtain rfl := so1 hf
        exact k_drop [0, 1] rfl kc57
      · have hf := it_n hc hf
        refine k_ldc2 (pc := 63) h dX10_digest_63 wd_1455 ?_
        refine k_lload_n (pc := 66) h dX10_digest_66 rfl 1 rfl ?_
        refine k_lmul (pc := 67) h dX10_digest_67 ?_
        refine k_aload_n (pc := 68) h dX10_digest_68 rfl 0 rfl ?_
        refine k_iload_n (pc := 69) h dX10_digest_69 rfl 2 rfl ?_
        obtain ⟨v21, s22, cv21, hf⟩ := ob2_s hf
        refine k_callV0 (pc := 70) h cv_RX10_200 (c_X10_liveOf v17 s18 v21 s22 cv21) rfl rfl rfl (st1 := [.int v21, .long ((31 : Int64) * v16)]) rfl ⟨rfl, rfl⟩ (rk hR (Nat.le_of_ble_eq_true rfl) (Nat.le_of_ble_eq_true rfl)) (Nat.le_of_ble_eq_true rfl) dX10_digest_70 ?_
        refine k_i2l (pc := 73) h dX10_digest_73 ?_
        refine k_ladd (pc := 74) h dX10_digest_74 ?_
        obtain ⟨v23, ev23, hf⟩ := lb_s hf
        refine k_topl ev23 ?_
        refine k_lstore_n (pc := 75) h dX10_digest_75 rfl (nk hL (by decide)) (lv' := [(0, .ref 0), (1, .long v23), (3, .int v17)]) rfl ?_
        refine k_ldc2 (pc := 76) h dX10_digest_76 wd_1455 ?_
        refine k_lload_n (pc := 79) h dX10_digest_79 rfl 1 rfl ?_
        refine k_lmul (pc := 80) h dX10_digest_80 ?_
        refine k_aload_n (pc := 81) h dX10_digest_81 rfl 0 rfl ?_
        refine k_iload_n (pc := 82) h dX10_digest_82 rfl 2 rfl ?_
        obtain ⟨v24, s25, cv24, hf⟩ := ob2_s hf
        refine k_callV0 (pc := 83) h cv_RX10_203 (c_X10_regionOf v17 s22 v24 s25 cv24) rfl rfl rfl (st1 := [.int v24, .long ((31 : Int64) * v23)]) rfl ⟨rfl, rfl⟩ (rk hR (Nat.le_of_ble_eq_true rfl) (Nat.le_of_ble_eq_true rfl)) (Nat.le_of_ble_eq_true rfl) dX10_digest_83 ?_
        refine k_i2l (pc := 86) h dX10_digest_86 ?_
        refine k_ladd (pc := 87) h dX10_digest_87 ?_
        obtain ⟨v26, ev26, hf⟩ := lb_s hf
        refine k_topl ev26 ?_
        refine k_lstore_n (pc := 88) h dX10_digest_88 rfl (nk hL (by decide)) (lv' := [(0, .ref 0), (1, .long v26), (3, .int v17)]) rfl ?_
        obtain ⟨v27, ev27, hf⟩ := lb_s hf
        refine k_iinc (pc := 89) h dX10_digest_89 2 rfl ((congrArg (_ + ·) kc_iconst_1).trans ev27.symm) (nk hL (by decide)) (lv' := [(0, .ref 0), (1, .long v26), (3, .int v27)]) rfl ?_
        refine k_goto (pc := 92) (tgt := 57) h dX10_digest_92 rfl ?_
        obtain rfl := so1 hf
        exact k_drop [0, 1, 2] rfl kc57
    · refine k_iconst (pc := 95) h dX10_digest_95 kc_iconst_0 ?_
      refine k_istore_n (pc := 96) h dX10_digest_96 rfl (nk hL (by decide)) (lv' := [(0, .ref 0), (1, .long v19), (3, .int (0 : Int32))]) rfl ?_
      obtain ⟨v31, s32, hl, hf⟩ := ob2_s hf
      refine k_drop (lv' := [(0, .ref 0), (1, .long v19), (3, .int (0 : Int32))]) [0, 1, 2] rfl ?_
      refine lp_s (P := (fun q : Int64 × Int32 × sh_S => sh_K G shM 97 [(0, .ref 0), (1, .long q.1), (3, .int q.2.1)] [] q.2.2)) (Q := (fun q : Int64 × sh_S => sh_K G shM 118 [(0, .ref 0), (1, .long q.1)] [] q.2)) (s := (v19, (0 : Int32), s20)) ?_ hl ?_
      · clear hf hl
        intro q rr hf kc97
        obtain ⟨v28, v29, s30⟩ := q
        have hf : f_X10_digest_L97 v28 v29 s30 = some rr := hf
        unfold f_X10_digest_L97 at hf
        refine k_iload_n (pc := 97) h dX10_digest_97 rfl 2 rfl ?_
        refine k_aload_n (pc := 98) h dX10_digest_98 rfl 0 rfl ?_
        refine k_getI (pc := 99) h fl_RX10_101 rfl rfl dX10_digest_99 ?_
        refine k_icmp_ge (pc := 102) (tgt := 118) h dX10_digest_102 rfl (fun hc => ?_) (fun hc => ?_)
        · have hf := it_p hc hf
          obtain rfl := so1 hf
          exact k_drop [0, 1] rfl kc97
        · have hf := it_n hc hf
          refine k_aload_n (pc := 105) h dX10_digest_105 rfl 0 rfl ?_
          refine k_lload_n (pc := 106) h dX10_digest_106 rfl 1 rfl ?_
          refine k_iload_n (pc := 107) h dX10_digest_107 rfl 2 rfl ?_
          obtain ⟨v33, s34, cv33, hf⟩ := ob2_s hf
          refine k_callV0 (pc := 108) h cv_RX10_354 (c_X10_pointDigest v28 v29 s30 v33 s34 cv33) rfl rfl rfl (st1 := [.long v33]) rfl ⟨rfl, rfl⟩ (rk hR (Nat.le_of_ble_eq_true rfl) (Nat.le_of_ble_eq_true rfl)) (Nat.le_of_ble_eq_true rfl) dX10_digest_108 ?_
          refine k_lstore_n (pc := 111) h dX10_digest_111 rfl (nk hL (by decide)) (lv' := [(0, .ref 0), (1, .long v33), (3, .int v29)]) rfl ?_
          obtain ⟨v35, ev35, hf⟩ := lb_s hf
          refine k_iinc (pc := 112) h dX10_digest_112 2 rfl ((congrArg (_ + ·) kc_iconst_1).trans ev35.symm) (nk hL (by decide)) (lv' := [(0, .ref 0), (1, .long v33), (3, .int v35)]) rfl ?_
          refine k_goto (pc := 115) (tgt := 97) h dX10_digest_115 rfl ?_
          obtain rfl := so1 hf
          exact k_drop [0, 1, 2] rfl kc97
      · refine k_iconst (pc := 118) h dX10_digest_118 kc_iconst_0 ?_
        refine k_istore_n (pc := 119) h dX10_digest_119 rfl (nk hL (by decide)) (lv' := [(0, .ref 0), (1, .long v31), (3, .int (0 : Int32))]) rfl ?_
        obtain ⟨v39, s40, hl, hf⟩ := ob2_s hf
        refine k_drop (lv' := [(0, .ref 0), (1, .long v31), (3, .int (0 : Int32))]) [0, 1, 2] rfl ?_
        refine lp_s (P := (fun q : Int64 × Int32 × sh_S => sh_K G shM 120 [(0, .ref 0), (1, .long q.1), (3, .int q.2.1)] [] q.2.2)) (Q := (fun q : Int64 × sh_S => sh_K G shM 139 [(0, .ref 0), (1, .long q.1)] [] q.2)) (s := (v31, (0 : Int32), s32)) ?_ hl ?_
        · clear hf hl
          intro q rr hf kc120
          obtain ⟨v36, v37, s38⟩ := q
          have hf : f_X10_digest_L120 v36 v37 s38 = some rr := hf
          unfold f_X10_digest_L120 at hf
          refine k_iload_n (pc := 120) h dX10_digest_120 rfl 2 rfl ?_
          refine k_bipush (pc := 121) h dX10_digest_121 kc_bipush_30 ?_
          refine k_icmp_ge (pc := 123) (tgt := 139) h dX10_digest_123 rfl (fun hc => ?_) (fun hc => ?_)
          · have hf := it_p hc hf
            obtain rfl := so1 hf
            exact k_drop [0, 1] rfl kc120
          · have hf := it_n hc hf
            refine k_aload_n (pc := 126) h dX10_digest_126 rfl 0 rfl ?_
            refine k_lload_n (pc := 127) h dX10_digest_127 rfl 1 rfl ?_
            refine k_iload_n (pc := 128) h dX10_digest_128 rfl 2 rfl ?_
            obtain ⟨v41, s42, cv41, hf⟩ := ob2_s hf
            refine k_callV0 (pc := 129) h cv_RX10_358 (c_X10_errorDigest v36 v37 s38 v41 s42 cv41) rfl rfl rfl (st1 := [.long v41]) rfl ⟨rfl, rfl⟩ (rk hR (Nat.le_of_ble_eq_true rfl) (Nat.le_of_ble_eq_true rfl)) (Nat.le_of_ble_eq_true rfl) dX10_digest_129 ?_
            refine k_lstore_n (pc := 132) h dX10_digest_132 rfl (nk hL (by decide)) (lv' := [(0, .ref 0), (1, .long v41), (3, .int v37)]) rfl ?_
            obtain ⟨v43, ev43, hf⟩ := lb_s hf
            refine k_iinc (pc := 133) h dX10_digest_133 2 rfl ((congrArg (_ + ·) kc_iconst_1).trans ev43.symm) (nk hL (by decide)) (lv' := [(0, .ref 0), (1, .long v41), (3, .int v43)]) rfl ?_
            refine k_goto (pc := 136) (tgt := 120) h dX10_digest_136 rfl ?_
            obtain rfl := so1 hf
            exact k_drop [0, 1, 2] rfl kc120
        · refine k_ldc2 (pc := 139) h dX10_digest_139 wd_1455 ?_
          refine k_lload_n (pc := 142) h dX10_digest_142 rfl 1 rfl ?_
          refine k_lmul (pc := 143) h dX10_digest_143 ?_
          refine k_aload_n (pc := 144) h dX10_digest_144 rfl 0 rfl ?_
          refine k_iconst (pc := 145) h dX10_digest_145 kc_iconst_0 ?_
          obtain ⟨v44, s45, cv44, hf⟩ := ob2_s hf
          refine k_callV0 (pc := 146) h cv_RX10_283 (c_X10_mendOf (0 : Int32) s40 v44 s45 cv44) rfl rfl rfl (st1 := [.int v44, .long ((31 : Int64) * v39)]) rfl ⟨rfl, rfl⟩ (rk hR (Nat.le_of_ble_eq_true rfl) (Nat.le_of_ble_eq_true rfl)) (Nat.le_of_ble_eq_true rfl) dX10_digest_146 ?_
          refine k_i2l (pc := 149) h dX10_digest_149 ?_
          refine k_ladd (pc := 150) h dX10_digest_150 ?_
          obtain ⟨v46, ev46, hf⟩ := lb_s hf
          refine k_topl ev46 ?_
          refine k_lstore_n (pc := 151) h dX10_digest_151 rfl (nk hL (by decide)) (lv' := [(0, .ref 0), (1, .long v46)]) rfl ?_
          refine k_ldc2 (pc := 152) h dX10_digest_152 wd_1455 ?_
          refine k_lload_n (pc := 155) h dX10_digest_155 rfl 1 rfl ?_
          refine k_lmul (pc := 156) h dX10_digest_156 ?_
          refine k_aload_n (pc := 157) h dX10_digest_157 rfl 0 rfl ?_
          refine k_iconst (pc := 158) h dX10_digest_158 kc_iconst_1 ?_
          obtain ⟨v47, s48, cv47, hf⟩ := ob2_s hf
          refine k_callV0 (pc := 159) h cv_RX10_283 (c_X10_mendOf (1 : Int32) s45 v47 s48 cv47) rfl rfl rfl (st1 := [.int v47, .long ((31 : Int64) * v46)]) rfl ⟨rfl, rfl⟩ (rk hR (Nat.le_of_ble_eq_true rfl) (Nat.le_of_ble_eq_true rfl)) (Nat.le_of_ble_eq_true rfl) dX10_digest_159 ?_
          refine k_i2l (pc := 162) h dX10_digest_162 ?_
          refine k_ladd (pc := 163) h dX10_digest_163 ?_
          obtain ⟨v49, ev49, hf⟩ := lb_s hf
          refine k_topl ev49 ?_
          refine k_lstore_n (pc := 164) h dX10_digest_164 rfl (nk hL (by decide)) (lv' := [(0, .ref 0), (1, .long v49)]) rfl ?_
          refine k_ldc2 (pc := 165) h dX10_digest_165 wd_1455 ?_
          refine k_lload_n (pc := 168) h dX10_digest_168 rfl 1 rfl ?_
          refine k_lmul (pc := 169) h dX10_digest_169 ?_
          refine k_aload_n (pc := 170) h dX10_digest_170 rfl 0 rfl ?_
          obtain ⟨v50, s51, cv50, hf⟩ := ob2_s hf
          refine k_callV0 (pc := 171) h cv_RX10_286 (c_X10_softOf  s48 v50 s51 cv50) rfl rfl rfl (st1 := [.int v50, .long ((31 : Int64) * v49)]) rfl ⟨rfl, rfl⟩ (rk hR (Nat.le_of_ble_eq_true rfl) (Nat.le_of_ble_eq_true rfl)) (Nat.le_of_ble_eq_true rfl) dX10_digest_171 ?_
          refine k_i2l (pc := 174) h dX10_digest_174 ?_
          refine k_ladd (pc := 175) h dX10_digest_175 ?_
          obtain ⟨v52, ev52, hf⟩ := lb_s hf
          refine k_topl ev52 ?_
          refine k_lstore_n (pc := 176) h dX10_digest_176 rfl (nk hL (by decide)) (lv' := [(0, .ref 0), (1, .long v52)]) rfl ?_
          refine k_aload_n (pc := 177) h dX10_digest_177 rfl 0 rfl ?_
          refine k_lload_n (pc := 178) h dX10_digest_178 rfl 1 rfl ?_
          refine k_iconst (pc := 179) h dX10_digest_179 kc_iconst_0 ?_
          obtain ⟨v53, s54, cv53, hf⟩ := ob2_s hf
          refine k_callV0 (pc := 180) h cv_RX10_361 (c_X10_runDigest v52 (0 : Int32) s51 v53 s54 cv53) rfl rfl rfl (st1 := [.long v53]) rfl ⟨rfl, rfl⟩ (rk hR (Nat.le_of_ble_eq_true rfl) (Nat.le_of_ble_eq_true rfl)) (Nat.le_of_ble_eq_true rfl) dX10_digest_180 ?_
          refine k_lstore_n (pc := 183) h dX10_digest_183 rfl (nk hL (by decide)) (lv' := [(0, .ref 0), (1, .long v53)]) rfl ?_
          refine k_aload_n (pc := 184) h dX10_digest_184 rfl 0 rfl ?_
          refine k_lload_n (pc := 185) h dX10_digest_185 rfl 1 rfl ?_
          refine k_iconst (pc := 186) h dX10_digest_186 kc_iconst_5 ?_
          obtain ⟨v55, s56, cv55, hf⟩ := ob2_s hf
          refine k_callV0 (pc := 187) h cv_RX10_361 (c_X10_runDigest v53 (5 : Int32) s54 v55 s56 cv55) rfl rfl rfl (st1 := [.long v55]) rfl ⟨rfl, rfl⟩ (rk hR (Nat.le_of_ble_eq_true rfl) (Nat.le_of_ble_eq_true rfl)) (Nat.le_of_ble_eq_true rfl) dX10_digest_187 ?_
          refine k_lstore_n (pc := 190) h dX10_digest_190 rfl (nk hL (by decide)) (lv' := [(0, .ref 0), (1, .long v55)]) rfl ?_
          refine k_aload_n (pc := 191) h dX10_digest_191 rfl 0 rfl ?_
          refine k_lload_n (pc := 192) h dX10_digest_192 rfl 1 rfl ?_
          refine k_ldcw (pc := 193) h dX10_digest_193 wd_1469 ?_
          obtain ⟨v57, s58, cv57, hf⟩ := ob2_s hf
          refine k_callV0 (pc := 196) h cv_RX10_361 (c_X10_runDigest v55 (2147483647 : Int32) s56 v57 s58 cv57) rfl rfl rfl (st1 := [.long v57]) rfl ⟨rfl, rfl⟩ (rk hR (Nat.le_of_ble_eq_true rfl) (Nat.le_of_ble_eq_true rfl)) (Nat.le_of_ble_eq_true rfl) dX10_digest_196 ?_
          obtain ⟨rfl, rfl⟩ := so2 hf
          exact hret 199 _ dX10_digest_199 trivial
