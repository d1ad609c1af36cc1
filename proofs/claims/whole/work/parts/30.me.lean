theorem dX10_runs_0 : decode cX10_runs 0 = .ok (.iconst 0, 1) := by decide +kernel
theorem dX10_runs_1 : decode cX10_runs 1 = .ok (.istore_n 3, 1) := by decide +kernel
theorem dX10_runs_2 : decode cX10_runs 2 = .ok (.iconst 0, 1) := by decide +kernel
theorem dX10_runs_3 : decode cX10_runs 3 = .ok (.istore 4, 2) := by decide +kernel
theorem dX10_runs_5 : decode cX10_runs 5 = .ok (.aload_n 0, 1) := by decide +kernel
theorem dX10_runs_6 : decode cX10_runs 6 = .ok (.iconst 0, 1) := by decide +kernel
theorem dX10_runs_7 : decode cX10_runs 7 = .ok (.putfield 289, 3) := by decide +kernel
theorem dX10_runs_10 : decode cX10_runs 10 = .ok (.aload_n 0, 1) := by decide +kernel
theorem dX10_runs_11 : decode cX10_runs 11 = .ok (.iconst (-1), 1) := by decide +kernel
theorem dX10_runs_12 : decode cX10_runs 12 = .ok (.putfield 309, 3) := by decide +kernel
theorem dX10_runs_15 : decode cX10_runs 15 = .ok (.aload_n 0, 1) := by decide +kernel
theorem dX10_runs_16 : decode cX10_runs 16 = .ok (.iconst (-1), 1) := by decide +kernel
theorem dX10_runs_17 : decode cX10_runs 17 = .ok (.putfield 312, 3) := by decide +kernel
theorem dX10_runs_20 : decode cX10_runs 20 = .ok (.aload_n 0, 1) := by decide +kernel
theorem dX10_runs_21 : decode cX10_runs 21 = .ok (.iconst 0, 1) := by decide +kernel
theorem dX10_runs_22 : decode cX10_runs 22 = .ok (.putfield 315, 3) := by decide +kernel
theorem dX10_runs_25 : decode cX10_runs 25 = .ok (.iconst 0, 1) := by decide +kernel
theorem dX10_runs_26 : decode cX10_runs 26 = .ok (.istore 5, 2) := by decide +kernel
theorem dX10_runs_28 : decode cX10_runs 28 = .ok (.iload 5, 2) := by decide +kernel
theorem dX10_runs_30 : decode cX10_runs 30 = .ok (.bipush 8, 2) := by decide +kernel
theorem dX10_runs_32 : decode cX10_runs 32 = .ok (.if_icmp .ge 17, 3) := by decide +kernel
theorem dX10_runs_35 : decode cX10_runs 35 = .ok (.aload_n 0, 1) := by decide +kernel
theorem dX10_runs_36 : decode cX10_runs 36 = .ok (.getfield 70, 3) := by decide +kernel
theorem dX10_runs_39 : decode cX10_runs 39 = .ok (.iload 5, 2) := by decide +kernel
theorem dX10_runs_41 : decode cX10_runs 41 = .ok (.iconst (-1), 1) := by decide +kernel
theorem dX10_runs_42 : decode cX10_runs 42 = .ok (.iastore, 1) := by decide +kernel
theorem dX10_runs_43 : decode cX10_runs 43 = .ok (.iinc 5 1, 3) := by decide +kernel
theorem dX10_runs_46 : decode cX10_runs 46 = .ok (.goto (-18), 3) := by decide +kernel
theorem dX10_runs_49 : decode cX10_runs 49 = .ok (.aload_n 0, 1) := by decide +kernel
theorem dX10_runs_50 : decode cX10_runs 50 = .ok (.iload_n 3, 1) := by decide +kernel
theorem dX10_runs_51 : decode cX10_runs 51 = .ok (.invokevirtual 109, 3) := by decide +kernel
theorem dX10_runs_54 : decode cX10_runs 54 = .ok (.ifCond .eq 159, 3) := by decide +kernel
theorem dX10_runs_57 : decode cX10_runs 57 = .ok (.aload_n 0, 1) := by decide +kernel
theorem dX10_runs_58 : decode cX10_runs 58 = .ok (.getfield 315, 3) := by decide +kernel
theorem dX10_runs_61 : decode cX10_runs 61 = .ok (.iload_n 2, 1) := by decide +kernel
theorem dX10_runs_62 : decode cX10_runs 62 = .ok (.if_icmp .ge 151, 3) := by decide +kernel
theorem dX10_runs_65 : decode cX10_runs 65 = .ok (.aload_n 0, 1) := by decide +kernel
theorem dX10_runs_66 : decode cX10_runs 66 = .ok (.getfield 309, 3) := by decide +kernel
theorem dX10_runs_69 : decode cX10_runs 69 = .ok (.iconst (-1), 1) := by decide +kernel
theorem dX10_runs_70 : decode cX10_runs 70 = .ok (.if_icmp .ne 143, 3) := by decide +kernel
theorem dX10_runs_73 : decode cX10_runs 73 = .ok (.aload_n 0, 1) := by decide +kernel
theorem dX10_runs_74 : decode cX10_runs 74 = .ok (.iload_n 3, 1) := by decide +kernel
theorem dX10_runs_75 : decode cX10_runs 75 = .ok (.invokevirtual 318, 3) := by decide +kernel
theorem dX10_runs_78 : decode cX10_runs 78 = .ok (.istore 5, 2) := by decide +kernel
theorem dX10_runs_80 : decode cX10_runs 80 = .ok (.aload_n 0, 1) := by decide +kernel
theorem dX10_runs_81 : decode cX10_runs 81 = .ok (.dup, 1) := by decide +kernel
theorem dX10_runs_82 : decode cX10_runs 82 = .ok (.getfield 315, 3) := by decide +kernel
theorem dX10_runs_85 : decode cX10_runs 85 = .ok (.iconst 1, 1) := by decide +kernel
theorem dX10_runs_86 : decode cX10_runs 86 = .ok (.iadd, 1) := by decide +kernel
theorem dX10_runs_87 : decode cX10_runs 87 = .ok (.putfield 315, 3) := by decide +kernel
theorem dX10_runs_90 : decode cX10_runs 90 = .ok (.iload 5, 2) := by decide +kernel
theorem dX10_runs_92 : decode cX10_runs 92 = .ok (.iconst (-1), 1) := by decide +kernel
theorem dX10_runs_93 : decode cX10_runs 93 = .ok (.if_icmp .eq 17, 3) := by decide +kernel
theorem dX10_runs_96 : decode cX10_runs 96 = .ok (.aload_n 0, 1) := by decide +kernel
theorem dX10_runs_97 : decode cX10_runs 97 = .ok (.iload_n 3, 1) := by decide +kernel
theorem dX10_runs_98 : decode cX10_runs 98 = .ok (.putfield 309, 3) := by decide +kernel
theorem dX10_runs_101 : decode cX10_runs 101 = .ok (.aload_n 0, 1) := by decide +kernel
theorem dX10_runs_102 : decode cX10_runs 102 = .ok (.iload 5, 2) := by decide +kernel
theorem dX10_runs_104 : decode cX10_runs 104 = .ok (.putfield 312, 3) := by decide +kernel
theorem dX10_runs_107 : decode cX10_runs 107 = .ok (.goto 103, 3) := by decide +kernel
theorem dX10_runs_110 : decode cX10_runs 110 = .ok (.aload_n 0, 1) := by decide +kernel
theorem dX10_runs_111 : decode cX10_runs 111 = .ok (.iload_n 3, 1) := by decide +kernel
theorem dX10_runs_112 : decode cX10_runs 112 = .ok (.invokevirtual 321, 3) := by decide +kernel
theorem dX10_runs_115 : decode cX10_runs 115 = .ok (.aload_n 0, 1) := by decide +kernel
theorem dX10_runs_116 : decode cX10_runs 116 = .ok (.getfield 7, 3) := by decide +kernel
theorem dX10_runs_119 : decode cX10_runs 119 = .ok (.iload_n 3, 1) := by decide +kernel
theorem dX10_runs_120 : decode cX10_runs 120 = .ok (.iaload, 1) := by decide +kernel
theorem dX10_runs_121 : decode cX10_runs 121 = .ok (.bipush 8, 2) := by decide +kernel
theorem dX10_runs_123 : decode cX10_runs 123 = .ok (.if_icmp .eq 26, 3) := by decide +kernel
theorem dX10_runs_126 : decode cX10_runs 126 = .ok (.aload_n 0, 1) := by decide +kernel
theorem dX10_runs_127 : decode cX10_runs 127 = .ok (.getfield 7, 3) := by decide +kernel
theorem dX10_runs_130 : decode cX10_runs 130 = .ok (.iload_n 3, 1) := by decide +kernel
theorem dX10_runs_131 : decode cX10_runs 131 = .ok (.iaload, 1) := by decide +kernel
theorem dX10_runs_132 : decode cX10_runs 132 = .ok (.bipush 7, 2) := by decide +kernel
theorem dX10_runs_134 : decode cX10_runs 134 = .ok (.if_icmp .ne 19, 3) := by decide +kernel
theorem dX10_runs_137 : decode cX10_runs 137 = .ok (.iload_n 1, 1) := by decide +kernel
theorem dX10_runs_138 : decode cX10_runs 138 = .ok (.iload 4, 2) := by decide +kernel
theorem dX10_runs_140 : decode cX10_runs 140 = .ok (.bipush 31, 2) := by decide +kernel
theorem dX10_runs_142 : decode cX10_runs 142 = .ok (.irem, 1) := by decide +kernel
theorem dX10_runs_143 : decode cX10_runs 143 = .ok (.invokestatic 89, 3) := by decide +kernel
theorem dX10_runs_146 : decode cX10_runs 146 = .ok (.ifCond .eq 7, 3) := by decide +kernel
theorem dX10_runs_149 : decode cX10_runs 149 = .ok (.iconst 1, 1) := by decide +kernel
theorem dX10_runs_150 : decode cX10_runs 150 = .ok (.goto 4, 3) := by decide +kernel
theorem dX10_runs_153 : decode cX10_runs 153 = .ok (.iconst 0, 1) := by decide +kernel
theorem dX10_runs_154 : decode cX10_runs 154 = .ok (.istore 6, 2) := by decide +kernel
theorem dX10_runs_156 : decode cX10_runs 156 = .ok (.iload 4, 2) := by decide +kernel
theorem dX10_runs_158 : decode cX10_runs 158 = .ok (.aload_n 0, 1) := by decide +kernel
theorem dX10_runs_159 : decode cX10_runs 159 = .ok (.getfield 7, 3) := by decide +kernel
theorem dX10_runs_162 : decode cX10_runs 162 = .ok (.iload_n 3, 1) := by decide +kernel
theorem dX10_runs_163 : decode cX10_runs 163 = .ok (.iaload, 1) := by decide +kernel
theorem dX10_runs_164 : decode cX10_runs 164 = .ok (.bipush 7, 2) := by decide +kernel
theorem dX10_runs_166 : decode cX10_runs 166 = .ok (.if_icmp .ne 7, 3) := by decide +kernel
theorem dX10_runs_169 : decode cX10_runs 169 = .ok (.iconst 1, 1) := by decide +kernel
theorem dX10_runs_170 : decode cX10_runs 170 = .ok (.goto 4, 3) := by decide +kernel
theorem dX10_runs_173 : decode cX10_runs 173 = .ok (.iconst 0, 1) := by decide +kernel
theorem dX10_runs_174 : decode cX10_runs 174 = .ok (.iadd, 1) := by decide +kernel
theorem dX10_runs_175 : decode cX10_runs 175 = .ok (.istore 4, 2) := by decide +kernel
theorem dX10_runs_177 : decode cX10_runs 177 = .ok (.aload_n 0, 1) := by decide +kernel
theorem dX10_runs_178 : decode cX10_runs 178 = .ok (.getfield 7, 3) := by decide +kernel
theorem dX10_runs_181 : decode cX10_runs 181 = .ok (.iload_n 3, 1) := by decide +kernel
theorem dX10_runs_182 : decode cX10_runs 182 = .ok (.iaload, 1) := by decide +kernel
theorem dX10_runs_183 : decode cX10_runs 183 = .ok (.bipush 9, 2) := by decide +kernel
theorem dX10_runs_185 : decode cX10_runs 185 = .ok (.if_icmp .ne 7, 3) := by decide +kernel
theorem dX10_runs_188 : decode cX10_runs 188 = .ok (.iconst (-1), 1) := by decide +kernel
theorem dX10_runs_189 : decode cX10_runs 189 = .ok (.goto 20, 3) := by decide +kernel
theorem dX10_runs_192 : decode cX10_runs 192 = .ok (.iload 6, 2) := by decide +kernel
theorem dX10_runs_194 : decode cX10_runs 194 = .ok (.ifCond .eq 12, 3) := by decide +kernel
theorem dX10_runs_197 : decode cX10_runs 197 = .ok (.aload_n 0, 1) := by decide +kernel
theorem dX10_runs_198 : decode cX10_runs 198 = .ok (.getfield 19, 3) := by decide +kernel
theorem dX10_runs_201 : decode cX10_runs 201 = .ok (.iload_n 3, 1) := by decide +kernel
theorem dX10_runs_202 : decode cX10_runs 202 = .ok (.iaload, 1) := by decide +kernel
theorem dX10_runs_203 : decode cX10_runs 203 = .ok (.goto 6, 3) := by decide +kernel
theorem dX10_runs_206 : decode cX10_runs 206 = .ok (.iload_n 3, 1) := by decide +kernel
theorem dX10_runs_207 : decode cX10_runs 207 = .ok (.iconst 1, 1) := by decide +kernel
theorem dX10_runs_208 : decode cX10_runs 208 = .ok (.iadd, 1) := by decide +kernel
theorem dX10_runs_209 : decode cX10_runs 209 = .ok (.istore_n 3, 1) := by decide +kernel
theorem dX10_runs_210 : decode cX10_runs 210 = .ok (.goto (-161), 3) := by decide +kernel
theorem dX10_runs_213 : decode cX10_runs 213 = .ok (.return_, 1) := by decide +kernel
def f_X10_runs_L28 (v5 : Int32) (s6 : sh_S) : Option ((Int32 × sh_S) ⊕ (sh_S)) := (if (8 : Int32) ≤ v5 then some (.inr s6) else gu (inb v5 8) (lb (ur s6 21 (upd (s6 21) (ix v5) (-1 : Int32))) (fun s9 => lb (v5 + (1 : Int32)) (fun v10 => some (.inl (v10, s9))))))
def f_X10_runs_L49 (p1 : Int32) (p2 : Int32) (v11 : Int32) (v12 : Int32) (s13 : sh_S) : Option ((Int32 × Int32 × sh_S) ⊕ (sh_S)) := ob (f_X10_isPoint v11 s13) (fun v15 => (if v15 = 0 then some (.inr s13) else (if p2 ≤ (s13 0 29) then some (.inr s13) else (if (s13 0 27) = (-1 : Int32) then ob (f_X10_whyBad v11 s13) (fun v16 => lb (ur s13 0 (upd (s13 0) 29 ((s13 0 29) + (1 : Int32)))) (fun s17 => ob3 (if v16 = (-1 : Int32) then ob (f_X10_does v11 s17) (fun s21 => gu (inb v11 24) (ob (if (s21 1 (ix v11)) = (8 : Int32) then some (1 : Int32) else gu (inb v11 24) ((if (s21 1 (ix v11)) = (7 : Int32) then ob (f_X10_isIn p1 (v12 - v12 / (31 : Int32) * (31 : Int32))) (fun v25 => (if v25 = 0 then some (0 : Int32) else some (1 : Int32))) else some (0 : Int32)))) (fun v23 => gu (inb v11 24) (ob (if (s21 1 (ix v11)) = (7 : Int32) then some (1 : Int32) else some (0 : Int32)) (fun v27 => lb ((v12 + v27)) (fun v28 => gu (inb v11 24) (ob (if (s21 1 (ix v11)) = (9 : Int32) then some (-1 : Int32) else (if v23 = 0 then some (v11 + (1 : Int32)) else gu (inb v11 24) (some (s21 4 (ix v11))))) (fun v30 => some (v30, v28, s21))))))))) else lb (ur s17 0 (upd (s17 0) 27 v11)) (fun s32 => lb (ur s32 0 (upd (s32 0) 28 v16)) (fun s33 => some (v11, v12, s33)))) (fun v18 v19 s20 => some (.inl (v18, v19, s20))))) else some (.inr s13)))))
def f_X10_runs (p1 : Int32) (p2 : Int32) (s0 : sh_S) : Option (sh_S) := lb (ur s0 0 (upd (s0 0) 19 (0 : Int32))) (fun s1 => lb (ur s1 0 (upd (s1 0) 27 (-1 : Int32))) (fun s2 => lb (ur s2 0 (upd (s2 0) 28 (-1 : Int32))) (fun s3 => lb (ur s3 0 (upd (s3 0) 29 (0 : Int32))) (fun s4 => ob (lp (fun q => f_X10_runs_L28 q.1 q.2) FU ((0 : Int32), s4)) (fun s7 => ob (lp (fun q => f_X10_runs_L49 p1 p2 q.1 q.2.1 q.2.2) FU ((0 : Int32), (0 : Int32), s7)) (fun s14 => some s14))))))
set_option maxRecDepth 100000 in
set_option maxHeartbeats 4000000 in
theorem c_X10_runs (p1 : Int32) (p2 : Int32) (s0 : sh_S) (s9x : sh_S) (hf : f_X10_runs p1 p2 s0 = some s9x) : Ctr yX10_runs cX10_runs 7 none ({ frames := 4, cells := 0, slots := 0, locals := 92 } : Room) shM [.ref 0, .int p1, .int p2] s0 none s9x := by
  refine Ctr.mk (ri := .return_) (by decide) (Nat.le_of_ble_eq_true rfl) (Rt_v) ?_
  intro G h hL hR hret
  refine k_drop (lv' := [(0, .ref 0), (1, .int p1), (2, .int p2)]) [0, 1, 2] rfl ?_
  unfold f_X10_runs at hf
  refine k_iconst (pc := 0) h dX10_runs_0 kc_iconst_0 ?_
  refine k_istore_n (pc := 1) h dX10_runs_1 rfl (nk hL (by decide)) (lv' := [(0, .ref 0), (1, .int p1), (2, .int p2), (3, .int (0 : Int32))]) rfl ?_
  refine k_iconst (pc := 2) h dX10_runs_2 kc_iconst_0 ?_
  refine k_istore (pc := 3) h dX10_runs_3 (nk hL (by decide)) (lv' := [(0, .ref 0), (1, .int p1), (2, .int p2), (3, .int (0 : Int32)), (4, .int (0 : Int32))]) rfl ?_
  refine k_aload_n (pc := 5) h dX10_runs_5 rfl 0 rfl ?_
  refine k_iconst (pc := 6) h dX10_runs_6 kc_iconst_0 ?_
  obtain ⟨s1, es1, hf⟩ := lb_s hf
  refine k_put (pc := 7) h fl_RX10_289 fp_X10_19 rfl rfl rfl rfl dX10_runs_7 ?_
  refine k_heap es1 ?_
  refine k_aload_n (pc := 10) h dX10_runs_10 rfl 0 rfl ?_
  refine k_iconst (pc := 11) h dX10_runs_11 kc_iconst_m1 ?_
  obtain ⟨s2, es2, hf⟩ := lb_s hf
  refine k_put (pc := 12) h fl_RX10_309 fp_X10_27 rfl rfl rfl rfl dX10_runs_12 ?_
  refine k_heap es2 ?_
  refine k_aload_n (pc := 15) h dX10_runs_15 rfl 0 rfl ?_
  refine k_iconst (pc := 16) h dX10_runs_16 kc_iconst_m1 ?_
  obtain ⟨s3, es3, hf⟩ := lb_s hf
  refine k_put (pc := 17) h fl_RX10_312 fp_X10_28 rfl rfl rfl rfl dX10_runs_17 ?_
  refine k_heap es3 ?_
  refine k_aload_n (pc := 20) h dX10_runs_20 rfl 0 rfl ?_
  refine k_iconst (pc := 21) h dX10_runs_21 kc_iconst_0 ?_
  obtain ⟨s4, es4, hf⟩ := lb_s hf
  refine k_put (pc := 22) h fl_RX10_315 fp_X10_29 rfl rfl rfl rfl dX10_runs_22 ?_
  refine k_heap es4 ?_
  refine k_iconst (pc := 25) h dX10_runs_25 kc_iconst_0 ?_
  refine k_istore (pc := 26) h dX10_runs_26 (nk hL (by decide)) (lv' := [(0, .ref 0), (1, .int p1), (2, .int p2), (3, .int (0 : Int32)), (4, .int (0 : Int32)), (5, .int (0 : Int32))]) rfl ?_
  obtain ⟨s7, hl, hf⟩ := ob_s hf
  refine k_drop (lv' := [(0, .ref 0), (1, .int p1), (2, .int p2), (3, .int (0 : Int32)), (4, .int (0 : Int32)), (5, .int (0 : Int32))]) [0, 1, 2, 3, 4, 5] rfl ?_
  refine lp_s (P := (fun q : Int32 × sh_S => sh_K G shM 28 [(0, .ref 0), (1, .int p1), (2, .int p2), (3, .int (0 : Int32)), (4, .int (0 : Int32)), (5, .int q.1)] [] q.2)) (Q := (fun q : sh_S => sh_K G shM 49 [(0, .ref 0), (1, .int p1), (2, .int p2), (3, .int (0 : Int32)), (4, .int (0 : Int32))] [] q)) (s := ((0 : Int32), s4)) ?_ hl ?_
  · clear hf hl
    intro q rr hf kc28
    obtain ⟨v5, s6⟩ := q
    have hf : f_X10_runs_L28 v5 s6 = some rr := hf
    unfold f_X10_runs_L28 at hf
    refine k_iload (pc := 28) h dX10_runs_28 5 rfl ?_
    refine k_bipush (pc := 30) h dX10_runs_30 kc_bipush_8 ?_
    refine k_icmp_ge (pc := 32) (tgt := 49) h dX10_runs_32 rfl (fun hc => ?_) (fun hc => ?_)
    · have hf := it_p hc hf
      obtain rfl := so1 hf
      exact k_drop [0, 1, 2, 3, 4] rfl kc28
    · have hf := it_n hc hf
      refine k_aload_n (pc := 35) h dX10_runs_35 rfl 0 rfl ?_
      refine k_getR (pc := 36) h fl_RX10_70 rfl rfl dX10_runs_36 ?_
      refine k_iload (pc := 39) h dX10_runs_39 5 rfl ?_
      refine k_iconst (pc := 41) h dX10_runs_41 kc_iconst_m1 ?_
      obtain ⟨g8, hf⟩ := gu_s hf
      obtain ⟨s9, es9, hf⟩ := lb_s hf
      refine k_iast (pc := 42) (n := 8) h rfl g8 dX10_runs_42 ?_
      refine k_heap es9 ?_
      obtain ⟨v10, ev10, hf⟩ := lb_s hf
      refine k_iinc (pc := 43) h dX10_runs_43 5 rfl ((congrArg (_ + ·) kc_iconst_1).trans ev10.symm) (nk hL (by decide)) (lv' := [(0, .ref 0), (1, .int p1), (2, .int p2), (3, .int (0 : Int32)), (4, .int (0 : Int32)), (5, .int v10)]) rfl ?_
      refine k_goto (pc := 46) (tgt := 28) h dX10_runs_46 rfl ?_
      obtain rfl := so1 hf
      exact k_drop [0, 1, 2, 3, 4, 5] rfl kc28
  · obtain ⟨s14, hl, hf⟩ := ob_s hf
    refine k_drop (lv' := [(0, .ref 0), (1, .int p1), (2, .int p2), (3, .int (0 : Int32)), (4, .int (0 : Int32))]) [0, 1, 2, 3, 4] rfl ?_
    refine lp_s (P := (fun q : Int32 × Int32 × sh_S => sh_K G shM 49 [(0, .ref 0), (1, .int p1), (2, .int p2), (3, .int q.1), (4, .int q.2.1)] [] q.2.2)) (Q := (fun q : sh_S => sh_K G shM 213 [] [] q)) (s := ((0 : Int32), (0 : Int32), s7)) ?_ hl ?_
    · clear hf hl
      intro q rr hf kc49
      obtain ⟨v11, v12, s13⟩ := q
      have hf : f_X10_runs_L49 p1 p2 v11 v12 s13 = some rr := hf
      unfold f_X10_runs_L49 at hf
      refine k_aload_n (pc := 49) h dX10_runs_49 rfl 0 rfl ?_
      refine k_iload_n (pc := 50) h dX10_runs_50 rfl 3 rfl ?_
      obtain ⟨v15, cv15, hf⟩ := ob_s hf
      refine k_callV0 (pc := 51) h cv_RX10_109 (c_X10_isPoint v11 s13 v15 cv15) rfl rfl rfl (st1 := [.int v15]) rfl ⟨rfl, rfl⟩ (rk hR (Nat.le_of_ble_eq_true rfl) (Nat.le_of_ble_eq_true rfl)) (Nat.le_of_ble_eq_true rfl) dX10_runs_51 ?_
      refine k_if_eq (pc := 54) (tgt := 213) h dX10_runs_54 rfl (fun hc => ?_) (fun hc => ?_)
      · have hf := it_p hc hf
        obtain rfl := so1 hf
        exact k_drop [] rfl kc49
      · have hf := it_n hc hf
        refine k_aload_n (pc := 57) h dX10_runs_57 rfl 0 rfl ?_
        refine k_getI (pc := 58) h fl_RX10_315 rfl rfl dX10_runs_58 ?_
        refine k_iload_n (pc := 61) h dX10_runs_61 rfl 2 rfl ?_
        refine k_icmp_ge (pc := 62) (tgt := 213) h dX10_runs_62 rfl (fun hc => ?_) (fun hc => ?_)
        · have hf := it_p hc hf
          obtain rfl := so1 hf
          exact k_drop [] rfl kc49
        · have hf := it_n hc hf
          refine k_aload_n (pc := 65) h dX10_runs_65 rfl 0 rfl ?_
          refine k_getI (pc := 66) h fl_RX10_309 rfl rfl dX10_runs_66 ?_
          refine k_iconst (pc := 69) h dX10_runs_69 kc_iconst_m1 ?_
          refine k_icmp_ne (pc := 70) (tgt := 213) h dX10_runs_70 rfl (fun hc => ?_) (fun hc => ?_)
          · have hf := it_n hc hf
            obtain rfl := so1 hf
            exact k_drop [] rfl kc49
          · have hf := it_p hc hf
            refine k_aload_n (pc := 73) h dX10_runs_73 rfl 0 rfl ?_
            refine k_iload_n (pc := 74) h dX10_runs_74 rfl 3 rfl ?_
            obtain ⟨v16, cv16, hf⟩ := ob_s hf
            refine k_callV0 (pc := 75) h cv_RX10_318 (c_X10_whyBad v11 s13 v16 cv16) rfl rfl rfl (st1 := [.int v16]) rfl ⟨rfl, rfl⟩ (rk hR (Nat.le_of_ble_eq_true rfl) (Nat.le_of_ble_eq_true rfl)) (Nat.le_of_ble_eq_true rfl) dX10_runs_75 ?_
            refine k_istore (pc := 78) h dX10_runs_78 (nk hL (by decide)) (lv' := [(0, .ref 0), (1, .int p1), (2, .int p2), (3, .int v11), (4, .int v12), (5, .int v16)]) rfl ?_
            refine k_aload_n (pc := 80) h dX10_runs_80 rfl 0 rfl ?_
            refine k_dup (pc := 81) h dX10_runs_81 rfl ?_
            refine k_getI (pc := 82) h fl_RX10_315 rfl rfl dX10_runs_82 ?_
            refine k_iconst (pc := 85) h dX10_runs_85 kc_iconst_1 ?_
            refine k_iadd (pc := 86) h dX10_runs_86 ?_
            obtain ⟨s17, es17, hf⟩ := lb_s hf
            refine k_put (pc := 87) h fl_RX10_315 fp_X10_29 rfl rfl rfl rfl dX10_runs_87 ?_
            refine k_heap es17 ?_
            refine k_iload (pc := 90) h dX10_runs_90 5 rfl ?_
            refine k_iconst (pc := 92) h dX10_runs_92 kc_iconst_m1 ?_
            obtain ⟨v18, v19, s20, hj, hf⟩ := ob3_s hf
            have kj93 : sh_K G shM 210 [(0, .ref 0), (1, .int p1), (2, .int p2), (3, .int v18), (4, .int v19)] [] s20 := by
              refine k_goto (pc := 210) (tgt := 49) h dX10_runs_210 rfl ?_
              obtain rfl := so1 hf
              exact k_drop [0, 1, 2, 3, 4] rfl kc49
            clear hf
            have hf := hj
            clear hj
            refine k_icmp_eq (pc := 93) (tgt := 110) h dX10_runs_93 rfl (fun hc => ?_) (fun hc => ?_)
            · have hf := it_p hc hf
              refine k_aload_n (pc := 110) h dX10_runs_110 rfl 0 rfl ?_
              refine k_iload_n (pc := 111) h dX10_runs_111 rfl 3 rfl ?_
              obtain ⟨s21, cs21, hf⟩ := ob_s hf
              refine k_callV0 (pc := 112) h cv_RX10_321 (c_X10_does v11 s17 s21 cs21) rfl rfl rfl (st1 := []) rfl ⟨rfl, rfl⟩ (rk hR (Nat.le_of_ble_eq_true rfl) (Nat.le_of_ble_eq_true rfl)) (Nat.le_of_ble_eq_true rfl) dX10_runs_112 ?_
              refine k_aload_n (pc := 115) h dX10_runs_115 rfl 0 rfl ?_
              refine k_getR (pc := 116) h fl_RX10_7 rfl rfl dX10_runs_116 ?_
              refine k_iload_n (pc := 119) h dX10_runs_119 rfl 3 rfl ?_
              obtain ⟨g22, hf⟩ := gu_s hf
              refine k_iald (pc := 120) (n := 24) h rfl g22 dX10_runs_120 ?_
              refine k_bipush (pc := 121) h dX10_runs_121 kc_bipush_8 ?_
              obtain ⟨v23, hj, hf⟩ := ob_s hf
              have kj123 : sh_K G shM 154 [(0, .ref 0), (1, .int p1), (2, .int p2), (3, .int v11), (4, .int v12)] [.int v23] s21 := by
                refine k_istore (pc := 154) h dX10_runs_154 (nk hL (by decide)) (lv' := [(0, .ref 0), (1, .int p1), (2, .int p2), (3, .int v11), (4, .int v12), (6, .int v23)]) rfl ?_
                refine k_iload (pc := 156) h dX10_runs_156 4 rfl ?_
                refine k_aload_n (pc := 158) h dX10_runs_158 rfl 0 rfl ?_
                refine k_getR (pc := 159) h fl_RX10_7 rfl rfl dX10_runs_159 ?_
                refine k_iload_n (pc := 162) h dX10_runs_162 rfl 3 rfl ?_
                obtain ⟨g26, hf⟩ := gu_s hf
                refine k_iald (pc := 163) (n := 24) h rfl g26 dX10_runs_163 ?_
                refine k_bipush (pc := 164) h dX10_runs_164 kc_bipush_7 ?_
                obtain ⟨v27, hj, hf⟩ := ob_s hf
                have kj166 : sh_K G shM 174 [(0, .ref 0), (1, .int p1), (2, .int p2), (3, .int v11), (6, .int v23)] [.int v27, .int v12] s21 := by
                  refine k_iadd (pc := 174) h dX10_runs_174 ?_
                  obtain ⟨v28, ev28, hf⟩ := lb_s hf
                  refine k_top ev28 ?_
                  refine k_istore (pc := 175) h dX10_runs_175 (nk hL (by decide)) (lv' := [(0, .ref 0), (1, .int p1), (2, .int p2), (3, .int v11), (4, .int v28), (6, .int v23)]) rfl ?_
                  refine k_aload_n (pc := 177) h dX10_runs_177 rfl 0 rfl ?_
                  refine k_getR (pc := 178) h fl_RX10_7 rfl rfl dX10_runs_178 ?_
                  refine k_iload_n (pc := 181) h dX10_runs_181 rfl 3 rfl ?_
                  obtain ⟨g29, hf⟩ := gu_s hf
                  refine k_iald (pc := 182) (n := 24) h rfl g29 dX10_runs_182 ?_
                  refine k_bipush (pc := 183) h dX10_runs_183 kc_bipush_9 ?_
                  obtain ⟨v30, hj, hf⟩ := ob_s hf
                  have kj185 : sh_K G shM 209 [(0, .ref 0), (1, .int p1), (2, .int p2), (4, .int v28)] [.int v30] s21 := by
                    refine k_istore_n (pc := 209) h dX10_runs_209 rfl (nk hL (by decide)) (lv' := [(0, .ref 0), (1, .int p1), (2, .int p2), (3, .int v30), (4, .int v28)]) rfl ?_
                    obtain ⟨rfl, rfl, rfl⟩ := so3 hf
                    exact k_drop [0, 1, 2, 3, 4] rfl kj93
                  clear hf
                  have hf := hj
                  clear hj
                  refine k_icmp_ne (pc := 185) (tgt := 192) h dX10_runs_185 rfl (fun hc => ?_) (fun hc => ?_)
                  · have hf := it_n hc hf
                    refine k_iload (pc := 192) h dX10_runs_192 5 rfl ?_
                    refine k_if_eq (pc := 194) (tgt := 206) h dX10_runs_194 rfl (fun hc => ?_) (fun hc => ?_)
                    · have hf := it_p hc hf
                      refine k_iload_n (pc := 206) h dX10_runs_206 rfl 3 rfl ?_
                      refine k_iconst (pc := 207) h dX10_runs_207 kc_iconst_1 ?_
                      refine k_iadd (pc := 208) h dX10_runs_208 ?_
                      obtain rfl := so1 hf
                      exact k_drop [0, 1, 2, 4] rfl kj185
                    · have hf := it_n hc hf
                      refine k_aload_n (pc := 197) h dX10_runs_197 rfl 0 rfl ?_
                      refine k_getR (pc := 198) h fl_RX10_19 rfl rfl dX10_runs_198 ?_
                      refine k_iload_n (pc := 201) h dX10_runs_201 rfl 3 rfl ?_
                      obtain ⟨g31, hf⟩ := gu_s hf
                      refine k_iald (pc := 202) (n := 24) h rfl g31 dX10_runs_202 ?_
                      refine k_goto (pc := 203) (tgt := 209) h dX10_runs_203 rfl ?_
                      obtain rfl := so1 hf
                      exact k_drop [0, 1, 2, 4] rfl kj185
                  · have hf := it_p hc hf
                    refine k_iconst (pc := 188) h dX10_runs_188 kc_iconst_m1 ?_
                    refine k_goto (pc := 189) (tgt := 209) h dX10_runs_189 rfl ?_
                    obtain rfl := so1 hf
                    exact k_drop [0, 1, 2, 4] rfl kj185
                clear hf
                have hf := hj
                clear hj
                refine k_icmp_ne (pc := 166) (tgt := 173) h dX10_runs_166 rfl (fun hc => ?_) (fun hc => ?_)
                · have hf := it_n hc hf
                  refine k_iconst (pc := 173) h dX10_runs_173 kc_iconst_0 ?_
                  obtain rfl := so1 hf
                  exact k_drop [0, 1, 2, 3, 5] rfl kj166
                · have hf := it_p hc hf
                  refine k_iconst (pc := 169) h dX10_runs_169 kc_iconst_1 ?_
                  refine k_goto (pc := 170) (tgt := 174) h dX10_runs_170 rfl ?_
                  obtain rfl := so1 hf
                  exact k_drop [0, 1, 2, 3, 5] rfl kj166
              clear hf
              have hf := hj
              clear hj
              refine k_icmp_eq (pc := 123) (tgt := 149) h dX10_runs_123 rfl (fun hc => ?_) (fun hc => ?_)
              · have hf := it_p hc hf
                refine k_iconst (pc := 149) h dX10_runs_149 kc_iconst_1 ?_
                refine k_goto (pc := 150) (tgt := 154) h dX10_runs_150 rfl ?_
                obtain rfl := so1 hf
                exact k_drop [0, 1, 2, 3, 4] rfl kj123
              · have hf := it_n hc hf
                refine k_aload_n (pc := 126) h dX10_runs_126 rfl 0 rfl ?_
                refine k_getR (pc := 127) h fl_RX10_7 rfl rfl dX10_runs_127 ?_
                refine k_iload_n (pc := 130) h dX10_runs_130 rfl 3 rfl ?_
                obtain ⟨g24, hf⟩ := gu_s hf
                refine k_iald (pc := 131) (n := 24) h rfl g24 dX10_runs_131 ?_
                refine k_bipush (pc := 132) h dX10_runs_132 kc_bipush_7 ?_
                refine k_icmp_ne (pc := 134) (tgt := 153) h dX10_runs_134 rfl (fun hc => ?_) (fun hc => ?_)
                · have hf := it_n hc hf
                  refine k_iconst (pc := 153) h dX10_runs_153 kc_iconst_0 ?_
                  obtain rfl := so1 hf
                  exact k_drop [0, 1, 2, 3, 4] rfl kj123
                · have hf := it_p hc hf
                  refine k_iload_n (pc := 137) h dX10_runs_137 rfl 1 rfl ?_
                  refine k_iload (pc := 138) h dX10_runs_138 4 rfl ?_
                  refine k_bipush (pc := 140) h dX10_runs_140 kc_bipush_31 ?_
                  refine k_irem (pc := 142) h dX10_runs_142 (by decide) ?_
                  obtain ⟨v25, cv25, hf⟩ := ob_s hf
                  refine k_callSp (pc := 143) h cs_RX10_89 (c_X10_isIn p1 (v12 - v12 / (31 : Int32) * (31 : Int32)) _ v25 cv25) rfl rfl (st1 := [.int v25]) rfl ⟨rfl, rfl⟩ (rk hR (Nat.le_of_ble_eq_true rfl) (Nat.le_of_ble_eq_true rfl)) (Nat.le_of_ble_eq_true rfl) dX10_runs_143 ?_
                  refine k_if_eq (pc := 146) (tgt := 153) h dX10_runs_146 rfl (fun hc => ?_) (fun hc => ?_)
                  · have hf := it_p hc hf
                    refine k_iconst (pc := 153) h dX10_runs_153 kc_iconst_0 ?_
                    obtain rfl := so1 hf
                    exact k_drop [0, 1, 2, 3, 4] rfl kj123
                  · have hf := it_n hc hf
                    refine k_iconst (pc := 149) h dX10_runs_149 kc_iconst_1 ?_
                    refine k_goto (pc := 150) (tgt := 154) h dX10_runs_150 rfl ?_
                    obtain rfl := so1 hf
                    exact k_drop [0, 1, 2, 3, 4] rfl kj123
            · have hf := it_n hc hf
              refine k_aload_n (pc := 96) h dX10_runs_96 rfl 0 rfl ?_
              refine k_iload_n (pc := 97) h dX10_runs_97 rfl 3 rfl ?_
              obtain ⟨s32, es32, hf⟩ := lb_s hf
              refine k_put (pc := 98) h fl_RX10_309 fp_X10_27 rfl rfl rfl rfl dX10_runs_98 ?_
              refine k_heap es32 ?_
              refine k_aload_n (pc := 101) h dX10_runs_101 rfl 0 rfl ?_
              refine k_iload (pc := 102) h dX10_runs_102 5 rfl ?_
              obtain ⟨s33, es33, hf⟩ := lb_s hf
              refine k_put (pc := 104) h fl_RX10_312 fp_X10_28 rfl rfl rfl rfl dX10_runs_104 ?_
              refine k_heap es33 ?_
              refine k_goto (pc := 107) (tgt := 210) h dX10_runs_107 rfl ?_
              obtain ⟨rfl, rfl, rfl⟩ := so3 hf
              exact k_drop [0, 1, 2, 3, 4] rfl kj93
    · obtain rfl := so1 hf
      exact hret 213 _ dX10_runs_213 trivial
theorem dX10_runOf_0 : decode cX10_runOf 0 = .ok (.aload_n 0, 1) := by decide +kernel
theorem dX10_runOf_1 : decode cX10_runOf 1 = .ok (.iload_n 1, 1) := by decide +kernel
theorem dX10_runOf_2 : decode cX10_runOf 2 = .ok (.iload_n 2, 1) := by decide +kernel
theorem dX10_runOf_3 : decode cX10_runOf 3 = .ok (.invokevirtual 324, 3) := by decide +kernel
theorem dX10_runOf_6 : decode cX10_runOf 6 = .ok (.iload_n 3, 1) := by decide +kernel
theorem dX10_runOf_7 : decode cX10_runOf 7 = .ok (.ifCond .ne 10, 3) := by decide +kernel
theorem dX10_runOf_10 : decode cX10_runOf 10 = .ok (.aload_n 0, 1) := by decide +kernel
theorem dX10_runOf_11 : decode cX10_runOf 11 = .ok (.getfield 309, 3) := by decide +kernel
theorem dX10_runOf_14 : decode cX10_runOf 14 = .ok (.goto 19, 3) := by decide +kernel
theorem dX10_runOf_17 : decode cX10_runOf 17 = .ok (.iload_n 3, 1) := by decide +kernel
theorem dX10_runOf_18 : decode cX10_runOf 18 = .ok (.iconst 1, 1) := by decide +kernel
theorem dX10_runOf_19 : decode cX10_runOf 19 = .ok (.if_icmp .ne 10, 3) := by decide +kernel
theorem dX10_runOf_22 : decode cX10_runOf 22 = .ok (.aload_n 0, 1) := by decide +kernel
theorem dX10_runOf_23 : decode cX10_runOf 23 = .ok (.getfield 312, 3) := by decide +kernel
theorem dX10_runOf_26 : decode cX10_runOf 26 = .ok (.goto 7, 3) := by decide +kernel
theorem dX10_runOf_29 : decode cX10_runOf 29 = .ok (.aload_n 0, 1) := by decide +kernel
theorem dX10_runOf_30 : decode cX10_runOf 30 = .ok (.getfield 315, 3) := by decide +kernel
theorem dX10_runOf_33 : decode cX10_runOf 33 = .ok (.ireturn, 1) := by decide +kernel
def f_X10_runOf (p1 : Int32) (p2 : Int32) (p3 : Int32) (s0 : sh_S) : Option (Int32 × sh_S) := ob (f_X10_runs p1 p2 s0) (fun s1 => ob (if p3 = 0 then some (s1 0 27) else (if p3 = (1 : Int32) then some (s1 0 28) else some (s1 0 29))) (fun v2 => some (v2, s1)))
set_option maxRecDepth 100000 in
set_option maxHeartbeats 4000000 in
theorem c_X10_runOf (p1 : Int32) (p2 : Int32) (p3 : Int32) (s0 : sh_S) (r : Int32) (s9x : sh_S) (hf : f_X10_runOf p1 p2 p3 s0 = some (r, s9x)) : Ctr yX10_runOf cX10_runOf 4 (some .int) ({ frames := 5, cells := 0, slots := 0, locals := 118 } : Room) shM [.ref 0, .int p1, .int p2, .int p3] s0 (some (.int r)) s9x := by
  refine Ctr.mk (ri := .ireturn) (by decide) (Nat.le_of_ble_eq_true rfl) (Rt_i r) ?_
  intro G h hL hR hret
  refine k_drop (lv' := [(0, .ref 0), (1, .int p1), (2, .int p2), (3, .int p3)]) [0, 1, 2, 3] rfl ?_
  unfold f_X10_runOf at hf
  refine k_aload_n (pc := 0) h dX10_runOf_0 rfl 0 rfl ?_
  refine k_iload_n (pc := 1) h dX10_runOf_1 rfl 1 rfl ?_
  refine k_iload_n (pc := 2) h dX10_runOf_2 rfl 2 rfl ?_
  obtain ⟨s1, cs1, hf⟩ := ob_s hf
  refine k_callV0 (pc := 3) h cv_RX10_324 (c_X10_runs p1 p2 s0 s1 cs1) rfl rfl rfl (st1 := []) rfl ⟨rfl, rfl⟩ (rk hR (Nat.le_of_ble_eq_true rfl) (Nat.le_of_ble_eq_true rfl)) (Nat.le_of_ble_eq_true rfl) dX10_runOf_3 ?_
  refine k_iload_n (pc := 6) h dX10_runOf_6 rfl 3 rfl ?_
  obtain ⟨v2, hj, hf⟩ := ob_s hf
  have kj7 : sh_K G shM 33 [] [.int v2] s1 := by
    obtain ⟨rfl, rfl⟩ := so2 hf
    exact hret 33 _ dX10_runOf_33 trivial
  clear hf
  have hf := hj
  clear hj
  refine k_if_ne (pc := 7) (tgt := 17) h dX10_runOf_7 rfl (fun hc => ?_) (fun hc => ?_)
  · have hf := it_n hc hf
    refine k_iload_n (pc := 17) h dX10_runOf_17 rfl 3 rfl ?_
    refine k_iconst (pc := 18) h dX10_runOf_18 kc_iconst_1 ?_
    refine k_icmp_ne (pc := 19) (tgt := 29) h dX10_runOf_19 rfl (fun hc => ?_) (fun hc => ?_)
    · have hf := it_n hc hf
      refine k_aload_n (pc := 29) h dX10_runOf_29 rfl 0 rfl ?_
      refine k_getI (pc := 30) h fl_RX10_315 rfl rfl dX10_runOf_30 ?_
      obtain rfl := so1 hf
      exact k_drop [] rfl kj7
    · have hf := it_p hc hf
      refine k_aload_n (pc := 22) h dX10_runOf_22 rfl 0 rfl ?_
      refine k_getI (pc := 23) h fl_RX10_312 rfl rfl dX10_runOf_23 ?_
      refine k_goto (pc := 26) (tgt := 33) h dX10_runOf_26 rfl ?_
      obtain rfl := so1 hf
      exact k_drop [] rfl kj7
  · have hf := it_p hc hf
    refine k_aload_n (pc := 10) h dX10_runOf_10 rfl 0 rfl ?_
    refine k_getI (pc := 11) h fl_RX10_309 rfl rfl dX10_runOf_11 ?_
    refine k_goto (pc := 14) (tgt := 33) h dX10_runOf_14 rfl ?_
    obtain rfl := so1 hf
    exact k_drop [] rfl kj7
theorem dX10_run_0 : decode cX10_run 0 = .ok (.iload_n 2, 1) := by decide +kernel
theorem dX10_run_1 : decode cX10_run 1 = .ok (.iconst 0, 1) := by decide +kernel
theorem dX10_run_2 : decode cX10_run 2 = .ok (.sipush 300, 3) := by decide +kernel
theorem dX10_run_5 : decode cX10_run 5 = .ok (.invokestatic 93, 3) := by decide +kernel
theorem dX10_run_8 : decode cX10_run 8 = .ok (.ifCond .eq 22, 3) := by decide +kernel
theorem dX10_run_11 : decode cX10_run 11 = .ok (.iload_n 3, 1) := by decide +kernel
theorem dX10_run_12 : decode cX10_run 12 = .ok (.iconst 0, 1) := by decide +kernel
theorem dX10_run_13 : decode cX10_run 13 = .ok (.iconst 2, 1) := by decide +kernel
theorem dX10_run_14 : decode cX10_run 14 = .ok (.invokestatic 93, 3) := by decide +kernel
theorem dX10_run_17 : decode cX10_run 17 = .ok (.ifCond .eq 13, 3) := by decide +kernel
theorem dX10_run_20 : decode cX10_run 20 = .ok (.aload_n 0, 1) := by decide +kernel
theorem dX10_run_21 : decode cX10_run 21 = .ok (.iload_n 1, 1) := by decide +kernel
theorem dX10_run_22 : decode cX10_run 22 = .ok (.iload_n 2, 1) := by decide +kernel
theorem dX10_run_23 : decode cX10_run 23 = .ok (.iload_n 3, 1) := by decide +kernel
theorem dX10_run_24 : decode cX10_run 24 = .ok (.invokevirtual 327, 3) := by decide +kernel
theorem dX10_run_27 : decode cX10_run 27 = .ok (.goto 5, 3) := by decide +kernel
theorem dX10_run_30 : decode cX10_run 30 = .ok (.bipush (-2), 2) := by decide +kernel
theorem dX10_run_32 : decode cX10_run 32 = .ok (.ireturn, 1) := by decide +kernel
def f_X10_run (p1 : Int32) (p2 : Int32) (p3 : Int32) (s0 : sh_S) : Option (Int32 × sh_S) := ob (f_X10_in p2 (0 : Int32) (300 : Int32)) (fun v1 => ob2 (if v1 = 0 then some ((-2 : Int32), s0) else ob (f_X10_in p3 (0 : Int32) (2 : Int32)) (fun v4 => (if v4 = 0 then some ((-2 : Int32), s0) else ob2 (f_X10_runOf p1 p2 p3 s0) (fun v5 s6 => some (v5, s6))))) (fun v2 s3 => some (v2, s3)))
set_option maxRecDepth 100000 in
set_option maxHeartbeats 4000000 in
theorem c_X10_run (p1 : Int32) (p2 : Int32) (p3 : Int32) (s0 : sh_S) (r : Int32) (s9x : sh_S) (hf : f_X10_run p1 p2 p3 s0 = some (r, s9x)) : Ctr yX10_run cX10_run 4 (some .int) ({ frames := 6, cells := 0, slots := 0, locals := 141 } : Room) shM [.ref 0, .int p1, .int p2, .int p3] s0 (some (.int r)) s9x := by
  refine Ctr.mk (ri := .ireturn) (by decide) (Nat.le_of_ble_eq_true rfl) (Rt_i r) ?_
  intro G h hL hR hret
  refine k_drop (lv' := [(0, .ref 0), (1, .int p1), (2, .int p2), (3, .int p3)]) [0, 1, 2, 3] rfl ?_
  unfold f_X10_run at hf
  refine k_iload_n (pc := 0) h dX10_run_0 rfl 2 rfl ?_
  refine k_iconst (pc := 1) h dX10_run_1 kc_iconst_0 ?_
  refine k_sipush (pc := 2) h dX10_run_2 kc_sipush_300 ?_
  obtain ⟨v1, cv1, hf⟩ := ob_s hf
  refine k_callSp (pc := 5) h cs_RX10_93 (c_X10_in p2 (0 : Int32) (300 : Int32) _ v1 cv1) rfl rfl (st1 := [.int v1]) rfl ⟨rfl, rfl⟩ (rk hR (Nat.le_of_ble_eq_true rfl) (Nat.le_of_ble_eq_true rfl)) (Nat.le_of_ble_eq_true rfl) dX10_run_5 ?_
  obtain ⟨v2, s3, hj, hf⟩ := ob2_s hf
  have kj8 : sh_K G shM 32 [] [.int v2] s3 := by
    obtain ⟨rfl, rfl⟩ := so2 hf
    exact hret 32 _ dX10_run_32 trivial
  clear hf
  have hf := hj
  clear hj
  refine k_if_eq (pc := 8) (tgt := 30) h dX10_run_8 rfl (fun hc => ?_) (fun hc => ?_)
  · have hf := it_p hc hf
    refine k_bipush (pc := 30) h dX10_run_30 kc_bipush_m2 ?_
    obtain ⟨rfl, rfl⟩ := so2 hf
    exact k_drop [] rfl kj8
  · have hf := it_n hc hf
    refine k_iload_n (pc := 11) h dX10_run_11 rfl 3 rfl ?_
    refine k_iconst (pc := 12) h dX10_run_12 kc_iconst_0 ?_
    refine k_iconst (pc := 13) h dX10_run_13 kc_iconst_2 ?_
    obtain ⟨v4, cv4, hf⟩ := ob_s hf
    refine k_callSp (pc := 14) h cs_RX10_93 (c_X10_in p3 (0 : Int32) (2 : Int32) _ v4 cv4) rfl rfl (st1 := [.int v4]) rfl ⟨rfl, rfl⟩ (rk hR (Nat.le_of_ble_eq_true rfl) (Nat.le_of_ble_eq_true rfl)) (Nat.le_of_ble_eq_true rfl) dX10_run_14 ?_
    refine k_if_eq (pc := 17) (tgt := 30) h dX10_run_17 rfl (fun hc => ?_) (fun hc => ?_)
    · have hf := it_p hc hf
      refine k_bipush (pc := 30) h dX10_run_30 kc_bipush_m2 ?_
      obtain ⟨rfl, rfl⟩ := so2 hf
      exact k_drop [] rfl kj8
    · have hf := it_n hc hf
      refine k_aload_n (pc := 20) h dX10_run_20 rfl 0 rfl ?_
      refine k_iload_n (pc := 21) h dX10_run_21 rfl 1 rfl ?_
      refine k_iload_n (pc := 22) h dX10_run_22 rfl 2 rfl ?_
      refine k_iload_n (pc := 23) h dX10_run_23 rfl 3 rfl ?_
      obtain ⟨v5, s6, cv5, hf⟩ := ob2_s hf
      refine k_callV0 (pc := 24) h cv_RX10_327 (c_X10_runOf p1 p2 p3 s0 v5 s6 cv5) rfl rfl rfl (st1 := [.int v5]) rfl ⟨rfl, rfl⟩ (rk hR (Nat.le_of_ble_eq_true rfl) (Nat.le_of_ble_eq_true rfl)) (Nat.le_of_ble_eq_true rfl) dX10_run_24 ?_
      refine k_goto (pc := 27) (tgt := 32) h dX10_run_27 rfl ?_
      obtain ⟨rfl, rfl⟩ := so2 hf
      exact k_drop [] rfl kj8
theorem dX10_sheet_0 : decode cX10_sheet 0 = .ok (.iload_n 1, 1) := by decide +kernel
theorem dX10_sheet_1 : decode cX10_sheet 1 = .ok (.invokestatic 117, 3) := by decide +kernel
theorem dX10_sheet_4 : decode cX10_sheet 4 = .ok (.ifCond .eq 18, 3) := by decide +kernel
theorem dX10_sheet_7 : decode cX10_sheet 7 = .ok (.iload_n 2, 1) := by decide +kernel
theorem dX10_sheet_8 : decode cX10_sheet 8 = .ok (.iconst 0, 1) := by decide +kernel
theorem dX10_sheet_9 : decode cX10_sheet 9 = .ok (.iconst 2, 1) := by decide +kernel
theorem dX10_sheet_10 : decode cX10_sheet 10 = .ok (.invokestatic 93, 3) := by decide +kernel
theorem dX10_sheet_13 : decode cX10_sheet 13 = .ok (.ifCond .eq 9, 3) := by decide +kernel
theorem dX10_sheet_16 : decode cX10_sheet 16 = .ok (.iload_n 3, 1) := by decide +kernel
theorem dX10_sheet_17 : decode cX10_sheet 17 = .ok (.bipush 60, 2) := by decide +kernel
theorem dX10_sheet_19 : decode cX10_sheet 19 = .ok (.if_icmp .le 6, 3) := by decide +kernel
theorem dX10_sheet_22 : decode cX10_sheet 22 = .ok (.bipush (-2), 2) := by decide +kernel
theorem dX10_sheet_24 : decode cX10_sheet 24 = .ok (.ireturn, 1) := by decide +kernel
theorem dX10_sheet_25 : decode cX10_sheet 25 = .ok (.iload_n 3, 1) := by decide +kernel
theorem dX10_sheet_26 : decode cX10_sheet 26 = .ok (.ifCond .ge 9, 3) := by decide +kernel
theorem dX10_sheet_29 : decode cX10_sheet 29 = .ok (.aload_n 0, 1) := by decide +kernel
theorem dX10_sheet_30 : decode cX10_sheet 30 = .ok (.iconst 5, 1) := by decide +kernel
theorem dX10_sheet_31 : decode cX10_sheet 31 = .ok (.invokevirtual 120, 3) := by decide +kernel
theorem dX10_sheet_34 : decode cX10_sheet 34 = .ok (.ireturn, 1) := by decide +kernel
theorem dX10_sheet_35 : decode cX10_sheet 35 = .ok (.aload_n 0, 1) := by decide +kernel
theorem dX10_sheet_36 : decode cX10_sheet 36 = .ok (.getfield 73, 3) := by decide +kernel
theorem dX10_sheet_39 : decode cX10_sheet 39 = .ok (.iload_n 1, 1) := by decide +kernel
theorem dX10_sheet_40 : decode cX10_sheet 40 = .ok (.iconst 1, 1) := by decide +kernel
theorem dX10_sheet_41 : decode cX10_sheet 41 = .ok (.bastore, 1) := by decide +kernel
theorem dX10_sheet_42 : decode cX10_sheet 42 = .ok (.aload_n 0, 1) := by decide +kernel
theorem dX10_sheet_43 : decode cX10_sheet 43 = .ok (.getfield 77, 3) := by decide +kernel
theorem dX10_sheet_46 : decode cX10_sheet 46 = .ok (.iload_n 1, 1) := by decide +kernel
theorem dX10_sheet_47 : decode cX10_sheet 47 = .ok (.iload_n 2, 1) := by decide +kernel
theorem dX10_sheet_48 : decode cX10_sheet 48 = .ok (.iastore, 1) := by decide +kernel
theorem dX10_sheet_49 : decode cX10_sheet 49 = .ok (.aload_n 0, 1) := by decide +kernel
theorem dX10_sheet_50 : decode cX10_sheet 50 = .ok (.getfield 80, 3) := by decide +kernel
theorem dX10_sheet_53 : decode cX10_sheet 53 = .ok (.iload_n 1, 1) := by decide +kernel
theorem dX10_sheet_54 : decode cX10_sheet 54 = .ok (.iload_n 3, 1) := by decide +kernel
theorem dX10_sheet_55 : decode cX10_sheet 55 = .ok (.iastore, 1) := by decide +kernel
theorem dX10_sheet_56 : decode cX10_sheet 56 = .ok (.iconst 0, 1) := by decide +kernel
theorem dX10_sheet_57 : decode cX10_sheet 57 = .ok (.istore 4, 2) := by decide +kernel
theorem dX10_sheet_59 : decode cX10_sheet 59 = .ok (.iload 4, 2) := by decide +kernel
theorem dX10_sheet_61 : decode cX10_sheet 61 = .ok (.bipush 60, 2) := by decide +kernel
theorem dX10_sheet_63 : decode cX10_sheet 63 = .ok (.if_icmp .ge 22, 3) := by decide +kernel
theorem dX10_sheet_66 : decode cX10_sheet 66 = .ok (.aload_n 0, 1) := by decide +kernel
theorem dX10_sheet_67 : decode cX10_sheet 67 = .ok (.getfield 83, 3) := by decide +kernel
theorem dX10_sheet_70 : decode cX10_sheet 70 = .ok (.bipush 60, 2) := by decide +kernel
theorem dX10_sheet_72 : decode cX10_sheet 72 = .ok (.iload_n 1, 1) := by decide +kernel
theorem dX10_sheet_73 : decode cX10_sheet 73 = .ok (.imul, 1) := by decide +kernel
theorem dX10_sheet_74 : decode cX10_sheet 74 = .ok (.iload 4, 2) := by decide +kernel
theorem dX10_sheet_76 : decode cX10_sheet 76 = .ok (.iadd, 1) := by decide +kernel
theorem dX10_sheet_77 : decode cX10_sheet 77 = .ok (.iconst 0, 1) := by decide +kernel
theorem dX10_sheet_78 : decode cX10_sheet 78 = .ok (.iastore, 1) := by decide +kernel
theorem dX10_sheet_79 : decode cX10_sheet 79 = .ok (.iinc 4 1, 3) := by decide +kernel
theorem dX10_sheet_82 : decode cX10_sheet 82 = .ok (.goto (-23), 3) := by decide +kernel
theorem dX10_sheet_85 : decode cX10_sheet 85 = .ok (.iload_n 3, 1) := by decide +kernel
theorem dX10_sheet_86 : decode cX10_sheet 86 = .ok (.ireturn, 1) := by decide +kernel
def f_X10_sheet_L59 (p1 : Int32) (v9 : Int32) (s10 : sh_S) : Option ((Int32 × sh_S) ⊕ (sh_S)) := (if (60 : Int32) ≤ v9 then some (.inr s10) else gu (inb (((60 : Int32) * p1) + v9) 240) (lb (ur s10 25 (upd (s10 25) (ix (((60 : Int32) * p1) + v9)) (0 : Int32))) (fun s13 => lb (v9 + (1 : Int32)) (fun v14 => some (.inl (v14, s13))))))
def f_X10_sheet (p1 : Int32) (p2 : Int32) (p3 : Int32) (s0 : sh_S) : Option (Int32 × sh_S) := ob (f_X10_isSheet p1) (fun v1 => (if v1 = 0 then some ((-2 : Int32), s0) else ob (f_X10_in p2 (0 : Int32) (2 : Int32)) (fun v2 => (if v2 = 0 then some ((-2 : Int32), s0) else (if p3 ≤ (60 : Int32) then (if 0 ≤ p3 then gu (inb p1 4) (lb (ur s0 22 (upd (s0 22) (ix p1) (nz (1 : Int32)))) (fun s4 => gu (inb p1 4) (lb (ur s4 23 (upd (s4 23) (ix p1) p2)) (fun s6 => gu (inb p1 4) (lb (ur s6 24 (upd (s6 24) (ix p1) p3)) (fun s8 => ob (lp (fun q => f_X10_sheet_L59 p1 q.1 q.2) FU ((0 : Int32), s8)) (fun s11 => some (p3, s11)))))))) else ob2 (f_X10_meets (5 : Int32) s0) (fun v15 s16 => some (v15, s16))) else some ((-2 : Int32), s0))))))
set_option maxRecDepth 100000 in
set_option maxHeartbeats 4000000 in
theorem c_X10_sheet (p1 : Int32) (p2 : Int32) (p3 : Int32) (s0 : sh_S) (r : Int32) (s9x : sh_S) (hf : f_X10_sheet p1 p2 p3 s0 = some (r, s9x)) : Ctr yX10_sheet cX10_sheet 5 (some .int) ({ frames := 2, cells := 0, slots := 0, locals := 42 } : Room) shM [.ref 0, .int p1, .int p2, .int p3] s0 (some (.int r)) s9x := by
  refine Ctr.mk (ri := .ireturn) (by decide) (Nat.le_of_ble_eq_true rfl) (Rt_i r) ?_
  intro G h hL hR hret
  refine k_drop (lv' := [(0, .ref 0), (1, .int p1), (2, .int p2), (3, .int p3)]) [0, 1, 2, 3] rfl ?_
  unfold f_X10_sheet at hf
  refine k_iload_n (pc := 0) h dX10_sheet_0 rfl 1 rfl ?_
  obtain ⟨v1, cv1, hf⟩ := ob_s hf
  refine k_callSp (pc := 1) h cs_RX10_117 (c_X10_isSheet p1 _ v1 cv1) rfl rfl (st1 := [.int v1]) rfl ⟨rfl, rfl⟩ (rk hR (Nat.le_of_ble_eq_true rfl) (Nat.le_of_ble_eq_true rfl)) (Nat.le_of_ble_eq_true rfl) dX10_sheet_1 ?_
  refine k_if_eq (pc := 4) (tgt := 22) h dX10_sheet_4 rfl (fun hc => ?_) (fun hc => ?_)
  · have hf := it_p hc hf
    refine k_bipush (pc := 22) h dX10_sheet_22 kc_bipush_m2 ?_
    obtain ⟨rfl, rfl⟩ := so2 hf
    exact hret 24 _ dX10_sheet_24 trivial
  · have hf := it_n hc hf
    refine k_iload_n (pc := 7) h dX10_sheet_7 rfl 2 rfl ?_
    refine k_iconst (pc := 8) h dX10_sheet_8 kc_iconst_0 ?_
    refine k_iconst (pc := 9) h dX10_sheet_9 kc_iconst_2 ?_
    obtain ⟨v2, cv2, hf⟩ := ob_s hf
    refine k_callSp (pc := 10) h cs_RX10_93 (c_X10_in p2 (0 : Int32) (2 : Int32) _ v2 cv2) rfl rfl (st1 := [.int v2]) rfl ⟨rfl, rfl⟩ (rk hR (Nat.le_of_ble_eq_true rfl) (Nat.le_of_ble_eq_true rfl)) (Nat.le_of_ble_eq_true rfl) dX10_sheet_10 ?_
    refine k_if_eq (pc := 13) (tgt := 22) h dX10_sheet_13 rfl (fun hc => ?_) (fun hc => ?_)
    · have hf := it_p hc hf
      refine k_bipush (pc := 22) h dX10_sheet_22 kc_bipush_m2 ?_
      obtain ⟨rfl, rfl⟩ := so2 hf
      exact hret 24 _ dX10_sheet_24 trivial
    · have hf := it_n hc hf
      refine k_iload_n (pc := 16) h dX10_sheet_16 rfl 3 rfl ?_
      refine k_bipush (pc := 17) h dX10_sheet_17 kc_bipush_60 ?_
      refine k_icmp_le (pc := 19) (tgt := 25) h dX10_sheet_19 rfl (fun hc => ?_) (fun hc => ?_)
      · have hf := it_p hc hf
        refine k_iload_n (pc := 25) h dX10_sheet_25 rfl 3 rfl ?_
        refine k_if_ge (pc := 26) (tgt := 35) h dX10_sheet_26 rfl (fun hc => ?_) (fun hc => ?_)
        · have hf := it_p hc hf
          refine k_aload_n (pc := 35) h dX10_sheet_35 rfl 0 rfl ?_
          refine k_getR (pc := 36) h fl_RX10_73 rfl rfl dX10_sheet_36 ?_
          refine k_iload_n (pc := 39) h dX10_sheet_39 rfl 1 rfl ?_
          refine k_iconst (pc := 40) h dX10_sheet_40 kc_iconst_1 ?_
          obtain ⟨g3, hf⟩ := gu_s hf
          obtain ⟨s4, es4, hf⟩ := lb_s hf
          refine k_zast (pc := 41) (n := 4) h rfl g3 dX10_sheet_41 ?_
          refine k_heap es4 ?_
          refine k_aload_n (pc := 42) h dX10_sheet_42 rfl 0 rfl ?_
          refine k_getR (pc := 43) h fl_RX10_77 rfl rfl dX10_sheet_43 ?_
          refine k_iload_n (pc := 46) h dX10_sheet_46 rfl 1 rfl ?_
          refine k_iload_n (pc := 47) h dX10_sheet_47 rfl 2 rfl ?_
          obtain ⟨g5, hf⟩ := gu_s hf
          obtain ⟨s6, es6, hf⟩ := lb_s hf
          refine k_iast (pc := 48) (n := 4) h rfl g5 dX10_sheet_48 ?_
          refine k_heap es6 ?_
          refine k_aload_n (pc := 49) h dX10_sheet_49 rfl 0 rfl ?_
          refine k_getR (pc := 50) h fl_RX10_80 rfl rfl dX10_sheet_50 ?_
          refine k_iload_n (pc := 53) h dX10_sheet_53 rfl 1 rfl ?_
          refine k_iload_n (pc := 54) h dX10_sheet_54 rfl 3 rfl ?_
          obtain ⟨g7, hf⟩ := gu_s hf
          obtain ⟨s8, es8, hf⟩ := lb_s hf
          refine k_iast (pc := 55) (n := 4) h rfl g7 dX10_sheet_55 ?_
          refine k_heap es8 ?_
          refine k_iconst (pc := 56) h dX10_sheet_56 kc_iconst_0 ?_
          refine k_istore (pc := 57) h dX10_sheet_57 (nk hL (by decide)) (lv' := [(0, .ref 0), (1, .int p1), (2, .int p2), (3, .int p3), (4, .int (0 : Int32))]) rfl ?_
          obtain ⟨s11, hl, hf⟩ := ob_s hf
          refine k_drop (lv' := [(0, .ref 0), (1, .int p1), (3, .int p3), (4, .int (0 : Int32))]) [0, 1, 3, 4] rfl ?_
          refine lp_s (P := (fun q : Int32 × sh_S => sh_K G shM 59 [(0, .ref 0), (1, .int p1), (3, .int p3), (4, .int q.1)] [] q.2)) (Q := (fun q : sh_S => sh_K G shM 85 [(3, .int p3)] [] q)) (s := ((0 : Int32), s8)) ?_ hl ?_
          · clear hf hl
            intro q rr hf kc59
            obtain ⟨v9, s10⟩ := q
            have hf : f_X10_sheet_L59 p1 v9 s10 = some rr := hf
            unfold f_X10_sheet_L59 at hf
            refine k_iload (pc := 59) h dX10_sheet_59 3 rfl ?_
            refine k_bipush (pc := 61) h dX10_sheet_61 kc_bipush_60 ?_
            refine k_icmp_ge (pc := 63) (tgt := 85) h dX10_sheet_63 rfl (fun hc => ?_) (fun hc => ?_)
            · have hf := it_p hc hf
              obtain rfl := so1 hf
              exact k_drop [2] rfl kc59
            · have hf := it_n hc hf
              refine k_aload_n (pc := 66) h dX10_sheet_66 rfl 0 rfl ?_
              refine k_getR (pc := 67) h fl_RX10_83 rfl rfl dX10_sheet_67 ?_
              refine k_bipush (pc := 70) h dX10_sheet_70 kc_bipush_60 ?_
              refine k_iload_n (pc := 72) h dX10_sheet_72 rfl 1 rfl ?_
              refine k_imul (pc := 73) h dX10_sheet_73 ?_
              refine k_iload (pc := 74) h dX10_sheet_74 3 rfl ?_
              refine k_iadd (pc := 76) h dX10_sheet_76 ?_
              refine k_iconst (pc := 77) h dX10_sheet_77 kc_iconst_0 ?_
              obtain ⟨g12, hf⟩ := gu_s hf
              obtain ⟨s13, es13, hf⟩ := lb_s hf
              refine k_iast (pc := 78) (n := 240) h rfl g12 dX10_sheet_78 ?_
              refine k_heap es13 ?_
              obtain ⟨v14, ev14, hf⟩ := lb_s hf
              refine k_iinc (pc := 79) h dX10_sheet_79 3 rfl ((congrArg (_ + ·) kc_iconst_1).trans ev14.symm) (nk hL (by decide)) (lv' := [(0, .ref 0), (1, .int p1), (3, .int p3), (4, .int v14)]) rfl ?_
              refine k_goto (pc := 82) (tgt := 59) h dX10_sheet_82 rfl ?_
              obtain rfl := so1 hf
              exact k_drop [0, 1, 2, 3] rfl kc59
          · refine k_iload_n (pc := 85) h dX10_sheet_85 rfl 0 rfl ?_
            obtain ⟨rfl, rfl⟩ := so2 hf
            exact hret 86 _ dX10_sheet_86 trivial
        · have hf := it_n hc hf
          refine k_aload_n (pc := 29) h dX10_sheet_29 rfl 0 rfl ?_
          refine k_iconst (pc := 30) h dX10_sheet_30 kc_iconst_5 ?_
          obtain ⟨v15, s16, cv15, hf⟩ := ob2_s hf
          refine k_callV0 (pc := 31) h cv_RX10_120 (c_X10_meets (5 : Int32) s0 v15 s16 cv15) rfl rfl rfl (st1 := [.int v15]) rfl ⟨rfl, rfl⟩ (rk hR (Nat.le_of_ble_eq_true rfl) (Nat.le_of_ble_eq_true rfl)) (Nat.le_of_ble_eq_true rfl) dX10_sheet_31 ?_
          obtain ⟨rfl, rfl⟩ := so2 hf
          exact hret 34 _ dX10_sheet_34 trivial
      · have hf := it_n hc hf
        refine k_bipush (pc := 22) h dX10_sheet_22 kc_bipush_m2 ?_
        obtain ⟨rfl, rfl⟩ := so2 hf
        exact hret 24 _ dX10_sheet_24 trivial
theorem dX10_lose_0 : decode cX10_lose 0 = .ok (.iload_n 1, 1) := by decide +kernel
theorem dX10_lose_1 : decode cX10_lose 1 = .ok (.invokestatic 117, 3) := by decide +kernel
theorem dX10_lose_4 : decode cX10_lose 4 = .ok (.ifCond .ne 6, 3) := by decide +kernel
theorem dX10_lose_7 : decode cX10_lose 7 = .ok (.bipush (-2), 2) := by decide +kernel
theorem dX10_lose_9 : decode cX10_lose 9 = .ok (.ireturn, 1) := by decide +kernel
theorem dX10_lose_10 : decode cX10_lose 10 = .ok (.aload_n 0, 1) := by decide +kernel
theorem dX10_lose_11 : decode cX10_lose 11 = .ok (.getfield 73, 3) := by decide +kernel
theorem dX10_lose_14 : decode cX10_lose 14 = .ok (.iload_n 1, 1) := by decide +kernel
theorem dX10_lose_15 : decode cX10_lose 15 = .ok (.baload, 1) := by decide +kernel
theorem dX10_lose_16 : decode cX10_lose 16 = .ok (.ifCond .ne 9, 3) := by decide +kernel
theorem dX10_lose_19 : decode cX10_lose 19 = .ok (.aload_n 0, 1) := by decide +kernel
theorem dX10_lose_20 : decode cX10_lose 20 = .ok (.iconst 1, 1) := by decide +kernel
theorem dX10_lose_21 : decode cX10_lose 21 = .ok (.invokevirtual 120, 3) := by decide +kernel
theorem dX10_lose_24 : decode cX10_lose 24 = .ok (.ireturn, 1) := by decide +kernel
theorem dX10_lose_25 : decode cX10_lose 25 = .ok (.aload_n 0, 1) := by decide +kernel
theorem dX10_lose_26 : decode cX10_lose 26 = .ok (.getfield 73, 3) := by decide +kernel
theorem dX10_lose_29 : decode cX10_lose 29 = .ok (.iload_n 1, 1) := by decide +kernel
theorem dX10_lose_30 : decode cX10_lose 30 = .ok (.iconst 0, 1) := by decide +kernel
theorem dX10_lose_31 : decode cX10_lose 31 = .ok (.bastore, 1) := by decide +kernel
theorem dX10_lose_32 : decode cX10_lose 32 = .ok (.aload_n 0, 1) := by decide +kernel
theorem dX10_lose_33 : decode cX10_lose 33 = .ok (.getfield 80, 3) := by decide +kernel
theorem dX10_lose_36 : decode cX10_lose 36 = .ok (.iload_n 1, 1) := by decide +kernel
theorem dX10_lose_37 : decode cX10_lose 37 = .ok (.iaload, 1) := by decide +kernel
theorem dX10_lose_38 : decode cX10_lose 38 = .ok (.ireturn, 1) := by decide +kernel
def f_X10_lose (p1 : Int32) (s0 : sh_S) : Option (Int32 × sh_S) := ob (f_X10_isSheet p1) (fun v1 => (if v1 = 0 then some ((-2 : Int32), s0) else gu (inb p1 4) ((if (s0 22 (ix p1)) = 0 then ob2 (f_X10_meets (1 : Int32) s0) (fun v6 s7 => some (v6, s7)) else gu (inb p1 4) (lb (ur s0 22 (upd (s0 22) (ix p1) (nz (0 : Int32)))) (fun s4 => gu (inb p1 4) (some ((s4 24 (ix p1)), s4))))))))
set_option maxRecDepth 100000 in
set_option maxHeartbeats 4000000 in
theorem c_X10_lose (p1 : Int32) (s0 : sh_S) (r : Int32) (s9x : sh_S) (hf : f_X10_lose p1 s0 = some (r, s9x)) : Ctr yX10_lose cX10_lose 2 (some .int) ({ frames := 2, cells := 0, slots := 0, locals := 42 } : Room) shM [.ref 0, .int p1] s0 (some (.int r)) s9x := by
  refine Ctr.mk (ri := .ireturn) (by decide) (Nat.le_of_ble_eq_true rfl) (Rt_i r) ?_
  intro G h hL hR hret
  refine k_drop (lv' := [(0, .ref 0), (1, .int p1)]) [0, 1] rfl ?_
  unfold f_X10_lose at hf
  refine k_iload_n (pc := 0) h dX10_lose_0 rfl 1 rfl ?_
  obtain ⟨v1, cv1, hf⟩ := ob_s hf
  refine k_callSp (pc := 1) h cs_RX10_117 (c_X10_isSheet p1 _ v1 cv1) rfl rfl (st1 := [.int v1]) rfl ⟨rfl, rfl⟩ (rk hR (Nat.le_of_ble_eq_true rfl) (Nat.le_of_ble_eq_true rfl)) (Nat.le_of_ble_eq_true rfl) dX10_lose_1 ?_
  refine k_if_ne (pc := 4) (tgt := 10) h dX10_lose_4 rfl (fun hc => ?_) (fun hc => ?_)
  · have hf := it_n hc hf
    refine k_aload_n (pc := 10) h dX10_lose_10 rfl 0 rfl ?_
    refine k_getR (pc := 11) h fl_RX10_73 rfl rfl dX10_lose_11 ?_
    refine k_iload_n (pc := 14) h dX10_lose_14 rfl 1 rfl ?_
    obtain ⟨g2, hf⟩ := gu_s hf
    refine k_zald (pc := 15) (n := 4) h rfl g2 dX10_lose_15 ?_
    refine k_if_ne (pc := 16) (tgt := 25) h dX10_lose_16 rfl (fun hc => ?_) (fun hc => ?_)
    · have hf := it_n hc hf
      refine k_aload_n (pc := 25) h dX10_lose_25 rfl 0 rfl ?_
      refine k_getR (pc := 26) h fl_RX10_73 rfl rfl dX10_lose_26 ?_
      refine k_iload_n (pc := 29) h dX10_lose_29 rfl 1 rfl ?_
      refine k_iconst (pc := 30) h dX10_lose_30 kc_iconst_0 ?_
      obtain ⟨g3, hf⟩ := gu_s hf
      obtain ⟨s4, es4, hf⟩ := lb_s hf
      refine k_zast (pc := 31) (n := 4) h rfl g3 dX10_lose_31 ?_
      refine k_heap es4 ?_
      refine k_aload_n (pc := 32) h dX10_lose_32 rfl 0 rfl ?_
      refine k_getR (pc := 33) h fl_RX10_80 rfl rfl dX10_lose_33 ?_
      refine k_iload_n (pc := 36) h dX10_lose_36 rfl 1 rfl ?_
      obtain ⟨g5, hf⟩ := gu_s hf
      refine k_iald (pc := 37) (n := 4) h rfl g5 dX10_lose_37 ?_
      obtain ⟨rfl, rfl⟩ := so2 hf
      exact hret 38 _ dX10_lose_38 trivial
    · have hf := it_p hc hf
      refine k_aload_n (pc := 19) h dX10_lose_19 rfl 0 rfl ?_
      refine k_iconst (pc := 20) h dX10_lose_20 kc_iconst_1 ?_
      obtain ⟨v6, s7, cv6, hf⟩ := ob2_s hf
      refine k_callV0 (pc := 21) h cv_RX10_120 (c_X10_meets (1 : Int32) s0 v6 s7 cv6) rfl rfl rfl (st1 := [.int v6]) rfl ⟨rfl, rfl⟩ (rk hR (Nat.le_of_ble_eq_true rfl) (Nat.le_of_ble_eq_true rfl)) (Nat.le_of_ble_eq_true rfl) dX10_lose_21 ?_
      obtain ⟨rfl, rfl⟩ := so2 hf
      exact hret 24 _ dX10_lose_24 trivial
  · have hf := it_p hc hf
    refine k_bipush (pc := 7) h dX10_lose_7 kc_bipush_m2 ?_
    obtain ⟨rfl, rfl⟩ := so2 hf
    exact hret 9 _ dX10_lose_9 trivial
theorem dX10_lacks_0 : decode cX10_lacks 0 = .ok (.aload_n 0, 1) := by decide +kernel
theorem dX10_lacks_1 : decode cX10_lacks 1 = .ok (.getfield 73, 3) := by decide +kernel
theorem dX10_lacks_4 : decode cX10_lacks 4 = .ok (.iload_n 1, 1) := by decide +kernel
theorem dX10_lacks_5 : decode cX10_lacks 5 = .ok (.baload, 1) := by decide +kernel
theorem dX10_lacks_6 : decode cX10_lacks 6 = .ok (.ifCond .ne 7, 3) := by decide +kernel
theorem dX10_lacks_9 : decode cX10_lacks 9 = .ok (.iconst 1, 1) := by decide +kernel
theorem dX10_lacks_10 : decode cX10_lacks 10 = .ok (.goto 38, 3) := by decide +kernel
theorem dX10_lacks_13 : decode cX10_lacks 13 = .ok (.aload_n 0, 1) := by decide +kernel
theorem dX10_lacks_14 : decode cX10_lacks 14 = .ok (.getfield 77, 3) := by decide +kernel
theorem dX10_lacks_17 : decode cX10_lacks 17 = .ok (.iload_n 1, 1) := by decide +kernel
theorem dX10_lacks_18 : decode cX10_lacks 18 = .ok (.iaload, 1) := by decide +kernel
theorem dX10_lacks_19 : decode cX10_lacks 19 = .ok (.iload_n 2, 1) := by decide +kernel
theorem dX10_lacks_20 : decode cX10_lacks 20 = .ok (.if_icmp .eq 7, 3) := by decide +kernel
theorem dX10_lacks_23 : decode cX10_lacks 23 = .ok (.iconst 3, 1) := by decide +kernel
theorem dX10_lacks_24 : decode cX10_lacks 24 = .ok (.goto 24, 3) := by decide +kernel
theorem dX10_lacks_27 : decode cX10_lacks 27 = .ok (.iload_n 3, 1) := by decide +kernel
theorem dX10_lacks_28 : decode cX10_lacks 28 = .ok (.iconst 0, 1) := by decide +kernel
theorem dX10_lacks_29 : decode cX10_lacks 29 = .ok (.aload_n 0, 1) := by decide +kernel
theorem dX10_lacks_30 : decode cX10_lacks 30 = .ok (.getfield 80, 3) := by decide +kernel
theorem dX10_lacks_33 : decode cX10_lacks 33 = .ok (.iload_n 1, 1) := by decide +kernel
theorem dX10_lacks_34 : decode cX10_lacks 34 = .ok (.iaload, 1) := by decide +kernel
theorem dX10_lacks_35 : decode cX10_lacks 35 = .ok (.iconst 1, 1) := by decide +kernel
theorem dX10_lacks_36 : decode cX10_lacks 36 = .ok (.isub, 1) := by decide +kernel
theorem dX10_lacks_37 : decode cX10_lacks 37 = .ok (.invokestatic 93, 3) := by decide +kernel
theorem dX10_lacks_40 : decode cX10_lacks 40 = .ok (.ifCond .eq 7, 3) := by decide +kernel
theorem dX10_lacks_43 : decode cX10_lacks 43 = .ok (.iconst 0, 1) := by decide +kernel
theorem dX10_lacks_44 : decode cX10_lacks 44 = .ok (.goto 4, 3) := by decide +kernel
theorem dX10_lacks_47 : decode cX10_lacks 47 = .ok (.iconst 2, 1) := by decide +kernel
theorem dX10_lacks_48 : decode cX10_lacks 48 = .ok (.ireturn, 1) := by decide +kernel
def f_X10_lacks (p1 : Int32) (p2 : Int32) (p3 : Int32) (s0 : sh_S) : Option (Int32) := gu (inb p1 4) (ob (if (s0 22 (ix p1)) = 0 then some (1 : Int32) else gu (inb p1 4) ((if (s0 23 (ix p1)) = p2 then gu (inb p1 4) (ob (f_X10_in p3 (0 : Int32) ((s0 24 (ix p1)) - (1 : Int32))) (fun v5 => (if v5 = 0 then some (2 : Int32) else some (0 : Int32)))) else some (3 : Int32)))) (fun v2 => some v2))
set_option maxRecDepth 100000 in
set_option maxHeartbeats 4000000 in
theorem c_X10_lacks (p1 : Int32) (p2 : Int32) (p3 : Int32) (s0 : sh_S) (r : Int32) (hf : f_X10_lacks p1 p2 p3 s0 = some r) : Ctr yX10_lacks cX10_lacks 4 (some .int) ({ frames := 1, cells := 0, slots := 0, locals := 22 } : Room) shM [.ref 0, .int p1, .int p2, .int p3] s0 (some (.int r)) s0 := by
  refine Ctr.mk (ri := .ireturn) (by decide) (Nat.le_of_ble_eq_true rfl) (Rt_i r) ?_
  intro G h hL hR hret
  refine k_drop (lv' := [(0, .ref 0), (1, .int p1), (2, .int p2), (3, .int p3)]) [0, 1, 2, 3] rfl ?_
  unfold f_X10_lacks at hf
  refine k_aload_n (pc := 0) h dX10_lacks_0 rfl 0 rfl ?_
  refine k_getR (pc := 1) h fl_RX10_73 rfl rfl dX10_lacks_1 ?_
  refine k_iload_n (pc := 4) h dX10_lacks_4 rfl 1 rfl ?_
  obtain ⟨g1, hf⟩ := gu_s hf
  refine k_zald (pc := 5) (n := 4) h rfl g1 dX10_lacks_5 ?_
  obtain ⟨v2, hj, hf⟩ := ob_s hf
  have kj6 : sh_K G shM 48 [] [.int v2] s0 := by
    obtain rfl := so1 hf
    exact hret 48 _ dX10_lacks_48 trivial
  clear hf
  have hf := hj
  clear hj
  refine k_if_ne (pc := 6) (tgt := 13) h dX10_lacks_6 rfl (fun hc => ?_) (fun hc => ?_)
  · have hf := it_n hc hf
    refine k_aload_n (pc := 13) h dX10_lacks_13 rfl 0 rfl ?_
    refine k_getR (pc := 14) h fl_RX10_77 rfl rfl dX10_lacks_14 ?_
    refine k_iload_n (pc := 17) h dX10_lacks_17 rfl 1 rfl ?_
    obtain ⟨g3, hf⟩ := gu_s hf
    refine k_iald (pc := 18) (n := 4) h rfl g3 dX10_lacks_18 ?_
    refine k_iload_n (pc := 19) h dX10_lacks_19 rfl 2 rfl ?_
    refine k_icmp_eq (pc := 20) (tgt := 27) h dX10_lacks_20 rfl (fun hc => ?_) (fun hc => ?_)
    · have hf := it_p hc hf
      refine k_iload_n (pc := 27) h dX10_lacks_27 rfl 3 rfl ?_
      refine k_iconst (pc := 28) h dX10_lacks_28 kc_iconst_0 ?_
      refine k_aload_n (pc := 29) h dX10_lacks_29 rfl 0 rfl ?_
      refine k_getR (pc := 30) h fl_RX10_80 rfl rfl dX10_lacks_30 ?_
      refine k_iload_n (pc := 33) h dX10_lacks_33 rfl 1 rfl ?_
      obtain ⟨g4, hf⟩ := gu_s hf
      refine k_iald (pc := 34) (n := 4) h rfl g4 dX10_lacks_34 ?_
      refine k_iconst (pc := 35) h dX10_lacks_35 kc_iconst_1 ?_
      refine k_isub (pc := 36) h dX10_lacks_36 ?_
      obtain ⟨v5, cv5, hf⟩ := ob_s hf
      refine k_callSp (pc := 37) h cs_RX10_93 (c_X10_in p3 (0 : Int32) ((s0 24 (ix p1)) - (1 : Int32)) _ v5 cv5) rfl rfl (st1 := [.int v5]) rfl ⟨rfl, rfl⟩ (rk hR (Nat.le_of_ble_eq_true rfl) (Nat.le_of_ble_eq_true rfl)) (Nat.le_of_ble_eq_true rfl) dX10_lacks_37 ?_
      refine k_if_eq (pc := 40) (tgt := 47) h dX10_lacks_40 rfl (fun hc => ?_) (fun hc => ?_)
      · have hf := it_p hc hf
        refine k_iconst (pc := 47) h dX10_lacks_47 kc_iconst_2 ?_
        obtain rfl := so1 hf
        exact k_drop [] rfl kj6
      · have hf := it_n hc hf
        refine k_iconst (pc := 43) h dX10_lacks_43 kc_iconst_0 ?_
        refine k_goto (pc := 44) (tgt := 48) h dX10_lacks_44 rfl ?_
        obtain rfl := so1 hf
        exact k_drop [] rfl kj6
    · have hf := it_n hc hf
      refine k_iconst (pc := 23) h dX10_lacks_23 kc_iconst_3 ?_
      refine k_goto (pc := 24) (tgt := 48) h dX10_lacks_24 rfl ?_
      obtain rfl := so1 hf
      exact k_drop [] rfl kj6
  · have hf := it_p hc hf
    refine k_iconst (pc := 9) h dX10_lacks_9 kc_iconst_1 ?_
    refine k_goto (pc := 10) (tgt := 48) h dX10_lacks_10 rfl ?_
    obtain rfl := so1 hf
    exact k_drop [] rfl kj6
theorem dX10_keep_0 : decode cX10_keep 0 = .ok (.aload_n 0, 1) := by decide +kernel
theorem dX10_keep_1 : decode cX10_keep 1 = .ok (.getfield 83, 3) := by decide +kernel
theorem dX10_keep_4 : decode cX10_keep 4 = .ok (.bipush 60, 2) := by decide +kernel
theorem dX10_keep_6 : decode cX10_keep 6 = .ok (.iload_n 1, 1) := by decide +kernel
theorem dX10_keep_7 : decode cX10_keep 7 = .ok (.imul, 1) := by decide +kernel
theorem dX10_keep_8 : decode cX10_keep 8 = .ok (.iload_n 2, 1) := by decide +kernel
theorem dX10_keep_9 : decode cX10_keep 9 = .ok (.iadd, 1) := by decide +kernel
theorem dX10_keep_10 : decode cX10_keep 10 = .ok (.aload_n 0, 1) := by decide +kernel
theorem dX10_keep_11 : decode cX10_keep 11 = .ok (.getfield 77, 3) := by decide +kernel
theorem dX10_keep_14 : decode cX10_keep 14 = .ok (.iload_n 1, 1) := by decide +kernel
theorem dX10_keep_15 : decode cX10_keep 15 = .ok (.iaload, 1) := by decide +kernel
theorem dX10_keep_16 : decode cX10_keep 16 = .ok (.ifCond .ne 8, 3) := by decide +kernel
theorem dX10_keep_19 : decode cX10_keep 19 = .ok (.iload_n 3, 1) := by decide +kernel
theorem dX10_keep_20 : decode cX10_keep 20 = .ok (.i2b, 1) := by decide +kernel
theorem dX10_keep_21 : decode cX10_keep 21 = .ok (.goto 19, 3) := by decide +kernel
theorem dX10_keep_24 : decode cX10_keep 24 = .ok (.aload_n 0, 1) := by decide +kernel
theorem dX10_keep_25 : decode cX10_keep 25 = .ok (.getfield 77, 3) := by decide +kernel
theorem dX10_keep_28 : decode cX10_keep 28 = .ok (.iload_n 1, 1) := by decide +kernel
theorem dX10_keep_29 : decode cX10_keep 29 = .ok (.iaload, 1) := by decide +kernel
theorem dX10_keep_30 : decode cX10_keep 30 = .ok (.iconst 1, 1) := by decide +kernel
theorem dX10_keep_31 : decode cX10_keep 31 = .ok (.if_icmp .ne 8, 3) := by decide +kernel
theorem dX10_keep_34 : decode cX10_keep 34 = .ok (.iload_n 3, 1) := by decide +kernel
theorem dX10_keep_35 : decode cX10_keep 35 = .ok (.i2s, 1) := by decide +kernel
theorem dX10_keep_36 : decode cX10_keep 36 = .ok (.goto 4, 3) := by decide +kernel
theorem dX10_keep_39 : decode cX10_keep 39 = .ok (.iload_n 3, 1) := by decide +kernel
theorem dX10_keep_40 : decode cX10_keep 40 = .ok (.iastore, 1) := by decide +kernel
theorem dX10_keep_41 : decode cX10_keep 41 = .ok (.return_, 1) := by decide +kernel
def f_X10_keep (p1 : Int32) (p2 : Int32) (p3 : Int32) (s0 : sh_S) : Option (sh_S) := gu (inb p1 4) (ob (if (s0 23 (ix p1)) = 0 then some (p3.toInt8.toInt32) else gu (inb p1 4) ((if (s0 23 (ix p1)) = (1 : Int32) then some (p3.toInt16.toInt32) else some p3))) (fun v2 => gu (inb (((60 : Int32) * p1) + p2) 240) (lb (ur s0 25 (upd (s0 25) (ix (((60 : Int32) * p1) + p2)) v2)) (fun s5 => some s5))))
set_option maxRecDepth 100000 in
set_option maxHeartbeats 4000000 in
theorem c_X10_keep (p1 : Int32) (p2 : Int32) (p3 : Int32) (s0 : sh_S) (s9x : sh_S) (hf : f_X10_keep p1 p2 p3 s0 = some s9x) : Ctr yX10_keep cX10_keep 4 none ({ frames := 0, cells := 0, slots := 0, locals := 0 } : Room) shM [.ref 0, .int p1, .int p2, .int p3] s0 none s9x := by
  refine Ctr.mk (ri := .return_) (by decide) (Nat.le_of_ble_eq_true rfl) (Rt_v) ?_
  intro G h hL hR hret
  refine k_drop (lv' := [(0, .ref 0), (1, .int p1), (2, .int p2), (3, .int p3)]) [0, 1, 2, 3] rfl ?_
  unfold f_X10_keep at hf
  refine k_aload_n (pc := 0) h dX10_keep_0 rfl 0 rfl ?_
  refine k_getR (pc := 1) h fl_RX10_83 rfl rfl dX10_keep_1 ?_
  refine k_bipush (pc := 4) h dX10_keep_4 kc_bipush_60 ?_
  refine k_iload_n (pc := 6) h dX10_keep_6 rfl 1 rfl ?_
  refine k_imul (pc := 7) h dX10_keep_7 ?_
  refine k_iload_n (pc := 8) h dX10_keep_8 rfl 2 rfl ?_
  refine k_iadd (pc := 9) h dX10_keep_9 ?_
  refine k_aload_n (pc := 10) h dX10_keep_10 rfl 0 rfl ?_
  refine k_getR (pc := 11) h fl_RX10_77 rfl rfl dX10_keep_11 ?_
  refine k_iload_n (pc := 14) h dX10_keep_14 rfl 1 rfl ?_
  obtain ⟨g1, hf⟩ := gu_s hf
  refine k_iald (pc := 15) (n := 4) h rfl g1 dX10_keep_15 ?_
  obtain ⟨v2, hj, hf⟩ := ob_s hf
  have kj16 : sh_K G shM 40 [] [.int v2, .int (((60 : Int32) * p1) + p2), .ref 25] s0 := by
    obtain ⟨g4, hf⟩ := gu_s hf
    obtain ⟨s5, es5, hf⟩ := lb_s hf
    refine k_iast (pc := 40) (n := 240) h rfl g4 dX10_keep_40 ?_
    refine k_heap es5 ?_
    obtain rfl := so1 hf
    exact hret 41 _ dX10_keep_41 trivial
  clear hf
  have hf := hj
  clear hj
  refine k_if_ne (pc := 16) (tgt := 24) h dX10_keep_16 rfl (fun hc => ?_) (fun hc => ?_)
  · have hf := it_n hc hf
    refine k_aload_n (pc := 24) h dX10_keep_24 rfl 0 rfl ?_
    refine k_getR (pc := 25) h fl_RX10_77 rfl rfl dX10_keep_25 ?_
    refine k_iload_n (pc := 28) h dX10_keep_28 rfl 1 rfl ?_
    obtain ⟨g3, hf⟩ := gu_s hf
    refine k_iald (pc := 29) (n := 4) h rfl g3 dX10_keep_29 ?_
    refine k_iconst (pc := 30) h dX10_keep_30 kc_iconst_1 ?_
    refine k_icmp_ne (pc := 31) (tgt := 39) h dX10_keep_31 rfl (fun hc => ?_) (fun hc => ?_)
    · have hf := it_n hc hf
      refine k_iload_n (pc := 39) h dX10_keep_39 rfl 3 rfl ?_
      obtain rfl := so1 hf
      exact k_drop [] rfl kj16
    · have hf := it_p hc hf
      refine k_iload_n (pc := 34) h dX10_keep_34 rfl 3 rfl ?_
      refine k_i2s (pc := 35) h dX10_keep_35 ?_
      refine k_goto (pc := 36) (tgt := 40) h dX10_keep_36 rfl ?_
      obtain rfl := so1 hf
      exact k_drop [] rfl kj16
  · have hf := it_p hc hf
    refine k_iload_n (pc := 19) h dX10_keep_19 rfl 3 rfl ?_
    refine k_i2b (pc := 20) h dX10_keep_20 ?_
    refine k_goto (pc := 21) (tgt := 40) h dX10_keep_21 rfl ?_
    obtain rfl := so1 hf
    exact k_drop [] rfl kj16
theorem dX10_put_0 : decode cX10_put 0 = .ok (.iload_n 1, 1) := by decide +kernel
theorem dX10_put_1 : decode cX10_put 1 = .ok (.invokestatic 117, 3) := by decide +kernel
theorem dX10_put_4 : decode cX10_put 4 = .ok (.ifCond .eq 12, 3) := by decide +kernel
theorem dX10_put_7 : decode cX10_put 7 = .ok (.iload_n 2, 1) := by decide +kernel
theorem dX10_put_8 : decode cX10_put 8 = .ok (.iconst 0, 1) := by decide +kernel
theorem dX10_put_9 : decode cX10_put 9 = .ok (.iconst 2, 1) := by decide +kernel
theorem dX10_put_10 : decode cX10_put 10 = .ok (.invokestatic 93, 3) := by decide +kernel
theorem dX10_put_13 : decode cX10_put 13 = .ok (.ifCond .ne 6, 3) := by decide +kernel
theorem dX10_put_16 : decode cX10_put 16 = .ok (.bipush (-2), 2) := by decide +kernel
theorem dX10_put_18 : decode cX10_put 18 = .ok (.ireturn, 1) := by decide +kernel
theorem dX10_put_19 : decode cX10_put 19 = .ok (.aload_n 0, 1) := by decide +kernel
theorem dX10_put_20 : decode cX10_put 20 = .ok (.iload_n 1, 1) := by decide +kernel
theorem dX10_put_21 : decode cX10_put 21 = .ok (.iload_n 2, 1) := by decide +kernel
theorem dX10_put_22 : decode cX10_put 22 = .ok (.iload_n 3, 1) := by decide +kernel
theorem dX10_put_23 : decode cX10_put 23 = .ok (.invokevirtual 334, 3) := by decide +kernel
theorem dX10_put_26 : decode cX10_put 26 = .ok (.istore 5, 2) := by decide +kernel
theorem dX10_put_28 : decode cX10_put 28 = .ok (.iload 5, 2) := by decide +kernel
theorem dX10_put_30 : decode cX10_put 30 = .ok (.ifCond .le 10, 3) := by decide +kernel
theorem dX10_put_33 : decode cX10_put 33 = .ok (.aload_n 0, 1) := by decide +kernel
theorem dX10_put_34 : decode cX10_put 34 = .ok (.iload 5, 2) := by decide +kernel
theorem dX10_put_36 : decode cX10_put 36 = .ok (.invokevirtual 120, 3) := by decide +kernel
theorem dX10_put_39 : decode cX10_put 39 = .ok (.ireturn, 1) := by decide +kernel
theorem dX10_put_40 : decode cX10_put 40 = .ok (.aload_n 0, 1) := by decide +kernel
theorem dX10_put_41 : decode cX10_put 41 = .ok (.iload_n 1, 1) := by decide +kernel
theorem dX10_put_42 : decode cX10_put 42 = .ok (.iload_n 3, 1) := by decide +kernel
theorem dX10_put_43 : decode cX10_put 43 = .ok (.iload 4, 2) := by decide +kernel
theorem dX10_put_45 : decode cX10_put 45 = .ok (.invokevirtual 337, 3) := by decide +kernel
theorem dX10_put_48 : decode cX10_put 48 = .ok (.iconst 1, 1) := by decide +kernel
theorem dX10_put_49 : decode cX10_put 49 = .ok (.ireturn, 1) := by decide +kernel
def f_X10_put (p1 : Int32) (p2 : Int32) (p3 : Int32) (p4 : Int32) (s0 : sh_S) : Option (Int32 × sh_S) := ob (f_X10_isSheet p1) (fun v1 => (if v1 = 0 then some ((-2 : Int32), s0) else ob (f_X10_in p2 (0 : Int32) (2 : Int32)) (fun v2 => (if v2 = 0 then some ((-2 : Int32), s0) else ob (f_X10_lacks p1 p2 p3 s0) (fun v3 => (if v3 ≤ 0 then ob (f_X10_keep p1 p3 p4 s0) (fun s4 => some ((1 : Int32), s4)) else ob2 (f_X10_meets v3 s0) (fun v5 s6 => some (v5, s6))))))))
set_option maxRecDepth 100000 in
set_option maxHeartbeats 4000000 in
theorem c_X10_put (p1 : Int32) (p2 : Int32) (p3 : Int32) (p4 : Int32) (s0 : sh_S) (r : Int32) (s9x : sh_S) (hf : f_X10_put p1 p2 p3 p4 s0 = some (r, s9x)) : Ctr yX10_put cX10_put 6 (some .int) ({ frames := 2, cells := 0, slots := 0, locals := 45 } : Room) shM [.ref 0, .int p1, .int p2, .int p3, .int p4] s0 (some (.int r)) s9x := by
  refine Ctr.mk (ri := .ireturn) (by decide) (Nat.le_of_ble_eq_true rfl) (Rt_i r) ?_
  intro G h hL hR hret
  refine k_drop (lv' := [(0, .ref 0), (1, .int p1), (2, .int p2), (3, .int p3), (4, .int p4)]) [0, 1, 2, 3, 4] rfl ?_
  unfold f_X10_put at hf
  refine k_iload_n (pc := 0) h dX10_put_0 rfl 1 rfl ?_
  obtain ⟨v1, cv1, hf⟩ := ob_s hf
  refine k_callSp (pc := 1) h cs_RX10_117 (c_X10_isSheet p1 _ v1 cv1) rfl rfl (st1 := [.int v1]) rfl ⟨rfl, rfl⟩ (rk hR (Nat.le_of_ble_eq_true rfl) (Nat.le_of_ble_eq_true rfl)) (Nat.le_of_ble_eq_true rfl) dX10_put_1 ?_
  refine k_if_eq (pc := 4) (tgt := 16) h dX10_put_4 rfl (fun hc => ?_) (fun hc => ?_)
  · have hf := it_p hc hf
    refine k_bipush (pc := 16) h dX10_put_16 kc_bipush_m2 ?_
    obtain ⟨rfl, rfl⟩ := so2 hf
    exact hret 18 _ dX10_put_18 trivial
  · have hf := it_n hc hf
    refine k_iload_n (pc := 7) h dX10_put_7 rfl 2 rfl ?_
    refine k_iconst (pc := 8) h dX10_put_8 kc_iconst_0 ?_
    refine k_iconst (pc := 9) h dX10_put_9 kc_iconst_2 ?_
    obtain ⟨v2, cv2, hf⟩ := ob_s hf
    refine k_callSp (pc := 10) h cs_RX10_93 (c_X10_in p2 (0 : Int32) (2 : Int32) _ v2 cv2) rfl rfl (st1 := [.int v2]) rfl ⟨rfl, rfl⟩ (rk hR (Nat.le_of_ble_eq_true rfl) (Nat.le_of_ble_eq_true rfl)) (Nat.le_of_ble_eq_true rfl) dX10_put_10 ?_
    refine k_if_ne (pc := 13) (tgt := 19) h dX10_put_13 rfl (fun hc => ?_) (fun hc => ?_)
    · have hf := it_n hc hf
      refine k_aload_n (pc := 19) h dX10_put_19 rfl 0 rfl ?_
      refine k_iload_n (pc := 20) h dX10_put_20 rfl 1 rfl ?_
      refine k_iload_n (pc := 21) h dX10_put_21 rfl 2 rfl ?_
      refine k_iload_n (pc := 22) h dX10_put_22 rfl 3 rfl ?_
      obtain ⟨v3, cv3, hf⟩ := ob_s hf
      refine k_callV0 (pc := 23) h cv_RX10_334 (c_X10_lacks p1 p2 p3 s0 v3 cv3) rfl rfl rfl (st1 := [.int v3]) rfl ⟨rfl, rfl⟩ (rk hR (Nat.le_of_ble_eq_true rfl) (Nat.le_of_ble_eq_true rfl)) (Nat.le_of_ble_eq_true rfl) dX10_put_23 ?_
      refine k_istore (pc := 26) h dX10_put_26 (nk hL (by decide)) (lv' := [(0, .ref 0), (1, .int p1), (2, .int p2), (3, .int p3), (4, .int p4), (5, .int v3)]) rfl ?_
      refine k_iload (pc := 28) h dX10_put_28 5 rfl ?_
      refine k_if_le (pc := 30) (tgt := 40) h dX10_put_30 rfl (fun hc => ?_) (fun hc => ?_)
      · have hf := it_p hc hf
        refine k_aload_n (pc := 40) h dX10_put_40 rfl 0 rfl ?_
        refine k_iload_n (pc := 41) h dX10_put_41 rfl 1 rfl ?_
        refine k_iload_n (pc := 42) h dX10_put_42 rfl 3 rfl ?_
        refine k_iload (pc := 43) h dX10_put_43 4 rfl ?_
        obtain ⟨s4, cs4, hf⟩ := ob_s hf
        refine k_callV0 (pc := 45) h cv_RX10_337 (c_X10_keep p1 p3 p4 s0 s4 cs4) rfl rfl rfl (st1 := []) rfl ⟨rfl, rfl⟩ (rk hR (Nat.le_of_ble_eq_true rfl) (Nat.le_of_ble_eq_true rfl)) (Nat.le_of_ble_eq_true rfl) dX10_put_45 ?_
        refine k_iconst (pc := 48) h dX10_put_48 kc_iconst_1 ?_
        obtain ⟨rfl, rfl⟩ := so2 hf
        exact hret 49 _ dX10_put_49 trivial
      · have hf := it_n hc hf
        refine k_aload_n (pc := 33) h dX10_put_33 rfl 0 rfl ?_
        refine k_iload (pc := 34) h dX10_put_34 5 rfl ?_
        obtain ⟨v5, s6, cv5, hf⟩ := ob2_s hf
        refine k_callV0 (pc := 36) h cv_RX10_120 (c_X10_meets v3 s0 v5 s6 cv5) rfl rfl rfl (st1 := [.int v5]) rfl ⟨rfl, rfl⟩ (rk hR (Nat.le_of_ble_eq_true rfl) (Nat.le_of_ble_eq_true rfl)) (Nat.le_of_ble_eq_true rfl) dX10_put_36 ?_
        obtain ⟨rfl, rfl⟩ := so2 hf
        exact hret 39 _ dX10_put_39 trivial
    · have hf := it_p hc hf
      refine k_bipush (pc := 16) h dX10_put_16 kc_bipush_m2 ?_
      obtain ⟨rfl, rfl⟩ := so2 hf
      exact hret 18 _ dX10_put_18 trivial
theorem dX10_get_0 : decode cX10_get 0 = .ok (.iload_n 1, 1) := by decide +kernel
theorem dX10_get_1 : decode cX10_get 1 = .ok (.invokestatic 117, 3) := by decide +kernel
theorem dX10_get_4 : decode cX10_get 4 = .ok (.ifCond .eq 12, 3) := by decide +kernel
theorem dX10_get_7 : decode cX10_get 7 = .ok (.iload_n 2, 1) := by decide +kernel
theorem dX10_get_8 : decode cX10_get 8 = .ok (.iconst 0, 1) := by decide +kernel
theorem dX10_get_9 : decode cX10_get 9 = .ok (.iconst 2, 1) := by decide +kernel
theorem dX10_get_10 : decode cX10_get 10 = .ok (.invokestatic 93, 3) := by decide +kernel
theorem dX10_get_13 : decode cX10_get 13 = .ok (.ifCond .ne 7, 3) := by decide +kernel
theorem dX10_get_16 : decode cX10_get 16 = .ok (.ldc_w 340, 3) := by decide +kernel
theorem dX10_get_19 : decode cX10_get 19 = .ok (.ireturn, 1) := by decide +kernel
theorem dX10_get_20 : decode cX10_get 20 = .ok (.aload_n 0, 1) := by decide +kernel
theorem dX10_get_21 : decode cX10_get 21 = .ok (.iload_n 1, 1) := by decide +kernel
theorem dX10_get_22 : decode cX10_get 22 = .ok (.iload_n 2, 1) := by decide +kernel
theorem dX10_get_23 : decode cX10_get 23 = .ok (.iload_n 3, 1) := by decide +kernel
theorem dX10_get_24 : decode cX10_get 24 = .ok (.invokevirtual 334, 3) := by decide +kernel
theorem dX10_get_27 : decode cX10_get 27 = .ok (.istore 4, 2) := by decide +kernel
theorem dX10_get_29 : decode cX10_get 29 = .ok (.iload 4, 2) := by decide +kernel
theorem dX10_get_31 : decode cX10_get 31 = .ok (.ifCond .le 13, 3) := by decide +kernel
theorem dX10_get_34 : decode cX10_get 34 = .ok (.aload_n 0, 1) := by decide +kernel
theorem dX10_get_35 : decode cX10_get 35 = .ok (.iload 4, 2) := by decide +kernel
theorem dX10_get_37 : decode cX10_get 37 = .ok (.putfield 331, 3) := by decide +kernel
theorem dX10_get_40 : decode cX10_get 40 = .ok (.ldc_w 340, 3) := by decide +kernel
theorem dX10_get_43 : decode cX10_get 43 = .ok (.ireturn, 1) := by decide +kernel
theorem dX10_get_44 : decode cX10_get 44 = .ok (.aload_n 0, 1) := by decide +kernel
theorem dX10_get_45 : decode cX10_get 45 = .ok (.getfield 83, 3) := by decide +kernel
theorem dX10_get_48 : decode cX10_get 48 = .ok (.bipush 60, 2) := by decide +kernel
theorem dX10_get_50 : decode cX10_get 50 = .ok (.iload_n 1, 1) := by decide +kernel
theorem dX10_get_51 : decode cX10_get 51 = .ok (.imul, 1) := by decide +kernel
theorem dX10_get_52 : decode cX10_get 52 = .ok (.iload_n 3, 1) := by decide +kernel
theorem dX10_get_53 : decode cX10_get 53 = .ok (.iadd, 1) := by decide +kernel
theorem dX10_get_54 : decode cX10_get 54 = .ok (.iaload, 1) := by decide +kernel
theorem dX10_get_55 : decode cX10_get 55 = .ok (.ireturn, 1) := by decide +kernel
def f_X10_get (p1 : Int32) (p2 : Int32) (p3 : Int32) (s0 : sh_S) : Option (Int32 × sh_S) := ob (f_X10_isSheet p1) (fun v1 => (if v1 = 0 then some ((-2147483648 : Int32), s0) else ob (f_X10_in p2 (0 : Int32) (2 : Int32)) (fun v2 => (if v2 = 0 then some ((-2147483648 : Int32), s0) else ob (f_X10_lacks p1 p2 p3 s0) (fun v3 => (if v3 ≤ 0 then gu (inb (((60 : Int32) * p1) + p3) 240) (some ((s0 25 (ix (((60 : Int32) * p1) + p3))), s0)) else lb (ur s0 0 (upd (s0 0) 35 v3)) (fun s5 => some ((-2147483648 : Int32), s5))))))))
set_option maxRecDepth 100000 in
set_option maxHeartbeats 4000000 in
theorem c_X10_get (p1 : Int32) (p2 : Int32) (p3 : Int32) (s0 : sh_S) (r : Int32) (s9x : sh_S) (hf : f_X10_get p1 p2 p3 s0 = some (r, s9x)) : Ctr yX10_get cX10_get 5 (some .int) ({ frames := 2, cells := 0, slots := 0, locals := 45 } : Room) shM [.ref 0, .int p1, .int p2, .int p3] s0 (some (.int r)) s9x := by
  refine Ctr.mk (ri := .ireturn) (by decide) (Nat.le_of_ble_eq_true rfl) (Rt_i r) ?_
  intro G h hL hR hret
  refine k_drop (lv' := [(0, .ref 0), (1, .int p1), (2, .int p2), (3, .int p3)]) [0, 1, 2, 3] rfl ?_
  unfold f_X10_get at hf
  refine k_iload_n (pc := 0) h dX10_get_0 rfl 1 rfl ?_
  obtain ⟨v1, cv1, hf⟩ := ob_s hf
  refine k_callSp (pc := 1) h cs_RX10_117 (c_X10_isSheet p1 _ v1 cv1) rfl rfl (st1 := [.int v1]) rfl ⟨rfl, rfl⟩ (rk hR (Nat.le_of_ble_eq_true rfl) (Nat.le_of_ble_eq_true rfl)) (Nat.le_of_ble_eq_true rfl) dX10_get_1 ?_
  refine k_if_eq (pc := 4) (tgt := 16) h dX10_get_4 rfl (fun hc => ?_) (fun hc => ?_)
  · have hf := it_p hc hf
    refine k_ldcw (pc := 16) h dX10_get_16 wd_1430 ?_
    obtain ⟨rfl, rfl⟩ := so2 hf
    exact hret 19 _ dX10_get_19 trivial
  · have hf := it_n hc hf
    refine k_iload_n (pc := 7) h dX10_get_7 rfl 2 rfl ?_
    refine k_iconst (pc := 8) h dX10_get_8 kc_iconst_0 ?_
    refine k_iconst (pc := 9) h dX10_get_9 kc_iconst_2 ?_
    obtain ⟨v2, cv2, hf⟩ := ob_s hf
    refine k_callSp (pc := 10) h cs_RX10_93 (c_X10_in p2 (0 : Int32) (2 : Int32) _ v2 cv2) rfl rfl (st1 := [.int v2]) rfl ⟨rfl, rfl⟩ (rk hR (Nat.le_of_ble_eq_true rfl) (Nat.le_of_ble_eq_true rfl)) (Nat.le_of_ble_eq_true rfl) dX10_get_10 ?_
    refine k_if_ne (pc := 13) (tgt := 20) h dX10_get_13 rfl (fun hc => ?_) (fun hc => ?_)
    · have hf := it_n hc hf
      refine k_aload_n (pc := 20) h dX10_get_20 rfl 0 rfl ?_
      refine k_iload_n (pc := 21) h dX10_get_21 rfl 1 rfl ?_
      refine k_iload_n (pc := 22) h dX10_get_22 rfl 2 rfl ?_
      refine k_iload_n (pc := 23) h dX10_get_23 rfl 3 rfl ?_
      obtain ⟨v3, cv3, hf⟩ := ob_s hf
      refine k_callV0 (pc := 24) h cv_RX10_334 (c_X10_lacks p1 p2 p3 s0 v3 cv3) rfl rfl rfl (st1 := [.int v3]) rfl ⟨rfl, rfl⟩ (rk hR (Nat.le_of_ble_eq_true rfl) (Nat.le_of_ble_eq_true rfl)) (Nat.le_of_ble_eq_true rfl) dX10_get_24 ?_
      refine k_istore (pc := 27) h dX10_get_27 (nk hL (by decide)) (lv' := [(0, .ref 0), (1, .int p1), (2, .int p2), (3, .int p3), (4, .int v3)]) rfl ?_
      refine k_iload (pc := 29) h dX10_get_29 4 rfl ?_
      refine k_if_le (pc := 31) (tgt := 44) h dX10_get_31 rfl (fun hc => ?_) (fun hc => ?_)
      · have hf := it_p hc hf
        refine k_aload_n (pc := 44) h dX10_get_44 rfl 0 rfl ?_
        refine k_getR (pc := 45) h fl_RX10_83 rfl rfl dX10_get_45 ?_
        refine k_bipush (pc := 48) h dX10_get_48 kc_bipush_60 ?_
        refine k_iload_n (pc := 50) h dX10_get_50 rfl 1 rfl ?_
        refine k_imul (pc := 51) h dX10_get_51 ?_
        refine k_iload_n (pc := 52) h dX10_get_52 rfl 3 rfl ?_
        refine k_iadd (pc := 53) h dX10_get_53 ?_
        obtain ⟨g4, hf⟩ := gu_s hf
        refine k_iald (pc := 54) (n := 240) h rfl g4 dX10_get_54 ?_
        obtain ⟨rfl, rfl⟩ := so2 hf
        exact hret 55 _ dX10_get_55 trivial
      · have hf := it_n hc hf
        refine k_aload_n (pc := 34) h dX10_get_34 rfl 0 rfl ?_
        refine k_iload (pc := 35) h dX10_get_35 4 rfl ?_
        obtain ⟨s5, es5, hf⟩ := lb_s hf
        refine k_put (pc := 37) h fl_RX10_331 fp_X10_35 rfl rfl rfl rfl dX10_get_37 ?_
        refine k_heap es5 ?_
        refine k_ldcw (pc := 40) h dX10_get_40 wd_1430 ?_
        obtain ⟨rfl, rfl⟩ := so2 hf
        exact hret 43 _ dX10_get_43 trivial
    · have hf := it_p hc hf
      refine k_ldcw (pc := 16) h dX10_get_16 wd_1430 ?_
      obtain ⟨rfl, rfl⟩ := so2 hf
      exact hret 19 _ dX10_get_19 trivial
theorem dX10_copy_0 : decode cX10_copy 0 = .ok (.iload_n 1, 1) := by decide +kernel
theorem dX10_copy_1 : decode cX10_copy 1 = .ok (.invokestatic 117, 3) := by decide +kernel
theorem dX10_copy_4 : decode cX10_copy 4 = .ok (.ifCond .eq 10, 3) := by decide +kernel
theorem dX10_copy_7 : decode cX10_copy 7 = .ok (.iload_n 3, 1) := by decide +kernel
theorem dX10_copy_8 : decode cX10_copy 8 = .ok (.invokestatic 117, 3) := by decide +kernel
theorem dX10_copy_11 : decode cX10_copy 11 = .ok (.ifCond .ne 6, 3) := by decide +kernel
theorem dX10_copy_14 : decode cX10_copy 14 = .ok (.bipush (-2), 2) := by decide +kernel
theorem dX10_copy_16 : decode cX10_copy 16 = .ok (.ireturn, 1) := by decide +kernel
theorem dX10_copy_17 : decode cX10_copy 17 = .ok (.aload_n 0, 1) := by decide +kernel
theorem dX10_copy_18 : decode cX10_copy 18 = .ok (.getfield 73, 3) := by decide +kernel
theorem dX10_copy_21 : decode cX10_copy 21 = .ok (.iload_n 1, 1) := by decide +kernel
theorem dX10_copy_22 : decode cX10_copy 22 = .ok (.baload, 1) := by decide +kernel
theorem dX10_copy_23 : decode cX10_copy 23 = .ok (.ifCond .eq 12, 3) := by decide +kernel
theorem dX10_copy_26 : decode cX10_copy 26 = .ok (.aload_n 0, 1) := by decide +kernel
theorem dX10_copy_27 : decode cX10_copy 27 = .ok (.getfield 73, 3) := by decide +kernel
theorem dX10_copy_30 : decode cX10_copy 30 = .ok (.iload_n 3, 1) := by decide +kernel
theorem dX10_copy_31 : decode cX10_copy 31 = .ok (.baload, 1) := by decide +kernel
theorem dX10_copy_32 : decode cX10_copy 32 = .ok (.ifCond .ne 9, 3) := by decide +kernel
theorem dX10_copy_35 : decode cX10_copy 35 = .ok (.aload_n 0, 1) := by decide +kernel
theorem dX10_copy_36 : decode cX10_copy 36 = .ok (.iconst 1, 1) := by decide +kernel
theorem dX10_copy_37 : decode cX10_copy 37 = .ok (.invokevirtual 120, 3) := by decide +kernel
theorem dX10_copy_40 : decode cX10_copy 40 = .ok (.ireturn, 1) := by decide +kernel
theorem dX10_copy_41 : decode cX10_copy 41 = .ok (.aload_n 0, 1) := by decide +kernel
theorem dX10_copy_42 : decode cX10_copy 42 = .ok (.getfield 77, 3) := by decide +kernel
theorem dX10_copy_45 : decode cX10_copy 45 = .ok (.iload_n 1, 1) := by decide +kernel
theorem dX10_copy_46 : decode cX10_copy 46 = .ok (.iaload, 1) := by decide +kernel
theorem dX10_copy_47 : decode cX10_copy 47 = .ok (.aload_n 0, 1) := by decide +kernel
theorem dX10_copy_48 : decode cX10_copy 48 = .ok (.getfield 77, 3) := by decide +kernel
theorem dX10_copy_51 : decode cX10_copy 51 = .ok (.iload_n 3, 1) := by decide +kernel
theorem dX10_copy_52 : decode cX10_copy 52 = .ok (.iaload, 1) := by decide +kernel
theorem dX10_copy_53 : decode cX10_copy 53 = .ok (.if_icmp .eq 9, 3) := by decide +kernel
theorem dX10_copy_56 : decode cX10_copy 56 = .ok (.aload_n 0, 1) := by decide +kernel
theorem dX10_copy_57 : decode cX10_copy 57 = .ok (.iconst 4, 1) := by decide +kernel
theorem dX10_copy_58 : decode cX10_copy 58 = .ok (.invokevirtual 120, 3) := by decide +kernel
theorem dX10_copy_61 : decode cX10_copy 61 = .ok (.ireturn, 1) := by decide +kernel
theorem dX10_copy_62 : decode cX10_copy 62 = .ok (.iload_n 2, 1) := by decide +kernel
theorem dX10_copy_63 : decode cX10_copy 63 = .ok (.ifCond .lt 48, 3) := by decide +kernel
theorem dX10_copy_66 : decode cX10_copy 66 = .ok (.iload 4, 2) := by decide +kernel
theorem dX10_copy_68 : decode cX10_copy 68 = .ok (.ifCond .lt 43, 3) := by decide +kernel
theorem dX10_copy_71 : decode cX10_copy 71 = .ok (.iload 5, 2) := by decide +kernel
theorem dX10_copy_73 : decode cX10_copy 73 = .ok (.ifCond .lt 38, 3) := by decide +kernel
theorem dX10_copy_76 : decode cX10_copy 76 = .ok (.iload_n 2, 1) := by decide +kernel
theorem dX10_copy_77 : decode cX10_copy 77 = .ok (.i2l, 1) := by decide +kernel
theorem dX10_copy_78 : decode cX10_copy 78 = .ok (.iload 5, 2) := by decide +kernel
theorem dX10_copy_80 : decode cX10_copy 80 = .ok (.i2l, 1) := by decide +kernel
theorem dX10_copy_81 : decode cX10_copy 81 = .ok (.ladd, 1) := by decide +kernel
theorem dX10_copy_82 : decode cX10_copy 82 = .ok (.aload_n 0, 1) := by decide +kernel
theorem dX10_copy_83 : decode cX10_copy 83 = .ok (.getfield 80, 3) := by decide +kernel
theorem dX10_copy_86 : decode cX10_copy 86 = .ok (.iload_n 1, 1) := by decide +kernel
theorem dX10_copy_87 : decode cX10_copy 87 = .ok (.iaload, 1) := by decide +kernel
theorem dX10_copy_88 : decode cX10_copy 88 = .ok (.i2l, 1) := by decide +kernel
theorem dX10_copy_89 : decode cX10_copy 89 = .ok (.lcmp, 1) := by decide +kernel
theorem dX10_copy_90 : decode cX10_copy 90 = .ok (.ifCond .gt 21, 3) := by decide +kernel
theorem dX10_copy_93 : decode cX10_copy 93 = .ok (.iload 4, 2) := by decide +kernel
theorem dX10_copy_95 : decode cX10_copy 95 = .ok (.i2l, 1) := by decide +kernel
theorem dX10_copy_96 : decode cX10_copy 96 = .ok (.iload 5, 2) := by decide +kernel
theorem dX10_copy_98 : decode cX10_copy 98 = .ok (.i2l, 1) := by decide +kernel
theorem dX10_copy_99 : decode cX10_copy 99 = .ok (.ladd, 1) := by decide +kernel
theorem dX10_copy_100 : decode cX10_copy 100 = .ok (.aload_n 0, 1) := by decide +kernel
theorem dX10_copy_101 : decode cX10_copy 101 = .ok (.getfield 80, 3) := by decide +kernel
theorem dX10_copy_104 : decode cX10_copy 104 = .ok (.iload_n 3, 1) := by decide +kernel
theorem dX10_copy_105 : decode cX10_copy 105 = .ok (.iaload, 1) := by decide +kernel
theorem dX10_copy_106 : decode cX10_copy 106 = .ok (.i2l, 1) := by decide +kernel
theorem dX10_copy_107 : decode cX10_copy 107 = .ok (.lcmp, 1) := by decide +kernel
theorem dX10_copy_108 : decode cX10_copy 108 = .ok (.ifCond .le 9, 3) := by decide +kernel
theorem dX10_copy_111 : decode cX10_copy 111 = .ok (.aload_n 0, 1) := by decide +kernel
theorem dX10_copy_112 : decode cX10_copy 112 = .ok (.iconst 2, 1) := by decide +kernel
theorem dX10_copy_113 : decode cX10_copy 113 = .ok (.invokevirtual 120, 3) := by decide +kernel
theorem dX10_copy_116 : decode cX10_copy 116 = .ok (.ireturn, 1) := by decide +kernel
theorem dX10_copy_117 : decode cX10_copy 117 = .ok (.iconst 0, 1) := by decide +kernel
theorem dX10_copy_118 : decode cX10_copy 118 = .ok (.istore 6, 2) := by decide +kernel
theorem dX10_copy_120 : decode cX10_copy 120 = .ok (.iload 6, 2) := by decide +kernel
theorem dX10_copy_122 : decode cX10_copy 122 = .ok (.iload 5, 2) := by decide +kernel
theorem dX10_copy_124 : decode cX10_copy 124 = .ok (.if_icmp .ge 30, 3) := by decide +kernel
theorem dX10_copy_127 : decode cX10_copy 127 = .ok (.aload_n 0, 1) := by decide +kernel
theorem dX10_copy_128 : decode cX10_copy 128 = .ok (.getfield 86, 3) := by decide +kernel
theorem dX10_copy_131 : decode cX10_copy 131 = .ok (.iload 6, 2) := by decide +kernel
theorem dX10_copy_133 : decode cX10_copy 133 = .ok (.aload_n 0, 1) := by decide +kernel
theorem dX10_copy_134 : decode cX10_copy 134 = .ok (.getfield 83, 3) := by decide +kernel
theorem dX10_copy_137 : decode cX10_copy 137 = .ok (.bipush 60, 2) := by decide +kernel
theorem dX10_copy_139 : decode cX10_copy 139 = .ok (.iload_n 1, 1) := by decide +kernel
theorem dX10_copy_140 : decode cX10_copy 140 = .ok (.imul, 1) := by decide +kernel
theorem dX10_copy_141 : decode cX10_copy 141 = .ok (.iload_n 2, 1) := by decide +kernel
theorem dX10_copy_142 : decode cX10_copy 142 = .ok (.iadd, 1) := by decide +kernel
theorem dX10_copy_143 : decode cX10_copy 143 = .ok (.iload 6, 2) := by decide +kernel
theorem dX10_copy_145 : decode cX10_copy 145 = .ok (.iadd, 1) := by decide +kernel
theorem dX10_copy_146 : decode cX10_copy 146 = .ok (.iaload, 1) := by decide +kernel
theorem dX10_copy_147 : decode cX10_copy 147 = .ok (.iastore, 1) := by decide +kernel
theorem dX10_copy_148 : decode cX10_copy 148 = .ok (.iinc 6 1, 3) := by decide +kernel
theorem dX10_copy_151 : decode cX10_copy 151 = .ok (.goto (-31), 3) := by decide +kernel
theorem dX10_copy_154 : decode cX10_copy 154 = .ok (.iconst 0, 1) := by decide +kernel
theorem dX10_copy_155 : decode cX10_copy 155 = .ok (.istore 6, 2) := by decide +kernel
theorem dX10_copy_157 : decode cX10_copy 157 = .ok (.iload 6, 2) := by decide +kernel
theorem dX10_copy_159 : decode cX10_copy 159 = .ok (.iload 5, 2) := by decide +kernel
theorem dX10_copy_161 : decode cX10_copy 161 = .ok (.if_icmp .ge 31, 3) := by decide +kernel
theorem dX10_copy_164 : decode cX10_copy 164 = .ok (.aload_n 0, 1) := by decide +kernel
theorem dX10_copy_165 : decode cX10_copy 165 = .ok (.getfield 83, 3) := by decide +kernel
theorem dX10_copy_168 : decode cX10_copy 168 = .ok (.bipush 60, 2) := by decide +kernel
theorem dX10_copy_170 : decode cX10_copy 170 = .ok (.iload_n 3, 1) := by decide +kernel
theorem dX10_copy_171 : decode cX10_copy 171 = .ok (.imul, 1) := by decide +kernel
theorem dX10_copy_172 : decode cX10_copy 172 = .ok (.iload 4, 2) := by decide +kernel
theorem dX10_copy_174 : decode cX10_copy 174 = .ok (.iadd, 1) := by decide +kernel
theorem dX10_copy_175 : decode cX10_copy 175 = .ok (.iload 6, 2) := by decide +kernel
theorem dX10_copy_177 : decode cX10_copy 177 = .ok (.iadd, 1) := by decide +kernel
theorem dX10_copy_178 : decode cX10_copy 178 = .ok (.aload_n 0, 1) := by decide +kernel
theorem dX10_copy_179 : decode cX10_copy 179 = .ok (.getfield 86, 3) := by decide +kernel
theorem dX10_copy_182 : decode cX10_copy 182 = .ok (.iload 6, 2) := by decide +kernel
theorem dX10_copy_184 : decode cX10_copy 184 = .ok (.iaload, 1) := by decide +kernel
theorem dX10_copy_185 : decode cX10_copy 185 = .ok (.iastore, 1) := by decide +kernel
theorem dX10_copy_186 : decode cX10_copy 186 = .ok (.iinc 6 1, 3) := by decide +kernel
theorem dX10_copy_189 : decode cX10_copy 189 = .ok (.goto (-32), 3) := by decide +kernel
theorem dX10_copy_192 : decode cX10_copy 192 = .ok (.iconst 1, 1) := by decide +kernel
theorem dX10_copy_193 : decode cX10_copy 193 = .ok (.ireturn, 1) := by decide +kernel
def f_X10_copy_L120 (p1 : Int32) (p2 : Int32) (p5 : Int32) (v19 : Int32) (s20 : sh_S) : Option ((Int32 × sh_S) ⊕ (sh_S)) := (if p5 ≤ v19 then some (.inr s20) else gu (inb ((((60 : Int32) * p1) + p2) + v19) 240) (gu (inb v19 60) (lb (ur s20 26 (upd (s20 26) (ix v19) (s20 25 (ix ((((60 : Int32) * p1) + p2) + v19))))) (fun s24 => lb (v19 + (1 : Int32)) (fun v25 => some (.inl (v25, s24)))))))
def f_X10_copy_L157 (p3 : Int32) (p4 : Int32) (p5 : Int32) (v26 : Int32) (s27 : sh_S) : Option ((Int32 × sh_S) ⊕ (sh_S)) := (if p5 ≤ v26 then some (.inr s27) else gu (inb v26 60) (gu (inb ((((60 : Int32) * p3) + p4) + v26) 240) (lb (ur s27 25 (upd (s27 25) (ix ((((60 : Int32) * p3) + p4) + v26)) (s27 26 (ix v26)))) (fun s31 => lb (v26 + (1 : Int32)) (fun v32 => some (.inl (v32, s31)))))))
def f_X10_copy (p1 : Int32) (p2 : Int32) (p3 : Int32) (p4 : Int32) (p5 : Int32) (s0 : sh_S) : Option (Int32 × sh_S) := ob (f_X10_isSheet p1) (fun v1 => (if v1 = 0 then some ((-2 : Int32), s0) else ob (f_X10_isSheet p3) (fun v2 => (if v2 = 0 then some ((-2 : Int32), s0) else gu (inb p1 4) ((if (s0 22 (ix p1)) = 0 then ob2 (f_X10_meets (1 : Int32) s0) (fun v4 s5 => some (v4, s5)) else gu (inb p3 4) ((if (s0 22 (ix p3)) = 0 then ob2 (f_X10_meets (1 : Int32) s0) (fun v37 s38 => some (v37, s38)) else gu (inb p1 4) (gu (inb p3 4) ((if (s0 23 (ix p1)) = (s0 23 (ix p3)) then (if p2 < 0 then ob2 (f_X10_meets (2 : Int32) s0) (fun v9 s10 => some (v9, s10)) else (if p4 < 0 then ob2 (f_X10_meets (2 : Int32) s0) (fun v11 s12 => some (v11, s12)) else (if p5 < 0 then ob2 (f_X10_meets (2 : Int32) s0) (fun v13 s14 => some (v13, s14)) else gu (inb p1 4) ((if 0 < (lg_cmp ((p2.toInt64) + (p5.toInt64)) ((s0 24 (ix p1)).toInt64)) then ob2 (f_X10_meets (2 : Int32) s0) (fun v16 s17 => some (v16, s17)) else gu (inb p3 4) ((if (lg_cmp ((p4.toInt64) + (p5.toInt64)) ((s0 24 (ix p3)).toInt64)) ≤ 0 then ob (lp (fun q => f_X10_copy_L120 p1 p2 p5 q.1 q.2) FU ((0 : Int32), s0)) (fun s21 => ob (lp (fun q => f_X10_copy_L157 p3 p4 p5 q.1 q.2) FU ((0 : Int32), s21)) (fun s28 => some ((1 : Int32), s28))) else ob2 (f_X10_meets (2 : Int32) s0) (fun v33 s34 => some (v33, s34))))))))) else ob2 (f_X10_meets (4 : Int32) s0) (fun v35 s36 => some (v35, s36)))))))))))))
set_option maxRecDepth 100000 in
set_option maxHeartbeats 4000000 in
theorem c_X10_copy (p1 : Int32) (p2 : Int32) (p3 : Int32) (p4 : Int32) (p5 : Int32) (s0 : sh_S) (r : Int32) (s9x : sh_S) (hf : f_X10_copy p1 p2 p3 p4 p5 s0 = some (r, s9x)) : Ctr yX10_copy cX10_copy 7 (some .int) ({ frames := 2, cells := 0, slots := 0, locals := 42 } : Room) shM [.ref 0, .int p1, .int p2, .int p3, .int p4, .int p5] s0 (some (.int r)) s9x := by
  refine Ctr.mk (ri := .ireturn) (by decide) (Nat.le_of_ble_eq_true rfl) (Rt_i r) ?_
  intro G h hL hR hret
  refine k_drop (lv' := [(0, .ref 0), (1, .int p1), (2, .int p2), (3, .int p3), (4, .int p4), (5, .int p5)]) [0, 1, 2, 3, 4, 5] rfl ?_
  unfold f_X10_copy at hf
  refine k_iload_n (pc := 0) h dX10_copy_0 rfl 1 rfl ?_
  obtain ⟨v1, cv1, hf⟩ := ob_s hf
  refine k_callSp (pc := 1) h cs_RX10_117 (c_X10_isSheet p1 _ v1 cv1) rfl rfl (st1 := [.int v1]) rfl ⟨rfl, rfl⟩ (rk hR (Nat.le_of_ble_eq_true rfl) (Nat.le_of_ble_eq_true rfl)) (Nat.le_of_ble_eq_true rfl) dX10_copy_1 ?_
  refine k_if_eq (pc := 4) (tgt := 14) h dX10_copy_4 rfl (fun hc => ?_) (fun hc => ?_)
  · have hf := it_p hc hf
    refine k_bipush (pc := 14) h dX10_copy_14 kc_bipush_m2 ?_
    obtain ⟨rfl, rfl⟩ := so2 hf
    exact hret 16 _ dX10_copy_16 trivial
  · have hf := it_n hc hf
    refine k_iload_n (pc := 7) h dX10_copy_7 rfl 3 rfl ?_
    obtain ⟨v2, cv2, hf⟩ := ob_s hf
    refine k_callSp (pc := 8) h cs_RX10_117 (c_X10_isSheet p3 _ v2 cv2) rfl rfl (st1 := [.int v2]) rfl ⟨rfl, rfl⟩ (rk hR (Nat.le_of_ble_eq_true rfl) (Nat.le_of_ble_eq_true rfl)) (Nat.le_of_ble_eq_true rfl) dX10_copy_8 ?_
    refine k_if_ne (pc := 11) (tgt := 17) h dX10_copy_11 rfl (fun hc => ?_) (fun hc => ?_)
    · have hf := it_n hc hf
      refine k_aload_n (pc := 17) h dX10_copy_17 rfl 0 rfl ?_
      refine k_getR (pc := 18) h fl_RX10_73 rfl rfl dX10_copy_18 ?_
      refine k_iload_n (pc := 21) h dX10_copy_21 rfl 1 rfl ?_
      obtain ⟨g3, hf⟩ := gu_s hf
      refine k_zald (pc := 22) (n := 4) h rfl g3 dX10_copy_22 ?_
      refine k_if_eq (pc := 23) (tgt := 35) h dX10_copy_23 rfl (fun hc => ?_) (fun hc => ?_)
      · have hf := it_p hc hf
        refine k_aload_n (pc := 35) h dX10_copy_35 rfl 0 rfl ?_
        refine k_iconst (pc := 36) h dX10_copy_36 kc_iconst_1 ?_
        obtain ⟨v4, s5, cv4, hf⟩ := ob2_s hf
        refine k_callV0 (pc := 37) h cv_RX10_120 (c_X10_meets (1 : Int32) s0 v4 s5 cv4) rfl rfl rfl (st1 := [.int v4]) rfl ⟨rfl, rfl⟩ (rk hR (Nat.le_of_ble_eq_true rfl) (Nat.le_of_ble_eq_true rfl)) (Nat.le_of_ble_eq_true rfl) dX10_copy_37 ?_
        obtain ⟨rfl, rfl⟩ := so2 hf
        exact hret 40 _ dX10_copy_40 trivial
      · have hf := it_n hc hf
        refine k_aload_n (pc := 26) h dX10_copy_26 rfl 0 rfl ?_
        refine k_getR (pc := 27) h fl_RX10_73 rfl rfl dX10_copy_27 ?_
        refine k_iload_n (pc := 30) h dX10_copy_30 rfl 3 rfl ?_
        obtain ⟨g6, hf⟩ := gu_s hf
        refine k_zald (pc := 31) (n := 4) h rfl g6 dX10_copy_31 ?_
        refine k_if_ne (pc := 32) (tgt := 41) h dX10_copy_32 rfl (fun hc => ?_) (fun hc => ?_)
        · have hf := it_n hc hf
          refine k_aload_n (pc := 41) h dX10_copy_41 rfl 0 rfl ?_
          refine k_getR (pc := 42) h fl_RX10_77 rfl rfl dX10_copy_42 ?_
          refine k_iload_n (pc := 45) h dX10_copy_45 rfl 1 rfl ?_
          obtain ⟨g7, hf⟩ := gu_s hf
          refine k_iald (pc := 46) (n := 4) h rfl g7 dX10_copy_46 ?_
          refine k_aload_n (pc := 47) h dX10_copy_47 rfl 0 rfl ?_
          refine k_getR (pc := 48) h fl_RX10_77 rfl rfl dX10_copy_48 ?_
          refine k_iload_n (pc := 51) h dX10_copy_51 rfl 3 rfl ?_
          obtain ⟨g8, hf⟩ := gu_s hf
          refine k_iald (pc := 52) (n := 4) h rfl g8 dX10_copy_52 ?_
          refine k_icmp_eq (pc := 53) (tgt := 62) h dX10_copy_53 rfl (fun hc => ?_) (fun hc => ?_)
          · have hf := it_p hc hf
            refine k_iload_n (pc := 62) h dX10_copy_62 rfl 2 rfl ?_
            refine k_if_lt (pc := 63) (tgt := 111) h dX10_copy_63 rfl (fun hc => ?_) (fun hc => ?_)
            · have hf := it_p hc hf
              refine k_aload_n (pc := 111) h dX10_copy_111 rfl 0 rfl ?_
              refine k_iconst (pc := 112) h dX10_copy_112 kc_iconst_2 ?_
              obtain ⟨v9, s10, cv9, hf⟩ := ob2_s hf
              refine k_callV0 (pc := 113) h cv_RX10_120 (c_X10_meets (2 : Int32) s0 v9 s10 cv9) rfl rfl rfl (st1 := [.int v9]) rfl ⟨rfl, rfl⟩ (rk hR (Nat.le_of_ble_eq_true rfl) (Nat.le_of_ble_eq_true rfl)) (Nat.le_of_ble_eq_true rfl) dX10_copy_113 ?_
              obtain ⟨rfl, rfl⟩ := so2 hf
              exact hret 116 _ dX10_copy_116 trivial
            · have hf := it_n hc hf
              refine k_iload (pc := 66) h dX10_copy_66 4 rfl ?_
              refine k_if_lt (pc := 68) (tgt := 111) h dX10_copy_68 rfl (fun hc => ?_) (fun hc => ?_)
              · have hf := it_p hc hf
                refine k_aload_n (pc := 111) h dX10_copy_111 rfl 0 rfl ?_
                refine k_iconst (pc := 112) h dX10_copy_112 kc_iconst_2 ?_
                obtain ⟨v11, s12, cv11, hf⟩ := ob2_s hf
                refine k_callV0 (pc := 113) h cv_RX10_120 (c_X10_meets (2 : Int32) s0 v11 s12 cv11) rfl rfl rfl (st1 := [.int v11]) rfl ⟨rfl, rfl⟩ (rk hR (Nat.le_of_ble_eq_true rfl) (Nat.le_of_ble_eq_true rfl)) (Nat.le_of_ble_eq_true rfl) dX10_copy_113 ?_
                obtain ⟨rfl, rfl⟩ := so2 hf
                exact hret 116 _ dX10_copy_116 trivial
              · have hf := it_n hc hf
                refine k_iload (pc := 71) h dX10_copy_71 5 rfl ?_
                refine k_if_lt (pc := 73) (tgt := 111) h dX10_copy_73 rfl (fun hc => ?_) (fun hc => ?_)
                · have hf := it_p hc hf
                  refine k_aload_n (pc := 111) h dX10_copy_111 rfl 0 rfl ?_
                  refine k_iconst (pc := 112) h dX10_copy_112 kc_iconst_2 ?_
                  obtain ⟨v13, s14, cv13, hf⟩ := ob2_s hf
                  refine k_callV0 (pc := 113) h cv_RX10_120 (c_X10_meets (2 : Int32) s0 v13 s14 cv13) rfl rfl rfl (st1 := [.int v13]) rfl ⟨rfl, rfl⟩ (rk hR (Nat.le_of_ble_eq_true rfl) (Nat.le_of_ble_eq_true rfl)) (Nat.le_of_ble_eq_true rfl) dX10_copy_113 ?_
                  obtain ⟨rfl, rfl⟩ := so2 hf
                  exact hret 116 _ dX10_copy_116 trivial
                · have hf := it_n hc hf
                  refine k_iload_n (pc := 76) h dX10_copy_76 rfl 2 rfl ?_
                  refine k_i2l (pc := 77) h dX10_copy_77 ?_
                  refine k_iload (pc := 78) h dX10_copy_78 5 rfl ?_
                  refine k_i2l (pc := 80) h dX10_copy_80 ?_
                  refine k_ladd (pc := 81) h dX10_copy_81 ?_
                  refine k_aload_n (pc := 82) h dX10_copy_82 rfl 0 rfl ?_
                  refine k_getR (pc := 83) h fl_RX10_80 rfl rfl dX10_copy_83 ?_
                  refine k_iload_n (pc := 86) h dX10_copy_86 rfl 1 rfl ?_
                  obtain ⟨g15, hf⟩ := gu_s hf
                  refine k_iald (pc := 87) (n := 4) h rfl g15 dX10_copy_87 ?_
                  refine k_i2l (pc := 88) h dX10_copy_88 ?_
                  refine k_lcmp (pc := 89) h dX10_copy_89 ?_
                  refine k_if_gt (pc := 90) (tgt := 111) h dX10_copy_90 rfl (fun hc => ?_) (fun hc => ?_)
                  · have hf := it_p hc hf
                    refine k_aload_n (pc := 111) h dX10_copy_111 rfl 0 rfl ?_
                    refine k_iconst (pc := 112) h dX10_copy_112 kc_iconst_2 ?_
                    obtain ⟨v16, s17, cv16, hf⟩ := ob2_s hf
                    refine k_callV0 (pc := 113) h cv_RX10_120 (c_X10_meets (2 : Int32) s0 v16 s17 cv16) rfl rfl rfl (st1 := [.int v16]) rfl ⟨rfl, rfl⟩ (rk hR (Nat.le_of_ble_eq_true rfl) (Nat.le_of_ble_eq_true rfl)) (Nat.le_of_ble_eq_true rfl) dX10_copy_113 ?_
                    obtain ⟨rfl, rfl⟩ := so2 hf
                    exact hret 116 _ dX10_copy_116 trivial
                  · have hf := it_n hc hf
                    refine k_iload (pc := 93) h dX10_copy_93 4 rfl ?_
                    refine k_i2l (pc := 95) h dX10_copy_95 ?_
                    refine k_iload (pc := 96) h dX10_copy_96 5 rfl ?_
                    refine k_i2l (pc := 98) h dX10_copy_98 ?_
                    refine k_ladd (pc := 99) h dX10_copy_99 ?_
                    refine k_aload_n (pc := 100) h dX10_copy_100 rfl 0 rfl ?_
                    refine k_getR (pc := 101) h fl_RX10_80 rfl rfl dX10_copy_101 ?_
                    refine k_iload_n (pc := 104) h dX10_copy_104 rfl 3 rfl ?_
                    obtain ⟨g18, hf⟩ := gu_s hf
                    refine k_iald (pc := 105) (n := 4) h rfl g18 dX10_copy_105 ?_
                    refine k_i2l (pc := 106) h dX10_copy_106 ?_
                    refine k_lcmp (pc := 107) h dX10_copy_107 ?_
                    refine k_if_le (pc := 108) (tgt := 117) h dX10_copy_108 rfl (fun hc => ?_) (fun hc => ?_)
                    · have hf := it_p hc hf
                      refine k_iconst (pc := 117) h dX10_copy_117 kc_iconst_0 ?_
                      refine k_istore (pc := 118) h dX10_copy_118 (nk hL (by decide)) (lv' := [(0, .ref 0), (1, .int p1), (2, .int p2), (3, .int p3), (4, .int p4), (5, .int p5), (6, .int (0 : Int32))]) rfl ?_
                      obtain ⟨s21, hl, hf⟩ := ob_s hf
                      refine k_drop (lv' := [(0, .ref 0), (1, .int p1), (2, .int p2), (3, .int p3), (4, .int p4), (5, .int p5), (6, .int (0 : Int32))]) [0, 1, 2, 3, 4, 5, 6] rfl ?_
                      refine lp_s (P := (fun q : Int32 × sh_S => sh_K G shM 120 [(0, .ref 0), (1, .int p1), (2, .int p2), (3, .int p3), (4, .int p4), (5, .int p5), (6, .int q.1)] [] q.2)) (Q := (fun q : sh_S => sh_K G shM 154 [(0, .ref 0), (3, .int p3), (4, .int p4), (5, .int p5)] [] q)) (s := ((0 : Int32), s0)) ?_ hl ?_
                      · clear hf hl
                        intro q rr hf kc120
                        obtain ⟨v19, s20⟩ := q
                        have hf : f_X10_copy_L120 p1 p2 p5 v19 s20 = some rr := hf
                        unfold f_X10_copy_L120 at hf
                        refine k_iload (pc := 120) h dX10_copy_120 6 rfl ?_
                        refine k_iload (pc := 122) h dX10_copy_122 5 rfl ?_
                        refine k_icmp_ge (pc := 124) (tgt := 154) h dX10_copy_124 rfl (fun hc => ?_) (fun hc => ?_)
                        · have hf := it_p hc hf
                          obtain rfl := so1 hf
                          exact k_drop [0, 3, 4, 5] rfl kc120
                        · have hf := it_n hc hf
                          refine k_aload_n (pc := 127) h dX10_copy_127 rfl 0 rfl ?_
                          refine k_getR (pc := 128) h fl_RX10_86 rfl rfl dX10_copy_128 ?_
                          refine k_iload (pc := 131) h dX10_copy_131 6 rfl ?_
                          refine k_aload_n (pc := 133) h dX10_copy_133 rfl 0 rfl ?_
                          refine k_getR (pc := 134) h fl_RX10_83 rfl rfl dX10_copy_134 ?_
                          refine k_bipush (pc := 137) h dX10_copy_137 kc_bipush_60 ?_
                          refine k_iload_n (pc := 139) h dX10_copy_139 rfl 1 rfl ?_
                          refine k_imul (pc := 140) h dX10_copy_140 ?_
                          refine k_iload_n (pc := 141) h dX10_copy_141 rfl 2 rfl ?_
                          refine k_iadd (pc := 142) h dX10_copy_142 ?_
                          refine k_iload (pc := 143) h dX10_copy_143 6 rfl ?_
                          refine k_iadd (pc := 145) h dX10_copy_145 ?_
                          obtain ⟨g22, hf⟩ := gu_s hf
                          refine k_iald (pc := 146) (n := 240) h rfl g22 dX10_copy_146 ?_
                          obtain ⟨g23, hf⟩ := gu_s hf
                          obtain ⟨s24, es24, hf⟩ := lb_s hf
                          refine k_iast (pc := 147) (n := 60) h rfl g23 dX10_copy_147 ?_
                          refine k_heap es24 ?_
                          obtain ⟨v25, ev25, hf⟩ := lb_s hf
                          refine k_iinc (pc := 148) h dX10_copy_148 6 rfl ((congrArg (_ + ·) kc_iconst_1).trans ev25.symm) (nk hL (by decide)) (lv' := [(0, .ref 0), (1, .int p1), (2, .int p2), (3, .int p3), (4, .int p4), (5, .int p5), (6, .int v25)]) rfl ?_
                          refine k_goto (pc := 151) (tgt := 120) h dX10_copy_151 rfl ?_
                          obtain rfl := so1 hf
                          exact k_drop [0, 1, 2, 3, 4, 5, 6] rfl kc120
                      · refine k_iconst (pc := 154) h dX10_copy_154 kc_iconst_0 ?_
                        refine k_istore (pc := 155) h dX10_copy_155 (nk hL (by decide)) (lv' := [(0, .ref 0), (3, .int p3), (4, .int p4), (5, .int p5), (6, .int (0 : Int32))]) rfl ?_
                        obtain ⟨s28, hl, hf⟩ := ob_s hf
                        refine k_drop (lv' := [(0, .ref 0), (3, .int p3), (4, .int p4), (5, .int p5), (6, .int (0 : Int32))]) [0, 1, 2, 3, 4] rfl ?_
                        refine lp_s (P := (fun q : Int32 × sh_S => sh_K G shM 157 [(0, .ref 0), (3, .int p3), (4, .int p4), (5, .int p5), (6, .int q.1)] [] q.2)) (Q := (fun q : sh_S => sh_K G shM 192 [] [] q)) (s := ((0 : Int32), s21)) ?_ hl ?_
                        · clear hf hl
                          intro q rr hf kc157
                          obtain ⟨v26, s27⟩ := q
                          have hf : f_X10_copy_L157 p3 p4 p5 v26 s27 = some rr := hf
                          unfold f_X10_copy_L157 at hf
                          refine k_iload (pc := 157) h dX10_copy_157 4 rfl ?_
                          refine k_iload (pc := 159) h dX10_copy_159 3 rfl ?_
                          refine k_icmp_ge (pc := 161) (tgt := 192) h dX10_copy_161 rfl (fun hc => ?_) (fun hc => ?_)
                          · have hf := it_p hc hf
                            obtain rfl := so1 hf
                            exact k_drop [] rfl kc157
                          · have hf := it_n hc hf
                            refine k_aload_n (pc := 164) h dX10_copy_164 rfl 0 rfl ?_
                            refine k_getR (pc := 165) h fl_RX10_83 rfl rfl dX10_copy_165 ?_
                            refine k_bipush (pc := 168) h dX10_copy_168 kc_bipush_60 ?_
                            refine k_iload_n (pc := 170) h dX10_copy_170 rfl 1 rfl ?_
                            refine k_imul (pc := 171) h dX10_copy_171 ?_
                            refine k_iload (pc := 172) h dX10_copy_172 2 rfl ?_
                            refine k_iadd (pc := 174) h dX10_copy_174 ?_
                            refine k_iload (pc := 175) h dX10_copy_175 4 rfl ?_
                            refine k_iadd (pc := 177) h dX10_copy_177 ?_
                            refine k_aload_n (pc := 178) h dX10_copy_178 rfl 0 rfl ?_
                            refine k_getR (pc := 179) h fl_RX10_86 rfl rfl dX10_copy_179 ?_
                            refine k_iload (pc := 182) h dX10_copy_182 4 rfl ?_
                            obtain ⟨g29, hf⟩ := gu_s hf
                            refine k_iald (pc := 184) (n := 60) h rfl g29 dX10_copy_184 ?_
                            obtain ⟨g30, hf⟩ := gu_s hf
                            obtain ⟨s31, es31, hf⟩ := lb_s hf
                            refine k_iast (pc := 185) (n := 240) h rfl g30 dX10_copy_185 ?_
                            refine k_heap es31 ?_
                            obtain ⟨v32, ev32, hf⟩ := lb_s hf
                            refine k_iinc (pc := 186) h dX10_copy_186 4 rfl ((congrArg (_ + ·) kc_iconst_1).trans ev32.symm) (nk hL (by decide)) (lv' := [(0, .ref 0), (3, .int p3), (4, .int p4), (5, .int p5), (6, .int v32)]) rfl ?_
                            refine k_goto (pc := 189) (tgt := 157) h dX10_copy_189 rfl ?_
                            obtain rfl := so1 hf
                            exact k_drop [0, 1, 2, 3, 4] rfl kc157
                        · refine k_iconst (pc := 192) h dX10_copy_192 kc_iconst_1 ?_
                          obtain ⟨rfl, rfl⟩ := so2 hf
                          exact hret 193 _ dX10_copy_193 trivial
                    · have hf := it_n hc hf
                      refine k_aload_n (pc := 111) h dX10_copy_111 rfl 0 rfl ?_
                      refine k_iconst (pc := 112) h dX10_copy_112 kc_iconst_2 ?_
                      obtain ⟨v33, s34, cv33, hf⟩ := ob2_s hf
                      refine k_callV0 (pc := 113) h cv_RX10_120 (c_X10_meets (2 : Int32) s0 v33 s34 cv33) rfl rfl rfl (st1 := [.int v33]) rfl ⟨rfl, rfl⟩ (rk hR (Nat.le_of_ble_eq_true rfl) (Nat.le_of_ble_eq_true rfl)) (Nat.le_of_ble_eq_true rfl) dX10_copy_113 ?_
                      obtain ⟨rfl, rfl⟩ := so2 hf
                      exact hret 116 _ dX10_copy_116 trivial
          · have hf := it_n hc hf
            refine k_aload_n (pc := 56) h dX10_copy_56 rfl 0 rfl ?_
            refine k_iconst (pc := 57) h dX10_copy_57 kc_iconst_4 ?_
            obtain ⟨v35, s36, cv35, hf⟩ := ob2_s hf
            refine k_callV0 (pc := 58) h cv_RX10_120 (c_X10_meets (4 : Int32) s0 v35 s36 cv35) rfl rfl rfl (st1 := [.int v35]) rfl ⟨rfl, rfl⟩ (rk hR (Nat.le_of_ble_eq_true rfl) (Nat.le_of_ble_eq_true rfl)) (Nat.le_of_ble_eq_true rfl) dX10_copy_58 ?_
            obtain ⟨rfl, rfl⟩ := so2 hf
            exact hret 61 _ dX10_copy_61 trivial
        · have hf := it_p hc hf
          refine k_aload_n (pc := 35) h dX10_copy_35 rfl 0 rfl ?_
          refine k_iconst (pc := 36) h dX10_copy_36 kc_iconst_1 ?_
          obtain ⟨v37, s38, cv37, hf⟩ := ob2_s hf
          refine k_callV0 (pc := 37) h cv_RX10_120 (c_X10_meets (1 : Int32) s0 v37 s38 cv37) rfl rfl rfl (st1 := [.int v37]) rfl ⟨rfl, rfl⟩ (rk hR (Nat.le_of_ble_eq_true rfl) (Nat.le_of_ble_eq_true rfl)) (Nat.le_of_ble_eq_true rfl) dX10_copy_37 ?_
          obtain ⟨rfl, rfl⟩ := so2 hf
          exact hret 40 _ dX10_copy_40 trivial
    · have hf := it_p hc hf
      refine k_bipush (pc := 14) h dX10_copy_14 kc_bipush_m2 ?_
      obtain ⟨rfl, rfl⟩ := so2 hf
      exact hret 16 _ dX10_copy_16 trivial
theorem dX10_write_0 : decode cX10_write 0 = .ok (.iload_n 1, 1) := by decide +kernel
theorem dX10_write_1 : decode cX10_write 1 = .ok (.invokestatic 117, 3) := by decide +kernel
theorem dX10_write_4 : decode cX10_write 4 = .ok (.ifCond .ne 6, 3) := by decide +kernel
theorem dX10_write_7 : decode cX10_write 7 = .ok (.bipush (-2), 2) := by decide +kernel
theorem dX10_write_9 : decode cX10_write 9 = .ok (.ireturn, 1) := by decide +kernel
theorem dX10_write_10 : decode cX10_write 10 = .ok (.aload_n 0, 1) := by decide +kernel
theorem dX10_write_11 : decode cX10_write 11 = .ok (.getfield 73, 3) := by decide +kernel
theorem dX10_write_14 : decode cX10_write 14 = .ok (.iload_n 1, 1) := by decide +kernel
theorem dX10_write_15 : decode cX10_write 15 = .ok (.baload, 1) := by decide +kernel
theorem dX10_write_16 : decode cX10_write 16 = .ok (.ifCond .ne 9, 3) := by decide +kernel
theorem dX10_write_19 : decode cX10_write 19 = .ok (.aload_n 0, 1) := by decide +kernel
theorem dX10_write_20 : decode cX10_write 20 = .ok (.iconst 1, 1) := by decide +kernel
theorem dX10_write_21 : decode cX10_write 21 = .ok (.invokevirtual 120, 3) := by decide +kernel
theorem dX10_write_24 : decode cX10_write 24 = .ok (.ireturn, 1) := by decide +kernel
theorem dX10_write_25 : decode cX10_write 25 = .ok (.aload_n 0, 1) := by decide +kernel
theorem dX10_write_26 : decode cX10_write 26 = .ok (.invokevirtual 249, 3) := by decide +kernel
theorem dX10_write_29 : decode cX10_write 29 = .ok (.iconst 0, 1) := by decide +kernel
theorem dX10_write_30 : decode cX10_write 30 = .ok (.istore_n 2, 1) := by decide +kernel
theorem dX10_write_31 : decode cX10_write 31 = .ok (.iload_n 2, 1) := by decide +kernel
theorem dX10_write_32 : decode cX10_write 32 = .ok (.aload_n 0, 1) := by decide +kernel
theorem dX10_write_33 : decode cX10_write 33 = .ok (.getfield 80, 3) := by decide +kernel
theorem dX10_write_36 : decode cX10_write 36 = .ok (.iload_n 1, 1) := by decide +kernel
theorem dX10_write_37 : decode cX10_write 37 = .ok (.iaload, 1) := by decide +kernel
theorem dX10_write_38 : decode cX10_write 38 = .ok (.if_icmp .ge 29, 3) := by decide +kernel
theorem dX10_write_41 : decode cX10_write 41 = .ok (.iload_n 2, 1) := by decide +kernel
theorem dX10_write_42 : decode cX10_write 42 = .ok (.aload_n 0, 1) := by decide +kernel
theorem dX10_write_43 : decode cX10_write 43 = .ok (.getfield 224, 3) := by decide +kernel
theorem dX10_write_46 : decode cX10_write 46 = .ok (.if_icmp .ge 21, 3) := by decide +kernel
theorem dX10_write_49 : decode cX10_write 49 = .ok (.aload_n 0, 1) := by decide +kernel
theorem dX10_write_50 : decode cX10_write 50 = .ok (.iload_n 1, 1) := by decide +kernel
theorem dX10_write_51 : decode cX10_write 51 = .ok (.iload_n 2, 1) := by decide +kernel
theorem dX10_write_52 : decode cX10_write 52 = .ok (.aload_n 0, 1) := by decide +kernel
theorem dX10_write_53 : decode cX10_write 53 = .ok (.getfield 37, 3) := by decide +kernel
theorem dX10_write_56 : decode cX10_write 56 = .ok (.iload_n 2, 1) := by decide +kernel
theorem dX10_write_57 : decode cX10_write 57 = .ok (.iaload, 1) := by decide +kernel
theorem dX10_write_58 : decode cX10_write 58 = .ok (.invokevirtual 337, 3) := by decide +kernel
theorem dX10_write_61 : decode cX10_write 61 = .ok (.iinc 2 1, 3) := by decide +kernel
theorem dX10_write_64 : decode cX10_write 64 = .ok (.goto (-33), 3) := by decide +kernel
theorem dX10_write_67 : decode cX10_write 67 = .ok (.iload_n 2, 1) := by decide +kernel
theorem dX10_write_68 : decode cX10_write 68 = .ok (.ireturn, 1) := by decide +kernel
def f_X10_write_L31 (p1 : Int32) (v4 : Int32) (s5 : sh_S) : Option ((Int32 × sh_S) ⊕ (Int32 × sh_S)) := gu (inb p1 4) ((if (s5 24 (ix p1)) ≤ v4 then some (.inr (v4, s5)) else (if (s5 0 12) ≤ v4 then some (.inr (v4, s5)) else gu (inb v4 1300) (ob (f_X10_keep p1 v4 (s5 10 (ix v4)) s5) (fun s10 => lb (v4 + (1 : Int32)) (fun v11 => some (.inl (v11, s10))))))))
def f_X10_write (p1 : Int32) (s0 : sh_S) : Option (Int32 × sh_S) := ob (f_X10_isSheet p1) (fun v1 => (if v1 = 0 then some ((-2 : Int32), s0) else gu (inb p1 4) ((if (s0 22 (ix p1)) = 0 then ob2 (f_X10_meets (1 : Int32) s0) (fun v12 s13 => some (v12, s13)) else ob (f_X10_errsAll  s0) (fun s3 => ob2 (lp (fun q => f_X10_write_L31 p1 q.1 q.2) FU ((0 : Int32), s3)) (fun v6 s7 => some (v6, s7)))))))
set_option maxRecDepth 100000 in
set_option maxHeartbeats 4000000 in
theorem c_X10_write (p1 : Int32) (s0 : sh_S) (r : Int32) (s9x : sh_S) (hf : f_X10_write p1 s0 = some (r, s9x)) : Ctr yX10_write cX10_write 3 (some .int) ({ frames := 8, cells := 0, slots := 0, locals := 178 } : Room) shM [.ref 0, .int p1] s0 (some (.int r)) s9x := by
  refine Ctr.mk (ri := .ireturn) (by decide) (Nat.le_of_ble_eq_true rfl) (Rt_i r) ?_
  intro G h hL hR hret
  refine k_drop (lv' := [(0, .ref 0), (1, .int p1)]) [0, 1] rfl ?_
  unfold f_X10_write at hf
  refine k_iload_n (pc := 0) h dX10_write_0 rfl 1 rfl ?_
  obtain ⟨v1, cv1, hf⟩ := ob_s hf
  refine k_callSp (pc := 1) h cs_RX10_117 (c_X10_isSheet p1 _ v1 cv1) rfl rfl (st1 := [.int v1]) rfl ⟨rfl, rfl⟩ (rk hR (Nat.le_of_ble_eq_true rfl) (Nat.le_of_ble_eq_true rfl)) (Nat.le_of_ble_eq_true rfl) dX10_write_1 ?_
  refine k_if_ne (pc := 4) (tgt := 10) h dX10_write_4 rfl (fun hc => ?_) (fun hc => ?_)
  · have hf := it_n hc hf
    refine k_aload_n (pc := 10) h dX10_write_10 rfl 0 rfl ?_
    refine k_getR (pc := 11) h fl_RX10_73 rfl rfl dX10_write_11 ?_
    refine k_iload_n (pc := 14) h dX10_write_14 rfl 1 rfl ?_
    obtain ⟨g2, hf⟩ := gu_s hf
    refine k_zald (pc := 15) (n := 4) h rfl g2 dX10_write_15 ?_
    refine k_if_ne (pc := 16) (tgt := 25) h dX10_write_16 rfl (fun hc => ?_) (fun hc => ?_)
    · have hf := it_n hc hf
      refine k_aload_n (pc := 25) h dX10_write_25 rfl 0 rfl ?_
      obtain ⟨s3, cs3, hf⟩ := ob_s hf
      refine k_callV0 (pc := 26) h cv_RX10_249 (c_X10_errsAll  s0 s3 cs3) rfl rfl rfl (st1 := []) rfl ⟨rfl, rfl⟩ (rk hR (Nat.le_of_ble_eq_true rfl) (Nat.le_of_ble_eq_true rfl)) (Nat.le_of_ble_eq_true rfl) dX10_write_26 ?_
      refine k_iconst (pc := 29) h dX10_write_29 kc_iconst_0 ?_
      refine k_istore_n (pc := 30) h dX10_write_30 rfl (nk hL (by decide)) (lv' := [(0, .ref 0), (1, .int p1), (2, .int (0 : Int32))]) rfl ?_
      obtain ⟨v6, s7, hl, hf⟩ := ob2_s hf
      refine k_drop (lv' := [(0, .ref 0), (1, .int p1), (2, .int (0 : Int32))]) [0, 1, 2] rfl ?_
      refine lp_s (P := (fun q : Int32 × sh_S => sh_K G shM 31 [(0, .ref 0), (1, .int p1), (2, .int q.1)] [] q.2)) (Q := (fun q : Int32 × sh_S => sh_K G shM 67 [(2, .int q.1)] [] q.2)) (s := ((0 : Int32), s3)) ?_ hl ?_
      · clear hf hl
        intro q rr hf kc31
        obtain ⟨v4, s5⟩ := q
        have hf : f_X10_write_L31 p1 v4 s5 = some rr := hf
        unfold f_X10_write_L31 at hf
        refine k_iload_n (pc := 31) h dX10_write_31 rfl 2 rfl ?_
        refine k_aload_n (pc := 32) h dX10_write_32 rfl 0 rfl ?_
        refine k_getR (pc := 33) h fl_RX10_80 rfl rfl dX10_write_33 ?_
        refine k_iload_n (pc := 36) h dX10_write_36 rfl 1 rfl ?_
        obtain ⟨g8, hf⟩ := gu_s hf
        refine k_iald (pc := 37) (n := 4) h rfl g8 dX10_write_37 ?_
        refine k_icmp_ge (pc := 38) (tgt := 67) h dX10_write_38 rfl (fun hc => ?_) (fun hc => ?_)
        · have hf := it_p hc hf
          obtain rfl := so1 hf
          exact k_drop [2] rfl kc31
        · have hf := it_n hc hf
          refine k_iload_n (pc := 41) h dX10_write_41 rfl 2 rfl ?_
          refine k_aload_n (pc := 42) h dX10_write_42 rfl 0 rfl ?_
          refine k_getI (pc := 43) h fl_RX10_224 rfl rfl dX10_write_43 ?_
          refine k_icmp_ge (pc := 46) (tgt := 67) h dX10_write_46 rfl (fun hc => ?_) (fun hc => ?_)
          · have hf := it_p hc hf
            obtain rfl := so1 hf
            exact k_drop [2] rfl kc31
          · have hf := it_n hc hf
            refine k_aload_n (pc := 49) h dX10_write_49 rfl 0 rfl ?_
            refine k_iload_n (pc := 50) h dX10_write_50 rfl 1 rfl ?_
            refine k_iload_n (pc := 51) h dX10_write_51 rfl 2 rfl ?_
            refine k_aload_n (pc := 52) h dX10_write_52 rfl 0 rfl ?_
            refine k_getR (pc := 53) h fl_RX10_37 rfl rfl dX10_write_53 ?_
            refine k_iload_n (pc := 56) h dX10_write_56 rfl 2 rfl ?_
            obtain ⟨g9, hf⟩ := gu_s hf
            refine k_iald (pc := 57) (n := 1300) h rfl g9 dX10_write_57 ?_
            obtain ⟨s10, cs10, hf⟩ := ob_s hf
            refine k_callV0 (pc := 58) h cv_RX10_337 (c_X10_keep p1 v4 (s5 10 (ix v4)) s5 s10 cs10) rfl rfl rfl (st1 := []) rfl ⟨rfl, rfl⟩ (rk hR (Nat.le_of_ble_eq_true rfl) (Nat.le_of_ble_eq_true rfl)) (Nat.le_of_ble_eq_true rfl) dX10_write_58 ?_
            obtain ⟨v11, ev11, hf⟩ := lb_s hf
            refine k_iinc (pc := 61) h dX10_write_61 2 rfl ((congrArg (_ + ·) kc_iconst_1).trans ev11.symm) (nk hL (by decide)) (lv' := [(0, .ref 0), (1, .int p1), (2, .int v11)]) rfl ?_
            refine k_goto (pc := 64) (tgt := 31) h dX10_write_64 rfl ?_
            obtain rfl := so1 hf
            exact k_drop [0, 1, 2] rfl kc31
      · refine k_iload_n (pc := 67) h dX10_write_67 rfl 0 rfl ?_
        obtain ⟨rfl, rfl⟩ := so2 hf
        exact hret 68 _ dX10_write_68 trivial
    · have hf := it_p hc hf
      refine k_aload_n (pc := 19) h dX10_write_19 rfl 0 rfl ?_
      refine k_iconst (pc := 20) h dX10_write_20 kc_iconst_1 ?_
      obtain ⟨v12, s13, cv12, hf⟩ := ob2_s hf
      refine k_callV0 (pc := 21) h cv_RX10_120 (c_X10_meets (1 : Int32) s0 v12 s13 cv12) rfl rfl rfl (st1 := [.int v12]) rfl ⟨rfl, rfl⟩ (rk hR (Nat.le_of_ble_eq_true rfl) (Nat.le_of_ble_eq_true rfl)) (Nat.le_of_ble_eq_true rfl) dX10_write_21 ?_
      obtain ⟨rfl, rfl⟩ := so2 hf
      exact hret 24 _ dX10_write_24 trivial
  · have hf := it_p hc hf
    refine k_bipush (pc := 7) h dX10_write_7 kc_bipush_m2 ?_
    obtain ⟨rfl, rfl⟩ := so2 hf
    exact hret 9 _ dX10_write_9 trivial
theorem dX10_manyOf_0 : decode cX10_manyOf 0 = .ok (.aload_n 0, 1) := by decide +kernel
theorem dX10_manyOf_1 : decode cX10_manyOf 1 = .ok (.invokevirtual 249, 3) := by decide +kernel
theorem dX10_manyOf_4 : decode cX10_manyOf 4 = .ok (.iconst 0, 1) := by decide +kernel
theorem dX10_manyOf_5 : decode cX10_manyOf 5 = .ok (.istore_n 2, 1) := by decide +kernel
theorem dX10_manyOf_6 : decode cX10_manyOf 6 = .ok (.iconst 0, 1) := by decide +kernel
theorem dX10_manyOf_7 : decode cX10_manyOf 7 = .ok (.istore_n 3, 1) := by decide +kernel
theorem dX10_manyOf_8 : decode cX10_manyOf 8 = .ok (.iload_n 3, 1) := by decide +kernel
theorem dX10_manyOf_9 : decode cX10_manyOf 9 = .ok (.aload_n 0, 1) := by decide +kernel
theorem dX10_manyOf_10 : decode cX10_manyOf 10 = .ok (.getfield 224, 3) := by decide +kernel
theorem dX10_manyOf_13 : decode cX10_manyOf 13 = .ok (.if_icmp .ge 27, 3) := by decide +kernel
theorem dX10_manyOf_16 : decode cX10_manyOf 16 = .ok (.iload_n 2, 1) := by decide +kernel
theorem dX10_manyOf_17 : decode cX10_manyOf 17 = .ok (.aload_n 0, 1) := by decide +kernel
theorem dX10_manyOf_18 : decode cX10_manyOf 18 = .ok (.getfield 40, 3) := by decide +kernel
theorem dX10_manyOf_21 : decode cX10_manyOf 21 = .ok (.iload_n 3, 1) := by decide +kernel
theorem dX10_manyOf_22 : decode cX10_manyOf 22 = .ok (.iaload, 1) := by decide +kernel
theorem dX10_manyOf_23 : decode cX10_manyOf 23 = .ok (.iload_n 1, 1) := by decide +kernel
theorem dX10_manyOf_24 : decode cX10_manyOf 24 = .ok (.if_icmp .ne 7, 3) := by decide +kernel
theorem dX10_manyOf_27 : decode cX10_manyOf 27 = .ok (.iconst 1, 1) := by decide +kernel
theorem dX10_manyOf_28 : decode cX10_manyOf 28 = .ok (.goto 4, 3) := by decide +kernel
theorem dX10_manyOf_31 : decode cX10_manyOf 31 = .ok (.iconst 0, 1) := by decide +kernel
theorem dX10_manyOf_32 : decode cX10_manyOf 32 = .ok (.iadd, 1) := by decide +kernel
theorem dX10_manyOf_33 : decode cX10_manyOf 33 = .ok (.istore_n 2, 1) := by decide +kernel
theorem dX10_manyOf_34 : decode cX10_manyOf 34 = .ok (.iinc 3 1, 3) := by decide +kernel
theorem dX10_manyOf_37 : decode cX10_manyOf 37 = .ok (.goto (-29), 3) := by decide +kernel
theorem dX10_manyOf_40 : decode cX10_manyOf 40 = .ok (.iload_n 2, 1) := by decide +kernel
theorem dX10_manyOf_41 : decode cX10_manyOf 41 = .ok (.ireturn, 1) := by decide +kernel
def f_X10_manyOf_L8 (p1 : Int32) (s1 : sh_S) (v2 : Int32) (v3 : Int32) : Option ((Int32 × Int32) ⊕ (Int32)) := (if (s1 0 12) ≤ v3 then some (.inr v2) else gu (inb v3 1300) (ob (if (s1 11 (ix v3)) = p1 then some (1 : Int32) else some (0 : Int32)) (fun v6 => lb ((v2 + v6)) (fun v7 => lb (v3 + (1 : Int32)) (fun v8 => some (.inl (v7, v8)))))))
def f_X10_manyOf (p1 : Int32) (s0 : sh_S) : Option (Int32 × sh_S) := ob (f_X10_errsAll  s0) (fun s1 => ob (lp (fun q => f_X10_manyOf_L8 p1 s1 q.1 q.2) FU ((0 : Int32), (0 : Int32))) (fun v4 => some (v4, s1)))
set_option maxRecDepth 100000 in
set_option maxHeartbeats 4000000 in
theorem c_X10_manyOf (p1 : Int32) (s0 : sh_S) (r : Int32) (s9x : sh_S) (hf : f_X10_manyOf p1 s0 = some (r, s9x)) : Ctr yX10_manyOf cX10_manyOf 4 (some .int) ({ frames := 8, cells := 0, slots := 0, locals := 178 } : Room) shM [.ref 0, .int p1] s0 (some (.int r)) s9x := by
  refine Ctr.mk (ri := .ireturn) (by decide) (Nat.le_of_ble_eq_true rfl) (Rt_i r) ?_
  intro G h hL hR hret
  refine k_drop (lv' := [(0, .ref 0), (1, .int p1)]) [0, 1] rfl ?_
  unfold f_X10_manyOf at hf
  refine k_aload_n (pc := 0) h dX10_manyOf_0 rfl 0 rfl ?_
  obtain ⟨s1, cs1, hf⟩ := ob_s hf
  refine k_callV0 (pc := 1) h cv_RX10_249 (c_X10_errsAll  s0 s1 cs1) rfl rfl rfl (st1 := []) rfl ⟨rfl, rfl⟩ (rk hR (Nat.le_of_ble_eq_true rfl) (Nat.le_of_ble_eq_true rfl)) (Nat.le_of_ble_eq_true rfl) dX10_manyOf_1 ?_
  refine k_iconst (pc := 4) h dX10_manyOf_4 kc_iconst_0 ?_
  refine k_istore_n (pc := 5) h dX10_manyOf_5 rfl (nk hL (by decide)) (lv' := [(0, .ref 0), (1, .int p1), (2, .int (0 : Int32))]) rfl ?_
  refine k_iconst (pc := 6) h dX10_manyOf_6 kc_iconst_0 ?_
  refine k_istore_n (pc := 7) h dX10_manyOf_7 rfl (nk hL (by decide)) (lv' := [(0, .ref 0), (1, .int p1), (2, .int (0 : Int32)), (3, .int (0 : Int32))]) rfl ?_
  obtain ⟨v4, hl, hf⟩ := ob_s hf
  refine k_drop (lv' := [(0, .ref 0), (1, .int p1), (2, .int (0 : Int32)), (3, .int (0 : Int32))]) [0, 1, 2, 3] rfl ?_
  refine lp_s (P := (fun q : Int32 × Int32 => sh_K G shM 8 [(0, .ref 0), (1, .int p1), (2, .int q.1), (3, .int q.2)] [] s1)) (Q := (fun q : Int32 => sh_K G shM 40 [(2, .int q)] [] s1)) (s := ((0 : Int32), (0 : Int32))) ?_ hl ?_
  · clear hf hl
    intro q rr hf kc8
    obtain ⟨v2, v3⟩ := q
    have hf : f_X10_manyOf_L8 p1 s1 v2 v3 = some rr := hf
    unfold f_X10_manyOf_L8 at hf
    refine k_iload_n (pc := 8) h dX10_manyOf_8 rfl 3 rfl ?_
    refine k_aload_n (pc := 9) h dX10_manyOf_9 rfl 0 rfl ?_
    refine k_getI (pc := 10) h fl_RX10_224 rfl rfl dX10_manyOf_10 ?_
    refine k_icmp_ge (pc := 13) (tgt := 40) h dX10_manyOf_13 rfl (fun hc => ?_) (fun hc => ?_)
    · have hf := it_p hc hf
      obtain rfl := so1 hf
      exact k_drop [2] rfl kc8
    · have hf := it_n hc hf
      refine k_iload_n (pc := 16) h dX10_manyOf_16 rfl 2 rfl ?_
      refine k_aload_n (pc := 17) h dX10_manyOf_17 rfl 0 rfl ?_
      refine k_getR (pc := 18) h fl_RX10_40 rfl rfl dX10_manyOf_18 ?_
      refine k_iload_n (pc := 21) h dX10_manyOf_21 rfl 3 rfl ?_
      obtain ⟨g5, hf⟩ := gu_s hf
      refine k_iald (pc := 22) (n := 1300) h rfl g5 dX10_manyOf_22 ?_
      refine k_iload_n (pc := 23) h dX10_manyOf_23 rfl 1 rfl ?_
      obtain ⟨v6, hj, hf⟩ := ob_s hf
      have kj24 : sh_K G shM 32 [(0, .ref 0), (1, .int p1), (3, .int v3)] [.int v6, .int v2] s1 := by
        refine k_iadd (pc := 32) h dX10_manyOf_32 ?_
        obtain ⟨v7, ev7, hf⟩ := lb_s hf
        refine k_top ev7 ?_
        refine k_istore_n (pc := 33) h dX10_manyOf_33 rfl (nk hL (by decide)) (lv' := [(0, .ref 0), (1, .int p1), (2, .int v7), (3, .int v3)]) rfl ?_
        obtain ⟨v8, ev8, hf⟩ := lb_s hf
        refine k_iinc (pc := 34) h dX10_manyOf_34 3 rfl ((congrArg (_ + ·) kc_iconst_1).trans ev8.symm) (nk hL (by decide)) (lv' := [(0, .ref 0), (1, .int p1), (2, .int v7), (3, .int v8)]) rfl ?_
        refine k_goto (pc := 37) (tgt := 8) h dX10_manyOf_37 rfl ?_
        obtain rfl := so1 hf
        exact k_drop [0, 1, 2, 3] rfl kc8
      clear hf
      have hf := hj
      clear hj
      refine k_icmp_ne (pc := 24) (tgt := 31) h dX10_manyOf_24 rfl (fun hc => ?_) (fun hc => ?_)
      · have hf := it_n hc hf
        refine k_iconst (pc := 31) h dX10_manyOf_31 kc_iconst_0 ?_
        obtain rfl := so1 hf
        exact k_drop [0, 1, 3] rfl kj24
      · have hf := it_p hc hf
        refine k_iconst (pc := 27) h dX10_manyOf_27 kc_iconst_1 ?_
        refine k_goto (pc := 28) (tgt := 32) h dX10_manyOf_28 rfl ?_
        obtain rfl := so1 hf
        exact k_drop [0, 1, 3] rfl kj24
  · refine k_iload_n (pc := 40) h dX10_manyOf_40 rfl 0 rfl ?_
    obtain ⟨rfl, rfl⟩ := so2 hf
    exact hret 41 _ dX10_manyOf_41 trivial
theorem dX10_count_0 : decode cX10_count 0 = .ok (.iload_n 1, 1) := by decide +kernel
theorem dX10_count_1 : decode cX10_count 1 = .ok (.tableswitch 90 0 8 #[51, 56, 64, 72, 77, 77, 77, 77, 85], 51) := by decide +kernel
theorem dX10_count_52 : decode cX10_count 52 = .ok (.aload_n 0, 1) := by decide +kernel
theorem dX10_count_53 : decode cX10_count 53 = .ok (.getfield 101, 3) := by decide +kernel
theorem dX10_count_56 : decode cX10_count 56 = .ok (.ireturn, 1) := by decide +kernel
theorem dX10_count_57 : decode cX10_count 57 = .ok (.aload_n 0, 1) := by decide +kernel
theorem dX10_count_58 : decode cX10_count 58 = .ok (.invokevirtual 196, 3) := by decide +kernel
theorem dX10_count_61 : decode cX10_count 61 = .ok (.invokestatic 341, 3) := by decide +kernel
theorem dX10_count_64 : decode cX10_count 64 = .ok (.ireturn, 1) := by decide +kernel
theorem dX10_count_65 : decode cX10_count 65 = .ok (.aload_n 0, 1) := by decide +kernel
theorem dX10_count_66 : decode cX10_count 66 = .ok (.invokevirtual 209, 3) := by decide +kernel
theorem dX10_count_69 : decode cX10_count 69 = .ok (.invokestatic 341, 3) := by decide +kernel
theorem dX10_count_72 : decode cX10_count 72 = .ok (.ireturn, 1) := by decide +kernel
theorem dX10_count_73 : decode cX10_count 73 = .ok (.aload_n 0, 1) := by decide +kernel
theorem dX10_count_74 : decode cX10_count 74 = .ok (.invokevirtual 252, 3) := by decide +kernel
theorem dX10_count_77 : decode cX10_count 77 = .ok (.ireturn, 1) := by decide +kernel
theorem dX10_count_78 : decode cX10_count 78 = .ok (.aload_n 0, 1) := by decide +kernel
theorem dX10_count_79 : decode cX10_count 79 = .ok (.iload_n 1, 1) := by decide +kernel
theorem dX10_count_80 : decode cX10_count 80 = .ok (.iconst 4, 1) := by decide +kernel
theorem dX10_count_81 : decode cX10_count 81 = .ok (.isub, 1) := by decide +kernel
theorem dX10_count_82 : decode cX10_count 82 = .ok (.invokevirtual 344, 3) := by decide +kernel
theorem dX10_count_85 : decode cX10_count 85 = .ok (.ireturn, 1) := by decide +kernel
theorem dX10_count_86 : decode cX10_count 86 = .ok (.aload_n 0, 1) := by decide +kernel
theorem dX10_count_87 : decode cX10_count 87 = .ok (.getfield 331, 3) := by decide +kernel
theorem dX10_count_90 : decode cX10_count 90 = .ok (.ireturn, 1) := by decide +kernel
theorem dX10_count_91 : decode cX10_count 91 = .ok (.bipush (-2), 2) := by decide +kernel
theorem dX10_count_93 : decode cX10_count 93 = .ok (.ireturn, 1) := by decide +kernel
def f_X10_count (p1 : Int32) (s0 : sh_S) : Option (Int32 × sh_S) := (if p1 = (0 : Int32) then some ((s0 0 0), s0) else if p1 = (1 : Int32) then ob2 (f_X10_reachedOf  s0) (fun v1 s2 => ob (f_X10_many v1) (fun v3 => some (v3, s2))) else if p1 = (2 : Int32) then ob2 (f_X10_loansOf  s0) (fun v4 s5 => ob (f_X10_many v4) (fun v6 => some (v6, s5))) else if p1 = (3 : Int32) then ob2 (f_X10_errorsOf  s0) (fun v7 s8 => some (v7, s8)) else if p1 = (4 : Int32) then ob2 (f_X10_manyOf (p1 - (4 : Int32)) s0) (fun v9 s10 => some (v9, s10)) else if p1 = (5 : Int32) then ob2 (f_X10_manyOf (p1 - (4 : Int32)) s0) (fun v11 s12 => some (v11, s12)) else if p1 = (6 : Int32) then ob2 (f_X10_manyOf (p1 - (4 : Int32)) s0) (fun v13 s14 => some (v13, s14)) else if p1 = (7 : Int32) then ob2 (f_X10_manyOf (p1 - (4 : Int32)) s0) (fun v15 s16 => some (v15, s16)) else if p1 = (8 : Int32) then some ((s0 0 35), s0) else some ((-2 : Int32), s0))
set_option maxRecDepth 100000 in
set_option maxHeartbeats 4000000 in
theorem c_X10_count (p1 : Int32) (s0 : sh_S) (r : Int32) (s9x : sh_S) (hf : f_X10_count p1 s0 = some (r, s9x)) : Ctr yX10_count cX10_count 2 (some .int) ({ frames := 9, cells := 0, slots := 0, locals := 201 } : Room) shM [.ref 0, .int p1] s0 (some (.int r)) s9x := by
  refine Ctr.mk (ri := .ireturn) (by decide) (Nat.le_of_ble_eq_true rfl) (Rt_i r) ?_
  intro G h hL hR hret
  refine k_drop (lv' := [(0, .ref 0), (1, .int p1)]) [0, 1] rfl ?_
  unfold f_X10_count at hf
  refine k_iload_n (pc := 0) h dX10_count_0 rfl 1 rfl ?_
  by_cases hc0 : p1 = (0 : Int32)
  · have hf := it_p hc0 hf
    refine k_tabIn (pc := 1) (tgt := 52) h dX10_count_1 (by rw [hc0]; decide) (by rw [hc0]; decide) (by rw [hc0]; rfl) rfl ?_
    refine k_aload_n (pc := 52) h dX10_count_52 rfl 0 rfl ?_
    refine k_getI (pc := 53) h fl_RX10_101 rfl rfl dX10_count_53 ?_
    obtain ⟨rfl, rfl⟩ := so2 hf
    exact hret 56 _ dX10_count_56 trivial
  have hf := it_n hc0 hf
  by_cases hc1 : p1 = (1 : Int32)
  · have hf := it_p hc1 hf
    refine k_tabIn (pc := 1) (tgt := 57) h dX10_count_1 (by rw [hc1]; decide) (by rw [hc1]; decide) (by rw [hc1]; rfl) rfl ?_
    refine k_aload_n (pc := 57) h dX10_count_57 rfl 0 rfl ?_
    obtain ⟨v1, s2, cv1, hf⟩ := ob2_s hf
    refine k_callV0 (pc := 58) h cv_RX10_196 (c_X10_reachedOf  s0 v1 s2 cv1) rfl rfl rfl (st1 := [.int v1]) rfl ⟨rfl, rfl⟩ (rk hR (Nat.le_of_ble_eq_true rfl) (Nat.le_of_ble_eq_true rfl)) (Nat.le_of_ble_eq_true rfl) dX10_count_58 ?_
    obtain ⟨v3, cv3, hf⟩ := ob_s hf
    refine k_callSp (pc := 61) h cs_RX10_341 (c_X10_many v1 _ v3 cv3) rfl rfl (st1 := [.int v3]) rfl ⟨rfl, rfl⟩ (rk hR (Nat.le_of_ble_eq_true rfl) (Nat.le_of_ble_eq_true rfl)) (Nat.le_of_ble_eq_true rfl) dX10_count_61 ?_
    obtain ⟨rfl, rfl⟩ := so2 hf
    exact hret 64 _ dX10_count_64 trivial
  have hf := it_n hc1 hf
  by_cases hc2 : p1 = (2 : Int32)
  · have hf := it_p hc2 hf
    refine k_tabIn (pc := 1) (tgt := 65) h dX10_count_1 (by rw [hc2]; decide) (by rw [hc2]; decide) (by rw [hc2]; rfl) rfl ?_
    refine k_aload_n (pc := 65) h dX10_count_65 rfl 0 rfl ?_
    obtain ⟨v4, s5, cv4, hf⟩ := ob2_s hf
    refine k_callV0 (pc := 66) h cv_RX10_209 (c_X10_loansOf  s0 v4 s5 cv4) rfl rfl rfl (st1 := [.int v4]) rfl ⟨rfl, rfl⟩ (rk hR (Nat.le_of_ble_eq_true rfl) (Nat.le_of_ble_eq_true rfl)) (Nat.le_of_ble_eq_true rfl) dX10_count_66 ?_
    obtain ⟨v6, cv6, hf⟩ := ob_s hf
    refine k_callSp (pc := 69) h cs_RX10_341 (c_X10_many v4 _ v6 cv6) rfl rfl (st1 := [.int v6]) rfl ⟨rfl, rfl⟩ (rk hR (Nat.le_of_ble_eq_true rfl) (Nat.le_of_ble_eq_true rfl)) (Nat.le_of_ble_eq_true rfl) dX10_count_69 ?_
    obtain ⟨rfl, rfl⟩ := so2 hf
    exact hret 72 _ dX10_count_72 trivial
  have hf := it_n hc2 hf
  by_cases hc3 : p1 = (3 : Int32)
  · have hf := it_p hc3 hf
    refine k_tabIn (pc := 1) (tgt := 73) h dX10_count_1 (by rw [hc3]; decide) (by rw [hc3]; decide) (by rw [hc3]; rfl) rfl ?_
    refine k_aload_n (pc := 73) h dX10_count_73 rfl 0 rfl ?_
    obtain ⟨v7, s8, cv7, hf⟩ := ob2_s hf
    refine k_callV0 (pc := 74) h cv_RX10_252 (c_X10_errorsOf  s0 v7 s8 cv7) rfl rfl rfl (st1 := [.int v7]) rfl ⟨rfl, rfl⟩ (rk hR (Nat.le_of_ble_eq_true rfl) (Nat.le_of_ble_eq_true rfl)) (Nat.le_of_ble_eq_true rfl) dX10_count_74 ?_
    obtain ⟨rfl, rfl⟩ := so2 hf
    exact hret 77 _ dX10_count_77 trivial
  have hf := it_n hc3 hf
  by_cases hc4 : p1 = (4 : Int32)
  · have hf := it_p hc4 hf
    refine k_tabIn (pc := 1) (tgt := 78) h dX10_count_1 (by rw [hc4]; decide) (by rw [hc4]; decide) (by rw [hc4]; rfl) rfl ?_
    refine k_aload_n (pc := 78) h dX10_count_78 rfl 0 rfl ?_
    refine k_iload_n (pc := 79) h dX10_count_79 rfl 1 rfl ?_
    refine k_iconst (pc := 80) h dX10_count_80 kc_iconst_4 ?_
    refine k_isub (pc := 81) h dX10_count_81 ?_
    obtain ⟨v9, s10, cv9, hf⟩ := ob2_s hf
    refine k_callV0 (pc := 82) h cv_RX10_344 (c_X10_manyOf (p1 - (4 : Int32)) s0 v9 s10 cv9) rfl rfl rfl (st1 := [.int v9]) rfl ⟨rfl, rfl⟩ (rk hR (Nat.le_of_ble_eq_true rfl) (Nat.le_of_ble_eq_true rfl)) (Nat.le_of_ble_eq_true rfl) dX10_count_82 ?_
    obtain ⟨rfl, rfl⟩ := so2 hf
    exact hret 85 _ dX10_count_85 trivial
  have hf := it_n hc4 hf
  by_cases hc5 : p1 = (5 : Int32)
  · have hf := it_p hc5 hf
    refine k_tabIn (pc := 1) (tgt := 78) h dX10_count_1 (by rw [hc5]; decide) (by rw [hc5]; decide) (by rw [hc5]; rfl) rfl ?_
    refine k_aload_n (pc := 78) h dX10_count_78 rfl 0 rfl ?_
    refine k_iload_n (pc := 79) h dX10_count_79 rfl 1 rfl ?_
    refine k_iconst (pc := 80) h dX10_count_80 kc_iconst_4 ?_
    refine k_isub (pc := 81) h dX10_count_81 ?_
    obtain ⟨v11, s12, cv11, hf⟩ := ob2_s hf
    refine k_callV0 (pc := 82) h cv_RX10_344 (c_X10_manyOf (p1 - (4 : Int32)) s0 v11 s12 cv11) rfl rfl rfl (st1 := [.int v11]) rfl ⟨rfl, rfl⟩ (rk hR (Nat.le_of_ble_eq_true rfl) (Nat.le_of_ble_eq_true rfl)) (Nat.le_of_ble_eq_true rfl) dX10_count_82 ?_
    obtain ⟨rfl, rfl⟩ := so2 hf
    exact hret 85 _ dX10_count_85 trivial
  have hf := it_n hc5 hf
  by_cases hc6 : p1 = (6 : Int32)
  · have hf := it_p hc6 hf
    refine k_tabIn (pc := 1) (tgt := 78) h dX10_count_1 (by rw [hc6]; decide) (by rw [hc6]; decide) (by rw [hc6]; rfl) rfl ?_
    refine k_aload_n (pc := 78) h dX10_count_78 rfl 0 rfl ?_
    refine k_iload_n (pc := 79) h dX10_count_79 rfl 1 rfl ?_
    refine k_iconst (pc := 80) h dX10_count_80 kc_iconst_4 ?_
    refine k_isub (pc := 81) h dX10_count_81 ?_
    obtain ⟨v13, s14, cv13, hf⟩ := ob2_s hf
    refine k_callV0 (pc := 82) h cv_RX10_344 (c_X10_manyOf (p1 - (4 : Int32)) s0 v13 s14 cv13) rfl rfl rfl (st1 := [.int v13]) rfl ⟨rfl, rfl⟩ (rk hR (Nat.le_of_ble_eq_true rfl) (Nat.le_of_ble_eq_true rfl)) (Nat.le_of_ble_eq_true rfl) dX10_count_82 ?_
    obtain ⟨rfl, rfl⟩ := so2 hf
    exact hret 85 _ dX10_count_85 trivial
  have hf := it_n hc6 hf
  by_cases hc7 : p1 = (7 : Int32)
  · have hf := it_p hc7 hf
    refine k_tabIn (pc := 1) (tgt := 78) h dX10_count_1 (by rw [hc7]; decide) (by rw [hc7]; decide) (by rw [hc7]; rfl) rfl ?_
    refine k_aload_n (pc := 78) h dX10_count_78 rfl 0 rfl ?_
    refine k_iload_n (pc := 79) h dX10_count_79 rfl 1 rfl ?_
    refine k_iconst (pc := 80) h dX10_count_80 kc_iconst_4 ?_
    refine k_isub (pc := 81) h dX10_count_81 ?_
    obtain ⟨v15, s16, cv15, hf⟩ := ob2_s hf
    refine k_callV0 (pc := 82) h cv_RX10_344 (c_X10_manyOf (p1 - (4 : Int32)) s0 v15 s16 cv15) rfl rfl rfl (st1 := [.int v15]) rfl ⟨rfl, rfl⟩ (rk hR (Nat.le_of_ble_eq_true rfl) (Nat.le_of_ble_eq_true rfl)) (Nat.le_of_ble_eq_true rfl) dX10_count_82 ?_
    obtain ⟨rfl, rfl⟩ := so2 hf
    exact hret 85 _ dX10_count_85 trivial
  have hf := it_n hc7 hf
  by_cases hc8 : p1 = (8 : Int32)
  · have hf := it_p hc8 hf
    refine k_tabIn (pc := 1) (tgt := 86) h dX10_count_1 (by rw [hc8]; decide) (by rw [hc8]; decide) (by rw [hc8]; rfl) rfl ?_
    refine k_aload_n (pc := 86) h dX10_count_86 rfl 0 rfl ?_
    refine k_getI (pc := 87) h fl_RX10_331 rfl rfl dX10_count_87 ?_
    obtain ⟨rfl, rfl⟩ := so2 hf
    exact hret 90 _ dX10_count_90 trivial
  have hf := it_n hc8 hf
  refine k_tabOut (pc := 1) (tgt := 91) h dX10_count_1 (by have z0 := lv_neT hc0 (a := 0) rfl; have z1 := lv_neT hc1 (a := 1) rfl; have z2 := lv_neT hc2 (a := 2) rfl; have z3 := lv_neT hc3 (a := 3) rfl; have z4 := lv_neT hc4 (a := 4) rfl; have z5 := lv_neT hc5 (a := 5) rfl; have z6 := lv_neT hc6 (a := 6) rfl; have z7 := lv_neT hc7 (a := 7) rfl; have z8 := lv_neT hc8 (a := 8) rfl; omega) rfl ?_
  refine k_bipush (pc := 91) h dX10_count_91 kc_bipush_m2 ?_
  obtain ⟨rfl, rfl⟩ := so2 hf
  exact hret 93 _ dX10_count_93 trivial
theorem dX10_pointDigest_0 : decode cX10_pointDigest 0 = .ok (.lload_n 1, 1) := by decide +kernel
theorem dX10_pointDigest_1 : decode cX10_pointDigest 1 = .ok (.lstore 4, 2) := by decide +kernel
theorem dX10_pointDigest_3 : decode cX10_pointDigest 3 = .ok (.iconst 0, 1) := by decide +kernel
theorem dX10_pointDigest_4 : decode cX10_pointDigest 4 = .ok (.istore 6, 2) := by decide +kernel
theorem dX10_pointDigest_6 : decode cX10_pointDigest 6 = .ok (.iload 6, 2) := by decide +kernel
theorem dX10_pointDigest_8 : decode cX10_pointDigest 8 = .ok (.iconst 4, 1) := by decide +kernel
theorem dX10_pointDigest_9 : decode cX10_pointDigest 9 = .ok (.if_icmp .ge 26, 3) := by decide +kernel
theorem dX10_pointDigest_12 : decode cX10_pointDigest 12 = .ok (.ldc2_w 347, 3) := by decide +kernel
theorem dX10_pointDigest_15 : decode cX10_pointDigest 15 = .ok (.lload 4, 2) := by decide +kernel
theorem dX10_pointDigest_17 : decode cX10_pointDigest 17 = .ok (.lmul, 1) := by decide +kernel
theorem dX10_pointDigest_18 : decode cX10_pointDigest 18 = .ok (.aload_n 0, 1) := by decide +kernel
theorem dX10_pointDigest_19 : decode cX10_pointDigest 19 = .ok (.iload_n 3, 1) := by decide +kernel
theorem dX10_pointDigest_20 : decode cX10_pointDigest 20 = .ok (.iload 6, 2) := by decide +kernel
theorem dX10_pointDigest_22 : decode cX10_pointDigest 22 = .ok (.invokevirtual 113, 3) := by decide +kernel
theorem dX10_pointDigest_25 : decode cX10_pointDigest 25 = .ok (.i2l, 1) := by decide +kernel
theorem dX10_pointDigest_26 : decode cX10_pointDigest 26 = .ok (.ladd, 1) := by decide +kernel
theorem dX10_pointDigest_27 : decode cX10_pointDigest 27 = .ok (.lstore 4, 2) := by decide +kernel
theorem dX10_pointDigest_29 : decode cX10_pointDigest 29 = .ok (.iinc 6 1, 3) := by decide +kernel
theorem dX10_pointDigest_32 : decode cX10_pointDigest 32 = .ok (.goto (-26), 3) := by decide +kernel
theorem dX10_pointDigest_35 : decode cX10_pointDigest 35 = .ok (.ldc2_w 347, 3) := by decide +kernel
theorem dX10_pointDigest_38 : decode cX10_pointDigest 38 = .ok (.lload 4, 2) := by decide +kernel
theorem dX10_pointDigest_40 : decode cX10_pointDigest 40 = .ok (.lmul, 1) := by decide +kernel
theorem dX10_pointDigest_41 : decode cX10_pointDigest 41 = .ok (.aload_n 0, 1) := by decide +kernel
theorem dX10_pointDigest_42 : decode cX10_pointDigest 42 = .ok (.iload_n 3, 1) := by decide +kernel
theorem dX10_pointDigest_43 : decode cX10_pointDigest 43 = .ok (.invokevirtual 140, 3) := by decide +kernel
theorem dX10_pointDigest_46 : decode cX10_pointDigest 46 = .ok (.i2l, 1) := by decide +kernel
theorem dX10_pointDigest_47 : decode cX10_pointDigest 47 = .ok (.ladd, 1) := by decide +kernel
theorem dX10_pointDigest_48 : decode cX10_pointDigest 48 = .ok (.lstore 4, 2) := by decide +kernel
theorem dX10_pointDigest_50 : decode cX10_pointDigest 50 = .ok (.iconst 0, 1) := by decide +kernel
theorem dX10_pointDigest_51 : decode cX10_pointDigest 51 = .ok (.istore 6, 2) := by decide +kernel
theorem dX10_pointDigest_53 : decode cX10_pointDigest 53 = .ok (.iload 6, 2) := by decide +kernel
theorem dX10_pointDigest_55 : decode cX10_pointDigest 55 = .ok (.bipush 8, 2) := by decide +kernel
theorem dX10_pointDigest_57 : decode cX10_pointDigest 57 = .ok (.if_icmp .ge 26, 3) := by decide +kernel
theorem dX10_pointDigest_60 : decode cX10_pointDigest 60 = .ok (.ldc2_w 347, 3) := by decide +kernel
theorem dX10_pointDigest_63 : decode cX10_pointDigest 63 = .ok (.lload 4, 2) := by decide +kernel
theorem dX10_pointDigest_65 : decode cX10_pointDigest 65 = .ok (.lmul, 1) := by decide +kernel
theorem dX10_pointDigest_66 : decode cX10_pointDigest 66 = .ok (.aload_n 0, 1) := by decide +kernel
theorem dX10_pointDigest_67 : decode cX10_pointDigest 67 = .ok (.iload_n 3, 1) := by decide +kernel
theorem dX10_pointDigest_68 : decode cX10_pointDigest 68 = .ok (.iload 6, 2) := by decide +kernel
theorem dX10_pointDigest_70 : decode cX10_pointDigest 70 = .ok (.invokevirtual 206, 3) := by decide +kernel
theorem dX10_pointDigest_73 : decode cX10_pointDigest 73 = .ok (.i2l, 1) := by decide +kernel
theorem dX10_pointDigest_74 : decode cX10_pointDigest 74 = .ok (.ladd, 1) := by decide +kernel
theorem dX10_pointDigest_75 : decode cX10_pointDigest 75 = .ok (.lstore 4, 2) := by decide +kernel
theorem dX10_pointDigest_77 : decode cX10_pointDigest 77 = .ok (.iinc 6 1, 3) := by decide +kernel
theorem dX10_pointDigest_80 : decode cX10_pointDigest 80 = .ok (.goto (-27), 3) := by decide +kernel
theorem dX10_pointDigest_83 : decode cX10_pointDigest 83 = .ok (.ldc2_w 347, 3) := by decide +kernel
theorem dX10_pointDigest_86 : decode cX10_pointDigest 86 = .ok (.lload 4, 2) := by decide +kernel
theorem dX10_pointDigest_88 : decode cX10_pointDigest 88 = .ok (.lmul, 1) := by decide +kernel
theorem dX10_pointDigest_89 : decode cX10_pointDigest 89 = .ok (.aload_n 0, 1) := by decide +kernel
theorem dX10_pointDigest_90 : decode cX10_pointDigest 90 = .ok (.iload_n 3, 1) := by decide +kernel
theorem dX10_pointDigest_91 : decode cX10_pointDigest 91 = .ok (.invokevirtual 212, 3) := by decide +kernel
theorem dX10_pointDigest_94 : decode cX10_pointDigest 94 = .ok (.i2l, 1) := by decide +kernel
theorem dX10_pointDigest_95 : decode cX10_pointDigest 95 = .ok (.ladd, 1) := by decide +kernel
theorem dX10_pointDigest_96 : decode cX10_pointDigest 96 = .ok (.lstore 4, 2) := by decide +kernel
theorem dX10_pointDigest_98 : decode cX10_pointDigest 98 = .ok (.ldc2_w 347, 3) := by decide +kernel
theorem dX10_pointDigest_101 : decode cX10_pointDigest 101 = .ok (.lload 4, 2) := by decide +kernel
theorem dX10_pointDigest_103 : decode cX10_pointDigest 103 = .ok (.lmul, 1) := by decide +kernel
theorem dX10_pointDigest_104 : decode cX10_pointDigest 104 = .ok (.aload_n 0, 1) := by decide +kernel
theorem dX10_pointDigest_105 : decode cX10_pointDigest 105 = .ok (.iload_n 3, 1) := by decide +kernel
theorem dX10_pointDigest_106 : decode cX10_pointDigest 106 = .ok (.invokevirtual 215, 3) := by decide +kernel
theorem dX10_pointDigest_109 : decode cX10_pointDigest 109 = .ok (.i2l, 1) := by decide +kernel
theorem dX10_pointDigest_110 : decode cX10_pointDigest 110 = .ok (.ladd, 1) := by decide +kernel
theorem dX10_pointDigest_111 : decode cX10_pointDigest 111 = .ok (.lstore 4, 2) := by decide +kernel
theorem dX10_pointDigest_113 : decode cX10_pointDigest 113 = .ok (.ldc2_w 347, 3) := by decide +kernel
theorem dX10_pointDigest_116 : decode cX10_pointDigest 116 = .ok (.lload 4, 2) := by decide +kernel
theorem dX10_pointDigest_118 : decode cX10_pointDigest 118 = .ok (.lmul, 1) := by decide +kernel
theorem dX10_pointDigest_119 : decode cX10_pointDigest 119 = .ok (.aload_n 0, 1) := by decide +kernel
theorem dX10_pointDigest_120 : decode cX10_pointDigest 120 = .ok (.iload_n 3, 1) := by decide +kernel
theorem dX10_pointDigest_121 : decode cX10_pointDigest 121 = .ok (.invokevirtual 221, 3) := by decide +kernel
theorem dX10_pointDigest_124 : decode cX10_pointDigest 124 = .ok (.i2l, 1) := by decide +kernel
theorem dX10_pointDigest_125 : decode cX10_pointDigest 125 = .ok (.ladd, 1) := by decide +kernel
theorem dX10_pointDigest_126 : decode cX10_pointDigest 126 = .ok (.lreturn, 1) := by decide +kernel
def f_X10_pointDigest_L6 (p3 : Int32) (s0 : sh_S) (v1 : Int64) (v2 : Int32) : Option ((Int64 × Int32) ⊕ (Int64)) := (if (4 : Int32) ≤ v2 then some (.inr v1) else ob (f_X10_codeOf p3 v2 s0) (fun v4 => lb ((((31 : Int64) * v1) + (v4.toInt64))) (fun v5 => lb (v2 + (1 : Int32)) (fun v6 => some (.inl (v5, v6))))))
def f_X10_pointDigest_L53 (p3 : Int32) (v9 : Int64) (v10 : Int32) (s11 : sh_S) : Option ((Int64 × Int32 × sh_S) ⊕ (Int64 × sh_S)) := (if (8 : Int32) ≤ v10 then some (.inr (v9, s11)) else ob2 (f_X10_holdsOf p3 v10 s11) (fun v14 s15 => lb ((((31 : Int64) * v9) + (v14.toInt64))) (fun v16 => lb (v10 + (1 : Int32)) (fun v17 => some (.inl (v16, v17, s15))))))
def f_X10_pointDigest (p1 : Int64) (p3 : Int32) (s0 : sh_S) : Option (Int64 × sh_S) := ob (lp (fun q => f_X10_pointDigest_L6 p3 s0 q.1 q.2) FU (p1, (0 : Int32))) (fun v3 => ob (f_X10_nextOf p3 s0) (fun v7 => lb ((((31 : Int64) * v3) + (v7.toInt64))) (fun v8 => ob2 (lp (fun q => f_X10_pointDigest_L53 p3 q.1 q.2.1 q.2.2) FU (v8, (0 : Int32), s0)) (fun v12 s13 => ob2 (f_X10_scopeOf p3 s13) (fun v18 s19 => lb ((((31 : Int64) * v12) + (v18.toInt64))) (fun v20 => ob2 (f_X10_activeOf p3 s19) (fun v21 s22 => lb ((((31 : Int64) * v20) + (v21.toInt64))) (fun v23 => ob2 (f_X10_bearsOf p3 s22) (fun v24 s25 => some ((((31 : Int64) * v23) + (v24.toInt64)), s25))))))))))
set_option maxRecDepth 100000 in
set_option maxHeartbeats 4000000 in
theorem c_X10_pointDigest (p1 : Int64) (p3 : Int32) (s0 : sh_S) (r : Int64) (s9x : sh_S) (hf : f_X10_pointDigest p1 p3 s0 = some (r, s9x)) : Ctr yX10_pointDigest cX10_pointDigest 7 (some .long) ({ frames := 8, cells := 0, slots := 0, locals := 179 } : Room) shM [.ref 0, .long p1, .int p3] s0 (some (.long r)) s9x := by
  refine Ctr.mk (ri := .lreturn) (by decide) (Nat.le_of_ble_eq_true rfl) (Rt_l r) ?_
  intro G h hL hR hret
  refine k_drop (lv' := [(0, .ref 0), (1, .long p1), (3, .int p3)]) [0, 1, 2] rfl ?_
  unfold f_X10_pointDigest at hf
  refine k_lload_n (pc := 0) h dX10_pointDigest_0 rfl 1 rfl ?_
  refine k_lstore (pc := 1) h dX10_pointDigest_1 (nk hL (by decide)) (lv' := [(0, .ref 0), (1, .long p1), (3, .int p3), (4, .long p1)]) rfl ?_
  refine k_iconst (pc := 3) h dX10_pointDigest_3 kc_iconst_0 ?_
  refine k_istore (pc := 4) h dX10_pointDigest_4 (nk hL (by decide)) (lv' := [(0, .ref 0), (1, .long p1), (3, .int p3), (4, .long p1), (6, .int (0 : Int32))]) rfl ?_
  obtain ⟨v3, hl, hf⟩ := ob_s hf
  refine k_drop (lv' := [(0, .ref 0), (3, .int p3), (4, .long p1), (6, .int (0 : Int32))]) [0, 2, 3, 4] rfl ?_
  refine lp_s (P := (fun q : Int64 × Int32 => sh_K G shM 6 [(0, .ref 0), (3, .int p3), (4, .long q.1), (6, .int q.2)] [] s0)) (Q := (fun q : Int64 => sh_K G shM 35 [(0, .ref 0), (3, .int p3), (4, .long q)] [] s0)) (s := (p1, (0 : Int32))) ?_ hl ?_
  · clear hf hl
    intro q rr hf kc6
    obtain ⟨v1, v2⟩ := q
    have hf : f_X10_pointDigest_L6 p3 s0 v1 v2 = some rr := hf
    unfold f_X10_pointDigest_L6 at hf
    refine k_iload (pc := 6) h dX10_pointDigest_6 3 rfl ?_
    refine k_iconst (pc := 8) h dX10_pointDigest_8 kc_iconst_4 ?_
    refine k_icmp_ge (pc := 9) (tgt := 35) h dX10_pointDigest_9 rfl (fun hc => ?_) (fun hc => ?_)
    · have hf := it_p hc hf
      obtain rfl := so1 hf
      exact k_drop [0, 1, 2] rfl kc6
    · have hf := it_n hc hf
      refine k_ldc2 (pc := 12) h dX10_pointDigest_12 wd_1455 ?_
      refine k_lload (pc := 15) h dX10_pointDigest_15 2 rfl ?_
      refine k_lmul (pc := 17) h dX10_pointDigest_17 ?_
      refine k_aload_n (pc := 18) h dX10_pointDigest_18 rfl 0 rfl ?_
      refine k_iload_n (pc := 19) h dX10_pointDigest_19 rfl 1 rfl ?_
      refine k_iload (pc := 20) h dX10_pointDigest_20 3 rfl ?_
      obtain ⟨v4, cv4, hf⟩ := ob_s hf
      refine k_callV0 (pc := 22) h cv_RX10_113 (c_X10_codeOf p3 v2 s0 v4 cv4) rfl rfl rfl (st1 := [.int v4, .long ((31 : Int64) * v1)]) rfl ⟨rfl, rfl⟩ (rk hR (Nat.le_of_ble_eq_true rfl) (Nat.le_of_ble_eq_true rfl)) (Nat.le_of_ble_eq_true rfl) dX10_pointDigest_22 ?_
      refine k_i2l (pc := 25) h dX10_pointDigest_25 ?_
      refine k_ladd (pc := 26) h dX10_pointDigest_26 ?_
      obtain ⟨v5, ev5, hf⟩ := lb_s hf
      refine k_topl ev5 ?_
      refine k_lstore (pc := 27) h dX10_pointDigest_27 (nk hL (by decide)) (lv' := [(0, .ref 0), (3, .int p3), (4, .long v5), (6, .int v2)]) rfl ?_
      obtain ⟨v6, ev6, hf⟩ := lb_s hf
      refine k_iinc (pc := 29) h dX10_pointDigest_29 3 rfl ((congrArg (_ + ·) kc_iconst_1).trans ev6.symm) (nk hL (by decide)) (lv' := [(0, .ref 0), (3, .int p3), (4, .long v5), (6, .int v6)]) rfl ?_
      refine k_goto (pc := 32) (tgt := 6) h dX10_pointDigest_32 rfl ?_
      obtain rfl := so1 hf
      exact k_drop [0, 1, 2, 3] rfl kc6
  · refine k_ldc2 (pc := 35) h dX10_pointDigest_35 wd_1455 ?_
    refine k_lload (pc := 38) h dX10_pointDigest_38 2 rfl ?_
    refine k_lmul (pc := 40) h dX10_pointDigest_40 ?_
    refine k_aload_n (pc := 41) h dX10_pointDigest_41 rfl 0 rfl ?_
    refine k_iload_n (pc := 42) h dX10_pointDigest_42 rfl 1 rfl ?_
    obtain ⟨v7, cv7, hf⟩ := ob_s hf
    refine k_callV0 (pc := 43) h cv_RX10_140 (c_X10_nextOf p3 s0 v7 cv7) rfl rfl rfl (st1 := [.int v7, .long ((31 : Int64) * v3)]) rfl ⟨rfl, rfl⟩ (rk hR (Nat.le_of_ble_eq_true rfl) (Nat.le_of_ble_eq_true rfl)) (Nat.le_of_ble_eq_true rfl) dX10_pointDigest_43 ?_
    refine k_i2l (pc := 46) h dX10_pointDigest_46 ?_
    refine k_ladd (pc := 47) h dX10_pointDigest_47 ?_
    obtain ⟨v8, ev8, hf⟩ := lb_s hf
    refine k_topl ev8 ?_
    refine k_lstore (pc := 48) h dX10_pointDigest_48 (nk hL (by decide)) (lv' := [(0, .ref 0), (3, .int p3), (4, .long v8)]) rfl ?_
    refine k_iconst (pc := 50) h dX10_pointDigest_50 kc_iconst_0 ?_
    refine k_istore (pc := 51) h dX10_pointDigest_51 (nk hL (by decide)) (lv' := [(0, .ref 0), (3, .int p3), (4, .long v8), (6, .int (0 : Int32))]) rfl ?_
    obtain ⟨v12, s13, hl, hf⟩ := ob2_s hf
    refine k_drop (lv' := [(0, .ref 0), (3, .int p3), (4, .long v8), (6, .int (0 : Int32))]) [0, 1, 2, 3] rfl ?_
    refine lp_s (P := (fun q : Int64 × Int32 × sh_S => sh_K G shM 53 [(0, .ref 0), (3, .int p3), (4, .long q.1), (6, .int q.2.1)] [] q.2.2)) (Q := (fun q : Int64 × sh_S => sh_K G shM 83 [(0, .ref 0), (3, .int p3), (4, .long q.1)] [] q.2)) (s := (v8, (0 : Int32), s0)) ?_ hl ?_
    · clear hf hl
      intro q rr hf kc53
      obtain ⟨v9, v10, s11⟩ := q
      have hf : f_X10_pointDigest_L53 p3 v9 v10 s11 = some rr := hf
      unfold f_X10_pointDigest_L53 at hf
      refine k_iload (pc := 53) h dX10_pointDigest_53 3 rfl ?_
      refine k_bipush (pc := 55) h dX10_pointDigest_55 kc_bipush_8 ?_
      refine k_icmp_ge (pc := 57) (tgt := 83) h dX10_pointDigest_57 rfl (fun hc => ?_) (fun hc => ?_)
      · have hf := it_p hc hf
        obtain rfl := so1 hf
        exact k_drop [0, 1, 2] rfl kc53
      · have hf := it_n hc hf
        refine k_ldc2 (pc := 60) h dX10_pointDigest_60 wd_1455 ?_
        refine k_lload (pc := 63) h dX10_pointDigest_63 2 rfl ?_
        refine k_lmul (pc := 65) h dX10_pointDigest_65 ?_
        refine k_aload_n (pc := 66) h dX10_pointDigest_66 rfl 0 rfl ?_
        refine k_iload_n (pc := 67) h dX10_pointDigest_67 rfl 1 rfl ?_
        refine k_iload (pc := 68) h dX10_pointDigest_68 3 rfl ?_
        obtain ⟨v14, s15, cv14, hf⟩ := ob2_s hf
        refine k_callV0 (pc := 70) h cv_RX10_206 (c_X10_holdsOf p3 v10 s11 v14 s15 cv14) rfl rfl rfl (st1 := [.int v14, .long ((31 : Int64) * v9)]) rfl ⟨rfl, rfl⟩ (rk hR (Nat.le_of_ble_eq_true rfl) (Nat.le_of_ble_eq_true rfl)) (Nat.le_of_ble_eq_true rfl) dX10_pointDigest_70 ?_
        refine k_i2l (pc := 73) h dX10_pointDigest_73 ?_
        refine k_ladd (pc := 74) h dX10_pointDigest_74 ?_
        obtain ⟨v16, ev16, hf⟩ := lb_s hf
        refine k_topl ev16 ?_
        refine k_lstore (pc := 75) h dX10_pointDigest_75 (nk hL (by decide)) (lv' := [(0, .ref 0), (3, .int p3), (4, .long v16), (6, .int v10)]) rfl ?_
        obtain ⟨v17, ev17, hf⟩ := lb_s hf
        refine k_iinc (pc := 77) h dX10_pointDigest_77 3 rfl ((congrArg (_ + ·) kc_iconst_1).trans ev17.symm) (nk hL (by decide)) (lv' := [(0, .ref 0), (3, .int p3), (4, .long v16), (6, .int v17)]) rfl ?_
        refine k_goto (pc := 80) (tgt := 53) h dX10_pointDigest_80 rfl ?_
        obtain rfl := so1 hf
        exact k_drop [0, 1, 2, 3] rfl kc53
    · refine k_ldc2 (pc := 83) h dX10_pointDigest_83 wd_1455 ?_
      refine k_lload (pc := 86) h dX10_pointDigest_86 2 rfl ?_
      refine k_lmul (pc := 88) h dX10_pointDigest_88 ?_
      refine k_aload_n (pc := 89) h dX10_pointDigest_89 rfl 0 rfl ?_
      refine k_iload_n (pc := 90) h dX10_pointDigest_90 rfl 1 rfl ?_
      obtain ⟨v18, s19, cv18, hf⟩ := ob2_s hf
      refine k_callV0 (pc := 91) h cv_RX10_212 (c_X10_scopeOf p3 s13 v18 s19 cv18) rfl rfl rfl (st1 := [.int v18, .long ((31 : Int64) * v12)]) rfl ⟨rfl, rfl⟩ (rk hR (Nat.le_of_ble_eq_true rfl) (Nat.le_of_ble_eq_true rfl)) (Nat.le_of_ble_eq_true rfl) dX10_pointDigest_91 ?_
      refine k_i2l (pc := 94) h dX10_pointDigest_94 ?_
      refine k_ladd (pc := 95) h dX10_pointDigest_95 ?_
      obtain ⟨v20, ev20, hf⟩ := lb_s hf
      refine k_topl ev20 ?_
      refine k_lstore (pc := 96) h dX10_pointDigest_96 (nk hL (by decide)) (lv' := [(0, .ref 0), (3, .int p3), (4, .long v20)]) rfl ?_
      refine k_ldc2 (pc := 98) h dX10_pointDigest_98 wd_1455 ?_
      refine k_lload (pc := 101) h dX10_pointDigest_101 2 rfl ?_
      refine k_lmul (pc := 103) h dX10_pointDigest_103 ?_
      refine k_aload_n (pc := 104) h dX10_pointDigest_104 rfl 0 rfl ?_
      refine k_iload_n (pc := 105) h dX10_pointDigest_105 rfl 1 rfl ?_
      obtain ⟨v21, s22, cv21, hf⟩ := ob2_s hf
      refine k_callV0 (pc := 106) h cv_RX10_215 (c_X10_activeOf p3 s19 v21 s22 cv21) rfl rfl rfl (st1 := [.int v21, .long ((31 : Int64) * v20)]) rfl ⟨rfl, rfl⟩ (rk hR (Nat.le_of_ble_eq_true rfl) (Nat.le_of_ble_eq_true rfl)) (Nat.le_of_ble_eq_true rfl) dX10_pointDigest_106 ?_
      refine k_i2l (pc := 109) h dX10_pointDigest_109 ?_
      refine k_ladd (pc := 110) h dX10_pointDigest_110 ?_
      obtain ⟨v23, ev23, hf⟩ := lb_s hf
      refine k_topl ev23 ?_
      refine k_lstore (pc := 111) h dX10_pointDigest_111 (nk hL (by decide)) (lv' := [(0, .ref 0), (3, .int p3), (4, .long v23)]) rfl ?_
      refine k_ldc2 (pc := 113) h dX10_pointDigest_113 wd_1455 ?_
      refine k_lload (pc := 116) h dX10_pointDigest_116 2 rfl ?_
      refine k_lmul (pc := 118) h dX10_pointDigest_118 ?_
      refine k_aload_n (pc := 119) h dX10_pointDigest_119 rfl 0 rfl ?_
      refine k_iload_n (pc := 120) h dX10_pointDigest_120 rfl 1 rfl ?_
      obtain ⟨v24, s25, cv24, hf⟩ := ob2_s hf
      refine k_callV0 (pc := 121) h cv_RX10_221 (c_X10_bearsOf p3 s22 v24 s25 cv24) rfl rfl rfl (st1 := [.int v24, .long ((31 : Int64) * v23)]) rfl ⟨rfl, rfl⟩ (rk hR (Nat.le_of_ble_eq_true rfl) (Nat.le_of_ble_eq_true rfl)) (Nat.le_of_ble_eq_true rfl) dX10_pointDigest_121 ?_
      refine k_i2l (pc := 124) h dX10_pointDigest_124 ?_
      refine k_ladd (pc := 125) h dX10_pointDigest_125 ?_
      obtain ⟨rfl, rfl⟩ := so2 hf
      exact hret 126 _ dX10_pointDigest_126 trivial
theorem dX10_errorDigest_0 : decode cX10_errorDigest 0 = .ok (.lload_n 1, 1) := by decide +kernel
theorem dX10_errorDigest_1 : decode cX10_errorDigest 1 = .ok (.lstore 4, 2) := by decide +kernel
theorem dX10_errorDigest_3 : decode cX10_errorDigest 3 = .ok (.iconst 0, 1) := by decide +kernel
theorem dX10_errorDigest_4 : decode cX10_errorDigest 4 = .ok (.istore 6, 2) := by decide +kernel
theorem dX10_errorDigest_6 : decode cX10_errorDigest 6 = .ok (.iload 6, 2) := by decide +kernel
theorem dX10_errorDigest_8 : decode cX10_errorDigest 8 = .ok (.iconst 3, 1) := by decide +kernel
theorem dX10_errorDigest_9 : decode cX10_errorDigest 9 = .ok (.if_icmp .ge 26, 3) := by decide +kernel
theorem dX10_errorDigest_12 : decode cX10_errorDigest 12 = .ok (.ldc2_w 347, 3) := by decide +kernel
theorem dX10_errorDigest_15 : decode cX10_errorDigest 15 = .ok (.lload 4, 2) := by decide +kernel
theorem dX10_errorDigest_17 : decode cX10_errorDigest 17 = .ok (.lmul, 1) := by decide +kernel
theorem dX10_errorDigest_18 : decode cX10_errorDigest 18 = .ok (.aload_n 0, 1) := by decide +kernel
theorem dX10_errorDigest_19 : decode cX10_errorDigest 19 = .ok (.iload_n 3, 1) := by decide +kernel
theorem dX10_errorDigest_20 : decode cX10_errorDigest 20 = .ok (.iload 6, 2) := by decide +kernel
theorem dX10_errorDigest_22 : decode cX10_errorDigest 22 = .ok (.invokevirtual 255, 3) := by decide +kernel
theorem dX10_errorDigest_25 : decode cX10_errorDigest 25 = .ok (.i2l, 1) := by decide +kernel
theorem dX10_errorDigest_26 : decode cX10_errorDigest 26 = .ok (.ladd, 1) := by decide +kernel
theorem dX10_errorDigest_27 : decode cX10_errorDigest 27 = .ok (.lstore 4, 2) := by decide +kernel
theorem dX10_errorDigest_29 : decode cX10_errorDigest 29 = .ok (.iinc 6 1, 3) := by decide +kernel
theorem dX10_errorDigest_32 : decode cX10_errorDigest 32 = .ok (.goto (-26), 3) := by decide +kernel
theorem dX10_errorDigest_35 : decode cX10_errorDigest 35 = .ok (.ldc2_w 347, 3) := by decide +kernel
theorem dX10_errorDigest_38 : decode cX10_errorDigest 38 = .ok (.lload 4, 2) := by decide +kernel
theorem dX10_errorDigest_40 : decode cX10_errorDigest 40 = .ok (.lmul, 1) := by decide +kernel
theorem dX10_errorDigest_41 : decode cX10_errorDigest 41 = .ok (.aload_n 0, 1) := by decide +kernel
theorem dX10_errorDigest_42 : decode cX10_errorDigest 42 = .ok (.iload_n 3, 1) := by decide +kernel
theorem dX10_errorDigest_43 : decode cX10_errorDigest 43 = .ok (.iconst (-1), 1) := by decide +kernel
theorem dX10_errorDigest_44 : decode cX10_errorDigest 44 = .ok (.invokevirtual 277, 3) := by decide +kernel
theorem dX10_errorDigest_47 : decode cX10_errorDigest 47 = .ok (.i2l, 1) := by decide +kernel
theorem dX10_errorDigest_48 : decode cX10_errorDigest 48 = .ok (.ladd, 1) := by decide +kernel
theorem dX10_errorDigest_49 : decode cX10_errorDigest 49 = .ok (.lstore 4, 2) := by decide +kernel
theorem dX10_errorDigest_51 : decode cX10_errorDigest 51 = .ok (.ldc2_w 347, 3) := by decide +kernel
theorem dX10_errorDigest_54 : decode cX10_errorDigest 54 = .ok (.lload 4, 2) := by decide +kernel
theorem dX10_errorDigest_56 : decode cX10_errorDigest 56 = .ok (.lmul, 1) := by decide +kernel
theorem dX10_errorDigest_57 : decode cX10_errorDigest 57 = .ok (.aload_n 0, 1) := by decide +kernel
theorem dX10_errorDigest_58 : decode cX10_errorDigest 58 = .ok (.iload_n 3, 1) := by decide +kernel
theorem dX10_errorDigest_59 : decode cX10_errorDigest 59 = .ok (.iconst 1, 1) := by decide +kernel
theorem dX10_errorDigest_60 : decode cX10_errorDigest 60 = .ok (.invokevirtual 277, 3) := by decide +kernel
theorem dX10_errorDigest_63 : decode cX10_errorDigest 63 = .ok (.i2l, 1) := by decide +kernel
theorem dX10_errorDigest_64 : decode cX10_errorDigest 64 = .ok (.ladd, 1) := by decide +kernel
theorem dX10_errorDigest_65 : decode cX10_errorDigest 65 = .ok (.lreturn, 1) := by decide +kernel
def f_X10_errorDigest_L6 (p3 : Int32) (v1 : Int64) (v2 : Int32) (s3 : sh_S) : Option ((Int64 × Int32 × sh_S) ⊕ (Int64 × sh_S)) := (if (3 : Int32) ≤ v2 then some (.inr (v1, s3)) else ob2 (f_X10_errorOf p3 v2 s3) (fun v6 s7 => lb ((((31 : Int64) * v1) + (v6.toInt64))) (fun v8 => lb (v2 + (1 : Int32)) (fun v9 => some (.inl (v8, v9, s7))))))
def f_X10_errorDigest (p1 : Int64) (p3 : Int32) (s0 : sh_S) : Option (Int64 × sh_S) := ob2 (lp (fun q => f_X10_errorDigest_L6 p3 q.1 q.2.1 q.2.2) FU (p1, (0 : Int32), s0)) (fun v4 s5 => ob2 (f_X10_witnessOf p3 (-1 : Int32) s5) (fun v10 s11 => lb ((((31 : Int64) * v4) + (v10.toInt64))) (fun v12 => ob2 (f_X10_witnessOf p3 (1 : Int32) s11) (fun v13 s14 => some ((((31 : Int64) * v12) + (v13.toInt64)), s14)))))
set_option maxRecDepth 100000 in
set_option maxHeartbeats 4000000 in
theorem c_X10_errorDigest (p1 : Int64) (p3 : Int32) (s0 : sh_S) (r : Int64) (s9x : sh_S) (hf : f_X10_errorDigest p1 p3 s0 = some (r, s9x)) : Ctr yX10_errorDigest cX10_errorDigest 7 (some .long) ({ frames := 9, cells := 0, slots := 0, locals := 200 } : Room) shM [.ref 0, .long p1, .int p3] s0 (some (.long r)) s9x := by
  refine Ctr.mk (ri := .lreturn) (by decide) (Nat.le_of_ble_eq_true rfl) (Rt_l r) ?_
  intro G h hL hR hret
  refine k_drop (lv' := [(0, .ref 0), (1, .long p1), (3, .int p3)]) [0, 1, 2] rfl ?_
  unfold f_X10_errorDigest at hf
  refine k_lload_n (pc := 0) h dX10_errorDigest_0 rfl 1 rfl ?_
  refine k_lstore (pc := 1) h dX10_errorDigest_1 (nk hL (by decide)) (lv' := [(0, .ref 0), (1, .long p1), (3, .int p3), (4, .long p1)]) rfl ?_
  refine k_iconst (pc := 3) h dX10_errorDigest_3 kc_iconst_0 ?_
  refine k_istore (pc := 4) h dX10_errorDigest_4 (nk hL (by decide)) (lv' := [(0, .ref 0), (1, .long p1), (3, .int p3), (4, .long p1), (6, .int (0 : Int32))]) rfl ?_
  obtain ⟨v4, s5, hl, hf⟩ := ob2_s hf
  refine k_drop (lv' := [(0, .ref 0), (3, .int p3), (4, .long p1), (6, .int (0 : Int32))]) [0, 2, 3, 4] rfl ?_
  refine lp_s (P := (fun q : Int64 × Int32 × sh_S => sh_K G shM 6 [(0, .ref 0), (3, .int p3), (4, .long q.1), (6, .int q.2.1)] [] q.2.2)) (Q := (fun q : Int64 × sh_S => sh_K G shM 35 [(0, .ref 0), (3, .int p3), (4, .long q.1)] [] q.2)) (s := (p1, (0 : Int32), s0)) ?_ hl ?_
  · clear hf hl
    intro q rr hf kc6
    obtain ⟨v1, v2, s3⟩ := q
    have hf : f_X10_errorDigest_L6 p3 v1 v2 s3 = some rr := hf
    unfold f_X10_errorDigest_L6 at hf
    refine k_iload (pc := 6) h dX10_errorDigest_6 3 rfl ?_
    refine k_iconst (pc := 8) h dX10_errorDigest_8 kc_iconst_3 ?_
    refine k_icmp_ge (pc := 9) (tgt := 35) h dX10_errorDigest_9 rfl (fun hc => ?_) (fun hc => ?_)
    · have hf := it_p hc hf
      obtain rfl := so1 hf
      exact k_drop [0, 1, 2] rfl kc6
    · have hf := it_n hc hf
      refine k_ldc2 (pc := 12) h dX10_errorDigest_12 wd_1455 ?_
      refine k_lload (pc := 15) h dX10_errorDigest_15 2 rfl ?_
      refine k_lmul (pc := 17) h dX10_errorDigest_17 ?_
      refine k_aload_n (pc := 18) h dX10_errorDigest_18 rfl 0 rfl ?_
      refine k_iload_n (pc := 19) h dX10_errorDigest_19 rfl 1 rfl ?_
      refine k_iload (pc := 20) h dX10_errorDigest_20 3 rfl ?_
      obtain ⟨v6, s7, cv6, hf⟩ := ob2_s hf
      refine k_callV0 (pc := 22) h cv_RX10_255 (c_X10_errorOf p3 v2 s3 v6 s7 cv6) rfl rfl rfl (st1 := [.int v6, .long ((31 : Int64) * v1)]) rfl ⟨rfl, rfl⟩ (rk hR (Nat.le_of_ble_eq_true rfl) (Nat.le_of_ble_eq_true rfl)) (Nat.le_of_ble_eq_true rfl) dX10_errorDigest_22 ?_
      refine k_i2l (pc := 25) h dX10_errorDigest_25 ?_
      refine k_ladd (pc := 26) h dX10_errorDigest_26 ?_
      obtain ⟨v8, ev8, hf⟩ := lb_s hf
      refine k_topl ev8 ?_
      refine k_lstore (pc := 27) h dX10_errorDigest_27 (nk hL (by decide)) (lv' := [(0, .ref 0), (3, .int p3), (4, .long v8), (6, .int v2)]) rfl ?_
      obtain ⟨v9, ev9, hf⟩ := lb_s hf
      refine k_iinc (pc := 29) h dX10_errorDigest_29 3 rfl ((congrArg (_ + ·) kc_iconst_1).trans ev9.symm) (nk hL (by decide)) (lv' := [(0, .ref 0), (3, .int p3), (4, .long v8), (6, .int v9)]) rfl ?_
      refine k_goto (pc := 32) (tgt := 6) h dX10_errorDigest_32 rfl ?_
      obtain rfl := so1 hf
      exact k_drop [0, 1, 2, 3] rfl kc6
  · refine k_ldc2 (pc := 35) h dX10_errorDigest_35 wd_1455 ?_
    refine k_lload (pc := 38) h dX10_errorDigest_38 2 rfl ?_
    refine k_lmul (pc := 40) h dX10_errorDigest_40 ?_
    refine k_aload_n (pc := 41) h dX10_errorDigest_41 rfl 0 rfl ?_
    refine k_iload_n (pc := 42) h dX10_errorDigest_42 rfl 1 rfl ?_
    refine k_iconst (pc := 43) h dX10_errorDigest_43 kc_iconst_m1 ?_
    obtain ⟨v10, s11, cv10, hf⟩ := ob2_s hf
    refine k_callV0 (pc := 44) h cv_RX10_277 (c_X10_witnessOf p3 (-1 : Int32) s5 v10 s11 cv10) rfl rfl rfl (st1 := [.int v10, .long ((31 : Int64) * v4)]) rfl ⟨rfl, rfl⟩ (rk hR (Nat.le_of_ble_eq_true rfl) (Nat.le_of_ble_eq_true rfl)) (Nat.le_of_ble_eq_true rfl) dX10_errorDigest_44 ?_
    refine k_i2l (pc := 47) h dX10_errorDigest_47 ?_
    refine k_ladd (pc := 48) h dX10_errorDigest_48 ?_
    obtain ⟨v12, ev12, hf⟩ := lb_s hf
    refine k_topl ev12 ?_
    refine k_lstore (pc := 49) h dX10_errorDigest_49 (nk hL (by decide)) (lv' := [(0, .ref 0), (3, .int p3), (4, .long v12)]) rfl ?_
    refine k_ldc2 (pc := 51) h dX10_errorDigest_51 wd_1455 ?_
    refine k_lload (pc := 54) h dX10_errorDigest_54 2 rfl ?_
    refine k_lmul (pc := 56) h dX10_errorDigest_56 ?_
    refine k_aload_n (pc := 57) h dX10_errorDigest_57 rfl 0 rfl ?_
    refine k_iload_n (pc := 58) h dX10_errorDigest_58 rfl 1 rfl ?_
    refine k_iconst (pc := 59) h dX10_errorDigest_59 kc_iconst_1 ?_
    obtain ⟨v13, s14, cv13, hf⟩ := ob2_s hf
    refine k_callV0 (pc := 60) h cv_RX10_277 (c_X10_witnessOf p3 (1 : Int32) s11 v13 s14 cv13) rfl rfl rfl (st1 := [.int v13, .long ((31 : Int64) * v12)]) rfl ⟨rfl, rfl⟩ (rk hR (Nat.le_of_ble_eq_true rfl) (Nat.le_of_ble_eq_true rfl)) (Nat.le_of_ble_eq_true rfl) dX10_errorDigest_60 ?_
    refine k_i2l (pc := 63) h dX10_errorDigest_63 ?_
    refine k_ladd (pc := 64) h dX10_errorDigest_64 ?_
    obtain ⟨rfl, rfl⟩ := so2 hf
    exact hret 65 _ dX10_errorDigest_65 trivial
theorem dX10_runDigest_0 : decode cX10_runDigest 0 = .ok (.lload_n 1, 1) := by decide +kernel
theorem dX10_runDigest_1 : decode cX10_runDigest 1 = .ok (.lstore 4, 2) := by decide +kernel
theorem dX10_runDigest_3 : decode cX10_runDigest 3 = .ok (.iconst 0, 1) := by decide +kernel
theorem dX10_runDigest_4 : decode cX10_runDigest 4 = .ok (.istore 6, 2) := by decide +kernel
theorem dX10_runDigest_6 : decode cX10_runDigest 6 = .ok (.iload 6, 2) := by decide +kernel
theorem dX10_runDigest_8 : decode cX10_runDigest 8 = .ok (.iconst 3, 1) := by decide +kernel
theorem dX10_runDigest_9 : decode cX10_runDigest 9 = .ok (.if_icmp .ge 28, 3) := by decide +kernel
theorem dX10_runDigest_12 : decode cX10_runDigest 12 = .ok (.ldc2_w 347, 3) := by decide +kernel
theorem dX10_runDigest_15 : decode cX10_runDigest 15 = .ok (.lload 4, 2) := by decide +kernel
theorem dX10_runDigest_17 : decode cX10_runDigest 17 = .ok (.lmul, 1) := by decide +kernel
theorem dX10_runDigest_18 : decode cX10_runDigest 18 = .ok (.aload_n 0, 1) := by decide +kernel
theorem dX10_runDigest_19 : decode cX10_runDigest 19 = .ok (.iload_n 3, 1) := by decide +kernel
theorem dX10_runDigest_20 : decode cX10_runDigest 20 = .ok (.bipush 60, 2) := by decide +kernel
theorem dX10_runDigest_22 : decode cX10_runDigest 22 = .ok (.iload 6, 2) := by decide +kernel
theorem dX10_runDigest_24 : decode cX10_runDigest 24 = .ok (.invokevirtual 327, 3) := by decide +kernel
theorem dX10_runDigest_27 : decode cX10_runDigest 27 = .ok (.i2l, 1) := by decide +kernel
theorem dX10_runDigest_28 : decode cX10_runDigest 28 = .ok (.ladd, 1) := by decide +kernel
theorem dX10_runDigest_29 : decode cX10_runDigest 29 = .ok (.lstore 4, 2) := by decide +kernel
theorem dX10_runDigest_31 : decode cX10_runDigest 31 = .ok (.iinc 6 1, 3) := by decide +kernel
theorem dX10_runDigest_34 : decode cX10_runDigest 34 = .ok (.goto (-28), 3) := by decide +kernel
theorem dX10_runDigest_37 : decode cX10_runDigest 37 = .ok (.lload 4, 2) := by decide +kernel
theorem dX10_runDigest_39 : decode cX10_runDigest 39 = .ok (.lreturn, 1) := by decide +kernel
def f_X10_runDigest_L6 (p3 : Int32) (v1 : Int64) (v2 : Int32) (s3 : sh_S) : Option ((Int64 × Int32 × sh_S) ⊕ (Int64 × sh_S)) := (if (3 : Int32) ≤ v2 then some (.inr (v1, s3)) else ob2 (f_X10_runOf p3 (60 : Int32) v2 s3) (fun v6 s7 => lb ((((31 : Int64) * v1) + (v6.toInt64))) (fun v8 => lb (v2 + (1 : Int32)) (fun v9 => some (.inl (v8, v9, s7))))))
def f_X10_runDigest (p1 : Int64) (p3 : Int32) (s0 : sh_S) : Option (Int64 × sh_S) := ob2 (lp (fun q => f_X10_runDigest_L6 p3 q.1 q.2.1 q.2.2) FU (p1, (0 : Int32), s0)) (fun v4 s5 => some (v4, s5))
set_option maxRecDepth 100000 in
set_option maxHeartbeats 4000000 in
theorem c_X10_runDigest (p1 : Int64) (p3 : Int32) (s0 : sh_S) (r : Int64) (s9x : sh_S) (hf : f_X10_runDigest p1 p3 s0 = some (r, s9x)) : Ctr yX10_runDigest cX10_runDigest 7 (some .long) ({ frames := 6, cells := 0, slots := 0, locals := 141 } : Room) shM [.ref 0, .long p1, .int p3] s0 (some (.long r)) s9x := by
  refine Ctr.mk (ri := .lreturn) (by decide) (Nat.le_of_ble_eq_true rfl) (Rt_l r) ?_
  intro G h hL hR hret
  refine k_drop (lv' := [(0, .ref 0), (1, .long p1), (3, .int p3)]) [0, 1, 2] rfl ?_
  unfold f_X10_runDigest at hf
  refine k_lload_n (pc := 0) h dX10_runDigest_0 rfl 1 rfl ?_
  refine k_lstore (pc := 1) h dX10_runDigest_1 (nk hL (by decide)) (lv' := [(0, .ref 0), (1, .long p1), (3, .int p3), (4, .long p1)]) rfl ?_
  refine k_iconst (pc := 3) h dX10_runDigest_3 kc_iconst_0 ?_
  refine k_istore (pc := 4) h dX10_runDigest_4 (nk hL (by decide)) (lv' := [(0, .ref 0), (1, .long p1), (3, .int p3), (4, .long p1), (6, .int (0 : Int32))]) rfl ?_
  obtain ⟨v4, s5, hl, hf⟩ := ob2_s hf
  refine k_drop (lv' := [(0, .ref 0), (3, .int p3), (4, .long p1), (6, .int (0 : Int32))]) [0, 2, 3, 4] rfl ?_
  refine lp_s (P := (fun q : Int64 × Int32 × sh_S => sh_K G shM 6 [(0, .ref 0), (3, .int p3), (4, .long q.1), (6, .int q.2.1)] [] q.2.2)) (Q := (fun q : Int64 × sh_S => sh_K G shM 37 [(4, .long q.1)] [] q.2)) (s := (p1, (0 : Int32), s0)) ?_ hl ?_
  · clear hf hl
    intro q rr hf kc6
    obtain ⟨v1, v2, s3⟩ := q
    have hf : f_X10_runDigest_L6 p3 v1 v2 s3 = some rr := hf
    unfold f_X10_runDigest_L6 at hf
    refine k_iload (pc := 6) h dX10_runDigest_6 3 rfl ?_
    refine k_iconst (pc := 8) h dX10_runDigest_8 kc_iconst_3 ?_
    refine k_icmp_ge (pc := 9) (tgt := 37) h dX10_runDigest_9 rfl (fun hc => ?_) (fun hc => ?_)
    · have hf := it_p hc hf
      obtain rfl := so1 hf
      exact k_drop [2] rfl kc6
    · have hf := it_n hc hf
      refine k_ldc2 (pc := 12) h dX10_runDigest_12 wd_1455 ?_
      refine k_lload (pc := 15) h dX10_runDigest_15 2 rfl ?_
      refine k_lmul (pc := 17) h dX10_runDigest_17 ?_
      refine k_aload_n (pc := 18) h dX10_runDigest_18 rfl 0 rfl ?_
      refine k_iload_n (pc := 19) h dX10_runDigest_19 rfl 1 rfl ?_
      refine k_bipush (pc := 20) h dX10_runDigest_20 kc_bipush_60 ?_
      refine k_iload (pc := 22) h dX10_runDigest_22 3 rfl ?_
      obtain ⟨v6, s7, cv6, hf⟩ := ob2_s hf
      refine k_callV0 (pc := 24) h cv_RX10_327 (c_X10_runOf p3 (60 : Int32) v2 s3 v6 s7 cv6) rfl rfl rfl (st1 := [.int v6, .long ((31 : Int64) * v1)]) rfl ⟨rfl, rfl⟩ (rk hR (Nat.le_of_ble_eq_true rfl) (Nat.le_of_ble_eq_true rfl)) (Nat.le_of_ble_eq_true rfl) dX10_runDigest_24 ?_
      refine k_i2l (pc := 27) h dX10_runDigest_27 ?_
      refine k_ladd (pc := 28) h dX10_runDigest_28 ?_
      obtain ⟨v8, ev8, hf⟩ := lb_s hf
      refine k_topl ev8 ?_
      refine k_lstore (pc := 29) h dX10_runDigest_29 (nk hL (by decide)) (lv' := [(0, .ref 0), (3, .int p3), (4, .long v8), (6, .int v2)]) rfl ?_
      obtain ⟨v9, ev9, hf⟩ := lb_s hf
      refine k_iinc (pc := 31) h dX10_runDigest_31 3 rfl ((congrArg (_ + ·) kc_iconst_1).trans ev9.symm) (nk hL (by decide)) (lv' := [(0, .ref 0), (3, .int p3), (4, .long v8), (6, .int v9)]) rfl ?_
      refine k_goto (pc := 34) (tgt := 6) h dX10_runDigest_34 rfl ?_
      obtain rfl := so1 hf
      exact k_drop [0, 1, 2, 3] rfl kc6
  · refine k_lload (pc := 37) h dX10_runDigest_37 0 rfl ?_
    obtain ⟨rfl, rfl⟩ := so2 hf
    exact hret 39 _ dX10_runDigest_39 trivial
