set_option maxRecDepth 100000 in
set_option maxHeartbeats 8000000 in
theorem w_law (p90 : Nat) (p91 : Nat → Int32) (s0 : sh_S) (r : Int32) (s9x : sh_S) (hf : f_L_law p90 p91 s0 = some (r, s9x)) (G : sh_G) (h : sh_ok G code RL shL) (hL : gn G = 4) (hR : gR G = room_1) (hX : sh_X G p90 p91) (hret : ∀ (pc : Nat) (lv : List (Nat × Value)), decode code pc = .ok (.ireturn, 1) → (r = 0 ∨ r = 1) → sh_K G shL pc lv [.int r] s9x) : sh_K G shL 16 [(0, .ref 200), (1, .ref 73), (2, .ref 74)] [] s0 := by
  unfold f_L_law at hf
  refine k_iconst (pc := 16) h dL_law_16 kc_iconst_0 ?_
  refine k_istore_n (pc := 17) h dL_law_17 rfl (nk hL (by decide)) (lv' := [(0, .ref 200), (1, .ref 73), (2, .ref 74), (3, .int (0 : Int32))]) rfl ?_
  obtain ⟨ee, hl, hf⟩ := ob_s hf
  refine k_drop (lv' := [(0, .ref 200), (1, .ref 73), (2, .ref 74), (3, .int (0 : Int32))]) [0, 1, 2, 3] rfl ?_
  refine lp_s (P := (fun q : Int32 × sh_S => sh_K G shL 18 [(0, .ref 200), (1, .ref 73), (2, .ref 74), (3, .int q.1)] [] q.2)) (Q := (Sum.elim (fun q : sh_S => sh_K G shL 1008 [] [] q) (fun q : Int32 × sh_S => q = (r, s9x)))) (s := ((0 : Int32), s0)) ?_ hl ?_
  · clear hf hl
    intro q rr hf kc18
    obtain ⟨v1, s2⟩ := q
    have hf : f_L_law_L18 p90 p91 v1 s2 = some rr := hf
    unfold f_L_law_L18 at hf
    refine k_iload_n (pc := 18) h dL_law_18 rfl 3 rfl ?_
    refine k_aload_n (pc := 19) h dL_law_19 rfl 0 rfl ?_
    refine k_slen (pc := 20) h hX dL_law_20 ?_
    refine k_bipush (pc := 21) h dL_law_21 kc_bipush_6 ?_
    refine k_isub (pc := 23) h dL_law_23 ?_
    refine k_icmp_gt (pc := 24) (tgt := 1008) h dL_law_24 rfl (fun hc => ?_) (fun hc => ?_)
    · have hf := it_p hc hf
      obtain rfl := so1 hf
      exact k_drop [] rfl kc18
    · have hf := it_n hc hf
      refine k_aload_n (pc := 27) h dL_law_27 rfl 0 rfl ?_
      refine k_iload_n (pc := 28) h dL_law_28 rfl 3 rfl ?_
      obtain ⟨g4, hf⟩ := gu_s hf
      refine k_sld (pc := 29) h hX g4 dL_law_29 ?_
      refine k_bipush (pc := 30) h dL_law_30 kc_bipush_31 ?_
      refine k_iand (pc := 32) h dL_law_32 ?_
      obtain ⟨v5, ev5, hf⟩ := lb_s hf
      refine k_top ev5 ?_
      by_cases hc0 : v5 = (0 : Int32)
      · have hf := it_p hc0 hf
        refine k_tabIn (pc := 33) (tgt := 164) h dL_law_33 (by rw [hc0]; decide) (by rw [hc0]; decide) (by rw [hc0]; rfl) rfl ?_
        refine k_aload_n (pc := 164) h dL_law_164 rfl 1 rfl ?_
        refine k_aload_n (pc := 165) h dL_law_165 rfl 0 rfl ?_
        refine k_iload_n (pc := 166) h dL_law_166 rfl 3 rfl ?_
        refine k_iconst (pc := 167) h dL_law_167 kc_iconst_1 ?_
        refine k_iadd (pc := 168) h dL_law_168 ?_
        obtain ⟨g6, hf⟩ := gu_s hf
        refine k_sld (pc := 169) h hX g6 dL_law_169 ?_
        refine k_aload_n (pc := 170) h dL_law_170 rfl 0 rfl ?_
        refine k_iload_n (pc := 171) h dL_law_171 rfl 3 rfl ?_
        refine k_iconst (pc := 172) h dL_law_172 kc_iconst_2 ?_
        refine k_iadd (pc := 173) h dL_law_173 ?_
        obtain ⟨g7, hf⟩ := gu_s hf
        refine k_sld (pc := 174) h hX g7 dL_law_174 ?_
        refine k_aload_n (pc := 175) h dL_law_175 rfl 0 rfl ?_
        refine k_iload_n (pc := 176) h dL_law_176 rfl 3 rfl ?_
        refine k_iconst (pc := 177) h dL_law_177 kc_iconst_3 ?_
        refine k_iadd (pc := 178) h dL_law_178 ?_
        obtain ⟨g8, hf⟩ := gu_s hf
        refine k_sld (pc := 179) h hX g8 dL_law_179 ?_
        refine k_aload_n (pc := 180) h dL_law_180 rfl 0 rfl ?_
        refine k_iload_n (pc := 181) h dL_law_181 rfl 3 rfl ?_
        refine k_iconst (pc := 182) h dL_law_182 kc_iconst_4 ?_
        refine k_iadd (pc := 183) h dL_law_183 ?_
        obtain ⟨g9, hf⟩ := gu_s hf
        refine k_sld (pc := 184) h hX g9 dL_law_184 ?_
        obtain ⟨v10, s11, cv10, hf⟩ := ob2_s hf
        obtain ⟨s12, es12, hf⟩ := lb_s hf
        refine k_callVe (pc := 185) (em := em_XL) h cv_RL_13 (c_X9_add (p91 (ix (v1 + (1 : Int32)))) (p91 (ix (v1 + (2 : Int32)))) (p91 (ix (v1 + (3 : Int32)))) (p91 (ix (v1 + (4 : Int32)))) (rs em_XL s2) v10 s11 cv10) emb_X_L rfl rfl rfl (st1 := [.int v10]) rfl ⟨rfl, rfl⟩ (rk hR (Nat.le_of_ble_eq_true rfl) (Nat.le_of_ble_eq_true rfl)) (Nat.le_of_ble_eq_true rfl) dL_law_185 es12 ?_
        refine k_aload_n (pc := 188) h dL_law_188 rfl 2 rfl ?_
        refine k_aload_n (pc := 189) h dL_law_189 rfl 0 rfl ?_
        refine k_iload_n (pc := 190) h dL_law_190 rfl 3 rfl ?_
        refine k_iconst (pc := 191) h dL_law_191 kc_iconst_1 ?_
        refine k_iadd (pc := 192) h dL_law_192 ?_
        obtain ⟨g13, hf⟩ := gu_s hf
        refine k_sld (pc := 193) h hX g13 dL_law_193 ?_
        refine k_aload_n (pc := 194) h dL_law_194 rfl 0 rfl ?_
        refine k_iload_n (pc := 195) h dL_law_195 rfl 3 rfl ?_
        refine k_iconst (pc := 196) h dL_law_196 kc_iconst_2 ?_
        refine k_iadd (pc := 197) h dL_law_197 ?_
        obtain ⟨g14, hf⟩ := gu_s hf
        refine k_sld (pc := 198) h hX g14 dL_law_198 ?_
        refine k_aload_n (pc := 199) h dL_law_199 rfl 0 rfl ?_
        refine k_iload_n (pc := 200) h dL_law_200 rfl 3 rfl ?_
        refine k_iconst (pc := 201) h dL_law_201 kc_iconst_3 ?_
        refine k_iadd (pc := 202) h dL_law_202 ?_
        obtain ⟨g15, hf⟩ := gu_s hf
        refine k_sld (pc := 203) h hX g15 dL_law_203 ?_
        refine k_aload_n (pc := 204) h dL_law_204 rfl 0 rfl ?_
        refine k_iload_n (pc := 205) h dL_law_205 rfl 3 rfl ?_
        refine k_iconst (pc := 206) h dL_law_206 kc_iconst_4 ?_
        refine k_iadd (pc := 207) h dL_law_207 ?_
        obtain ⟨g16, hf⟩ := gu_s hf
        refine k_sld (pc := 208) h hX g16 dL_law_208 ?_
        obtain ⟨v17, s18, cv17, hf⟩ := ob2_s hf
        obtain ⟨s19, es19, hf⟩ := lb_s hf
        refine k_callVe (pc := 209) (em := em_ML) h cv_RL_17 (c_X10_add (p91 (ix (v1 + (1 : Int32)))) (p91 (ix (v1 + (2 : Int32)))) (p91 (ix (v1 + (3 : Int32)))) (p91 (ix (v1 + (4 : Int32)))) (rs em_ML s12) v17 s18 cv17) emb_M_L rfl rfl rfl (st1 := [.int v17, .int v10]) rfl ⟨rfl, rfl⟩ (rk hR (Nat.le_of_ble_eq_true rfl) (Nat.le_of_ble_eq_true rfl)) (Nat.le_of_ble_eq_true rfl) dL_law_209 es19 ?_
        refine k_icmp_eq (pc := 212) (tgt := 1002) h dL_law_212 rfl (fun hc => ?_) (fun hc => ?_)
        · have hf := it_p hc hf
          obtain ⟨v20, ev20, hf⟩ := lb_s hf
          refine k_iinc (pc := 1002) h dL_law_1002 3 rfl ((congrArg (_ + ·) kc_iconst_6).trans ev20.symm) (nk hL (by decide)) (lv' := [(0, .ref 200), (1, .ref 73), (2, .ref 74), (3, .int v20)]) rfl ?_
          refine k_goto (pc := 1005) (tgt := 18) h dL_law_1005 rfl ?_
          obtain rfl := so1 hf
          exact k_drop [0, 1, 2, 3] rfl kc18
        · have hf := it_n hc hf
          refine k_iconst (pc := 215) h dL_law_215 kc_iconst_0 ?_
          obtain rfl := so1 hf
          obtain ⟨rfl, rfl⟩ := sp2 kc18
          exact hret 216 _ dL_law_216 (Or.inl rfl)
      have hf := it_n hc0 hf
      by_cases hc1 : v5 = (1 : Int32)
      · have hf := it_p hc1 hf
        refine k_tabIn (pc := 33) (tgt := 217) h dL_law_33 (by rw [hc1]; decide) (by rw [hc1]; decide) (by rw [hc1]; rfl) rfl ?_
        refine k_aload_n (pc := 217) h dL_law_217 rfl 1 rfl ?_
        refine k_aload_n (pc := 218) h dL_law_218 rfl 0 rfl ?_
        refine k_iload_n (pc := 219) h dL_law_219 rfl 3 rfl ?_
        refine k_iconst (pc := 220) h dL_law_220 kc_iconst_1 ?_
        refine k_iadd (pc := 221) h dL_law_221 ?_
        obtain ⟨g21, hf⟩ := gu_s hf
        refine k_sld (pc := 222) h hX g21 dL_law_222 ?_
        refine k_aload_n (pc := 223) h dL_law_223 rfl 0 rfl ?_
        refine k_iload_n (pc := 224) h dL_law_224 rfl 3 rfl ?_
        refine k_iconst (pc := 225) h dL_law_225 kc_iconst_2 ?_
        refine k_iadd (pc := 226) h dL_law_226 ?_
        obtain ⟨g22, hf⟩ := gu_s hf
        refine k_sld (pc := 227) h hX g22 dL_law_227 ?_
        refine k_aload_n (pc := 228) h dL_law_228 rfl 0 rfl ?_
        refine k_iload_n (pc := 229) h dL_law_229 rfl 3 rfl ?_
        refine k_iconst (pc := 230) h dL_law_230 kc_iconst_3 ?_
        refine k_iadd (pc := 231) h dL_law_231 ?_
        obtain ⟨g23, hf⟩ := gu_s hf
        refine k_sld (pc := 232) h hX g23 dL_law_232 ?_
        refine k_aload_n (pc := 233) h dL_law_233 rfl 0 rfl ?_
        refine k_iload_n (pc := 234) h dL_law_234 rfl 3 rfl ?_
        refine k_iconst (pc := 235) h dL_law_235 kc_iconst_4 ?_
        refine k_iadd (pc := 236) h dL_law_236 ?_
        obtain ⟨g24, hf⟩ := gu_s hf
        refine k_sld (pc := 237) h hX g24 dL_law_237 ?_
        refine k_aload_n (pc := 238) h dL_law_238 rfl 0 rfl ?_
        refine k_iload_n (pc := 239) h dL_law_239 rfl 3 rfl ?_
        refine k_iconst (pc := 240) h dL_law_240 kc_iconst_5 ?_
        refine k_iadd (pc := 241) h dL_law_241 ?_
        obtain ⟨g25, hf⟩ := gu_s hf
        refine k_sld (pc := 242) h hX g25 dL_law_242 ?_
        obtain ⟨v26, s27, cv26, hf⟩ := ob2_s hf
        obtain ⟨s28, es28, hf⟩ := lb_s hf
        refine k_callVe (pc := 243) (em := em_XL) h cv_RL_18 (c_X9_alter (p91 (ix (v1 + (1 : Int32)))) (p91 (ix (v1 + (2 : Int32)))) (p91 (ix (v1 + (3 : Int32)))) (p91 (ix (v1 + (4 : Int32)))) (p91 (ix (v1 + (5 : Int32)))) (rs em_XL s2) v26 s27 cv26) emb_X_L rfl rfl rfl (st1 := [.int v26]) rfl ⟨rfl, rfl⟩ (rk hR (Nat.le_of_ble_eq_true rfl) (Nat.le_of_ble_eq_true rfl)) (Nat.le_of_ble_eq_true rfl) dL_law_243 es28 ?_
        refine k_aload_n (pc := 246) h dL_law_246 rfl 2 rfl ?_
        refine k_aload_n (pc := 247) h dL_law_247 rfl 0 rfl ?_
        refine k_iload_n (pc := 248) h dL_law_248 rfl 3 rfl ?_
        refine k_iconst (pc := 249) h dL_law_249 kc_iconst_1 ?_
        refine k_iadd (pc := 250) h dL_law_250 ?_
        obtain ⟨g29, hf⟩ := gu_s hf
        refine k_sld (pc := 251) h hX g29 dL_law_251 ?_
        refine k_aload_n (pc := 252) h dL_law_252 rfl 0 rfl ?_
        refine k_iload_n (pc := 253) h dL_law_253 rfl 3 rfl ?_
        refine k_iconst (pc := 254) h dL_law_254 kc_iconst_2 ?_
        refine k_iadd (pc := 255) h dL_law_255 ?_
        obtain ⟨g30, hf⟩ := gu_s hf
        refine k_sld (pc := 256) h hX g30 dL_law_256 ?_
        refine k_aload_n (pc := 257) h dL_law_257 rfl 0 rfl ?_
        refine k_iload_n (pc := 258) h dL_law_258 rfl 3 rfl ?_
        refine k_iconst (pc := 259) h dL_law_259 kc_iconst_3 ?_
        refine k_iadd (pc := 260) h dL_law_260 ?_
        obtain ⟨g31, hf⟩ := gu_s hf
        refine k_sld (pc := 261) h hX g31 dL_law_261 ?_
        refine k_aload_n (pc := 262) h dL_law_262 rfl 0 rfl ?_
        refine k_iload_n (pc := 263) h dL_law_263 rfl 3 rfl ?_
        refine k_iconst (pc := 264) h dL_law_264 kc_iconst_4 ?_
        refine k_iadd (pc := 265) h dL_law_265 ?_
        obtain ⟨g32, hf⟩ := gu_s hf
        refine k_sld (pc := 266) h hX g32 dL_law_266 ?_
        refine k_aload_n (pc := 267) h dL_law_267 rfl 0 rfl ?_
        refine k_iload_n (pc := 268) h dL_law_268 rfl 3 rfl ?_
        refine k_iconst (pc := 269) h dL_law_269 kc_iconst_5 ?_
        refine k_iadd (pc := 270) h dL_law_270 ?_
        obtain ⟨g33, hf⟩ := gu_s hf
        refine k_sld (pc := 271) h hX g33 dL_law_271 ?_
        obtain ⟨v34, s35, cv34, hf⟩ := ob2_s hf
        obtain ⟨s36, es36, hf⟩ := lb_s hf
        refine k_callVe (pc := 272) (em := em_ML) h cv_RL_22 (c_X10_alter (p91 (ix (v1 + (1 : Int32)))) (p91 (ix (v1 + (2 : Int32)))) (p91 (ix (v1 + (3 : Int32)))) (p91 (ix (v1 + (4 : Int32)))) (p91 (ix (v1 + (5 : Int32)))) (rs em_ML s28) v34 s35 cv34) emb_M_L rfl rfl rfl (st1 := [.int v34, .int v26]) rfl ⟨rfl, rfl⟩ (rk hR (Nat.le_of_ble_eq_true rfl) (Nat.le_of_ble_eq_true rfl)) (Nat.le_of_ble_eq_true rfl) dL_law_272 es36 ?_
        refine k_icmp_eq (pc := 275) (tgt := 1002) h dL_law_275 rfl (fun hc => ?_) (fun hc => ?_)
        · have hf := it_p hc hf
          obtain ⟨v37, ev37, hf⟩ := lb_s hf
          refine k_iinc (pc := 1002) h dL_law_1002 3 rfl ((congrArg (_ + ·) kc_iconst_6).trans ev37.symm) (nk hL (by decide)) (lv' := [(0, .ref 200), (1, .ref 73), (2, .ref 74), (3, .int v37)]) rfl ?_
          refine k_goto (pc := 1005) (tgt := 18) h dL_law_1005 rfl ?_
          obtain rfl := so1 hf
          exact k_drop [0, 1, 2, 3] rfl kc18
        · have hf := it_n hc hf
          refine k_iconst (pc := 278) h dL_law_278 kc_iconst_0 ?_
          obtain rfl := so1 hf
          obtain ⟨rfl, rfl⟩ := sp2 kc18
          exact hret 279 _ dL_law_279 (Or.inl rfl)
      have hf := it_n hc1 hf
      by_cases hc2 : v5 = (2 : Int32)
      · have hf := it_p hc2 hf
        refine k_tabIn (pc := 33) (tgt := 280) h dL_law_33 (by rw [hc2]; decide) (by rw [hc2]; decide) (by rw [hc2]; rfl) rfl ?_
        refine k_aload_n (pc := 280) h dL_law_280 rfl 1 rfl ?_
        obtain ⟨v38, s39, cv38, hf⟩ := ob2_s hf
        obtain ⟨s40, es40, hf⟩ := lb_s hf
        refine k_callVe (pc := 281) (em := em_XL) h cv_RL_23 (c_X9_back  (rs em_XL s2) v38 s39 cv38) emb_X_L rfl rfl rfl (st1 := [.int v38]) rfl ⟨rfl, rfl⟩ (rk hR (Nat.le_of_ble_eq_true rfl) (Nat.le_of_ble_eq_true rfl)) (Nat.le_of_ble_eq_true rfl) dL_law_281 es40 ?_
        refine k_aload_n (pc := 284) h dL_law_284 rfl 2 rfl ?_
        obtain ⟨v41, s42, cv41, hf⟩ := ob2_s hf
        obtain ⟨s43, es43, hf⟩ := lb_s hf
        refine k_callVe (pc := 285) (em := em_ML) h cv_RL_27 (c_X10_back  (rs em_ML s40) v41 s42 cv41) emb_M_L rfl rfl rfl (st1 := [.int v41, .int v38]) rfl ⟨rfl, rfl⟩ (rk hR (Nat.le_of_ble_eq_true rfl) (Nat.le_of_ble_eq_true rfl)) (Nat.le_of_ble_eq_true rfl) dL_law_285 es43 ?_
        refine k_icmp_eq (pc := 288) (tgt := 1002) h dL_law_288 rfl (fun hc => ?_) (fun hc => ?_)
        · have hf := it_p hc hf
          obtain ⟨v44, ev44, hf⟩ := lb_s hf
          refine k_iinc (pc := 1002) h dL_law_1002 3 rfl ((congrArg (_ + ·) kc_iconst_6).trans ev44.symm) (nk hL (by decide)) (lv' := [(0, .ref 200), (1, .ref 73), (2, .ref 74), (3, .int v44)]) rfl ?_
          refine k_goto (pc := 1005) (tgt := 18) h dL_law_1005 rfl ?_
          obtain rfl := so1 hf
          exact k_drop [0, 1, 2, 3] rfl kc18
        · have hf := it_n hc hf
          refine k_iconst (pc := 291) h dL_law_291 kc_iconst_0 ?_
          obtain rfl := so1 hf
          obtain ⟨rfl, rfl⟩ := sp2 kc18
          exact hret 292 _ dL_law_292 (Or.inl rfl)
      have hf := it_n hc2 hf
      by_cases hc3 : v5 = (3 : Int32)
      · have hf := it_p hc3 hf
        refine k_tabIn (pc := 33) (tgt := 293) h dL_law_33 (by rw [hc3]; decide) (by rw [hc3]; decide) (by rw [hc3]; rfl) rfl ?_
        refine k_aload_n (pc := 293) h dL_law_293 rfl 1 rfl ?_
        obtain ⟨v45, s46, cv45, hf⟩ := ob2_s hf
        obtain ⟨s47, es47, hf⟩ := lb_s hf
        refine k_callVe (pc := 294) (em := em_XL) h cv_RL_28 (c_X9_clear  (rs em_XL s2) v45 s46 cv45) emb_X_L rfl rfl rfl (st1 := [.int v45]) rfl ⟨rfl, rfl⟩ (rk hR (Nat.le_of_ble_eq_true rfl) (Nat.le_of_ble_eq_true rfl)) (Nat.le_of_ble_eq_true rfl) dL_law_294 es47 ?_
        refine k_aload_n (pc := 297) h dL_law_297 rfl 2 rfl ?_
        obtain ⟨v48, s49, cv48, hf⟩ := ob2_s hf
        obtain ⟨s50, es50, hf⟩ := lb_s hf
        refine k_callVe (pc := 298) (em := em_ML) h cv_RL_31 (c_X10_clear  (rs em_ML s47) v48 s49 cv48) emb_M_L rfl rfl rfl (st1 := [.int v48, .int v45]) rfl ⟨rfl, rfl⟩ (rk hR (Nat.le_of_ble_eq_true rfl) (Nat.le_of_ble_eq_true rfl)) (Nat.le_of_ble_eq_true rfl) dL_law_298 es50 ?_
        refine k_icmp_eq (pc := 301) (tgt := 1002) h dL_law_301 rfl (fun hc => ?_) (fun hc => ?_)
        · have hf := it_p hc hf
          obtain ⟨v51, ev51, hf⟩ := lb_s hf
          refine k_iinc (pc := 1002) h dL_law_1002 3 rfl ((congrArg (_ + ·) kc_iconst_6).trans ev51.symm) (nk hL (by decide)) (lv' := [(0, .ref 200), (1, .ref 73), (2, .ref 74), (3, .int v51)]) rfl ?_
          refine k_goto (pc := 1005) (tgt := 18) h dL_law_1005 rfl ?_
          obtain rfl := so1 hf
          exact k_drop [0, 1, 2, 3] rfl kc18
        · have hf := it_n hc hf
          refine k_iconst (pc := 304) h dL_law_304 kc_iconst_0 ?_
          obtain rfl := so1 hf
          obtain ⟨rfl, rfl⟩ := sp2 kc18
          exact hret 305 _ dL_law_305 (Or.inl rfl)
      have hf := it_n hc3 hf
      by_cases hc4 : v5 = (4 : Int32)
      · have hf := it_p hc4 hf
        refine k_tabIn (pc := 33) (tgt := 306) h dL_law_33 (by rw [hc4]; decide) (by rw [hc4]; decide) (by rw [hc4]; rfl) rfl ?_
        refine k_aload_n (pc := 306) h dL_law_306 rfl 1 rfl ?_
        refine k_aload_n (pc := 307) h dL_law_307 rfl 0 rfl ?_
        refine k_iload_n (pc := 308) h dL_law_308 rfl 3 rfl ?_
        refine k_iconst (pc := 309) h dL_law_309 kc_iconst_1 ?_
        refine k_iadd (pc := 310) h dL_law_310 ?_
        obtain ⟨g52, hf⟩ := gu_s hf
        refine k_sld (pc := 311) h hX g52 dL_law_311 ?_
        refine k_aload_n (pc := 312) h dL_law_312 rfl 0 rfl ?_
        refine k_iload_n (pc := 313) h dL_law_313 rfl 3 rfl ?_
        refine k_iconst (pc := 314) h dL_law_314 kc_iconst_2 ?_
        refine k_iadd (pc := 315) h dL_law_315 ?_
        obtain ⟨g53, hf⟩ := gu_s hf
        refine k_sld (pc := 316) h hX g53 dL_law_316 ?_
        obtain ⟨v54, cv54, hf⟩ := ob_s hf
        refine k_callVe (pc := 317) (em := em_XL) h cv_RL_32 (c_X9_code (p91 (ix (v1 + (1 : Int32)))) (p91 (ix (v1 + (2 : Int32)))) (rs em_XL s2) v54 cv54) emb_X_L rfl rfl rfl (st1 := [.int v54]) rfl ⟨rfl, rfl⟩ (rk hR (Nat.le_of_ble_eq_true rfl) (Nat.le_of_ble_eq_true rfl)) (Nat.le_of_ble_eq_true rfl) dL_law_317 (mg_rs em_XL s2) ?_
        refine k_aload_n (pc := 320) h dL_law_320 rfl 2 rfl ?_
        refine k_aload_n (pc := 321) h dL_law_321 rfl 0 rfl ?_
        refine k_iload_n (pc := 322) h dL_law_322 rfl 3 rfl ?_
        refine k_iconst (pc := 323) h dL_law_323 kc_iconst_1 ?_
        refine k_iadd (pc := 324) h dL_law_324 ?_
        obtain ⟨g55, hf⟩ := gu_s hf
        refine k_sld (pc := 325) h hX g55 dL_law_325 ?_
        refine k_aload_n (pc := 326) h dL_law_326 rfl 0 rfl ?_
        refine k_iload_n (pc := 327) h dL_law_327 rfl 3 rfl ?_
        refine k_iconst (pc := 328) h dL_law_328 kc_iconst_2 ?_
        refine k_iadd (pc := 329) h dL_law_329 ?_
        obtain ⟨g56, hf⟩ := gu_s hf
        refine k_sld (pc := 330) h hX g56 dL_law_330 ?_
        obtain ⟨v57, cv57, hf⟩ := ob_s hf
        refine k_callVe (pc := 331) (em := em_ML) h cv_RL_36 (c_X10_code (p91 (ix (v1 + (1 : Int32)))) (p91 (ix (v1 + (2 : Int32)))) (rs em_ML s2) v57 cv57) emb_M_L rfl rfl rfl (st1 := [.int v57, .int v54]) rfl ⟨rfl, rfl⟩ (rk hR (Nat.le_of_ble_eq_true rfl) (Nat.le_of_ble_eq_true rfl)) (Nat.le_of_ble_eq_true rfl) dL_law_331 (mg_rs em_ML s2) ?_
        refine k_icmp_eq (pc := 334) (tgt := 1002) h dL_law_334 rfl (fun hc => ?_) (fun hc => ?_)
        · have hf := it_p hc hf
          obtain ⟨v58, ev58, hf⟩ := lb_s hf
          refine k_iinc (pc := 1002) h dL_law_1002 3 rfl ((congrArg (_ + ·) kc_iconst_6).trans ev58.symm) (nk hL (by decide)) (lv' := [(0, .ref 200), (1, .ref 73), (2, .ref 74), (3, .int v58)]) rfl ?_
          refine k_goto (pc := 1005) (tgt := 18) h dL_law_1005 rfl ?_
          obtain rfl := so1 hf
          exact k_drop [0, 1, 2, 3] rfl kc18
        · have hf := it_n hc hf
          refine k_iconst (pc := 337) h dL_law_337 kc_iconst_0 ?_
          obtain rfl := so1 hf
          obtain ⟨rfl, rfl⟩ := sp2 kc18
          exact hret 338 _ dL_law_338 (Or.inl rfl)
      have hf := it_n hc4 hf
      by_cases hc5 : v5 = (5 : Int32)
      · have hf := it_p hc5 hf
        refine k_tabIn (pc := 33) (tgt := 339) h dL_law_33 (by rw [hc5]; decide) (by rw [hc5]; decide) (by rw [hc5]; rfl) rfl ?_
        refine k_aload_n (pc := 339) h dL_law_339 rfl 1 rfl ?_
        refine k_aload_n (pc := 340) h dL_law_340 rfl 0 rfl ?_
        refine k_iload_n (pc := 341) h dL_law_341 rfl 3 rfl ?_
        refine k_iconst (pc := 342) h dL_law_342 kc_iconst_1 ?_
        refine k_iadd (pc := 343) h dL_law_343 ?_
        obtain ⟨g59, hf⟩ := gu_s hf
        refine k_sld (pc := 344) h hX g59 dL_law_344 ?_
        obtain ⟨v60, s61, cv60, hf⟩ := ob2_s hf
        obtain ⟨s62, es62, hf⟩ := lb_s hf
        refine k_callVe (pc := 345) (em := em_XL) h cv_RL_37 (c_X9_read (p91 (ix (v1 + (1 : Int32)))) (rs em_XL s2) v60 s61 cv60) emb_X_L rfl rfl rfl (st1 := [.int v60]) rfl ⟨rfl, rfl⟩ (rk hR (Nat.le_of_ble_eq_true rfl) (Nat.le_of_ble_eq_true rfl)) (Nat.le_of_ble_eq_true rfl) dL_law_345 es62 ?_
        refine k_aload_n (pc := 348) h dL_law_348 rfl 2 rfl ?_
        refine k_aload_n (pc := 349) h dL_law_349 rfl 0 rfl ?_
        refine k_iload_n (pc := 350) h dL_law_350 rfl 3 rfl ?_
        refine k_iconst (pc := 351) h dL_law_351 kc_iconst_1 ?_
        refine k_iadd (pc := 352) h dL_law_352 ?_
        obtain ⟨g63, hf⟩ := gu_s hf
        refine k_sld (pc := 353) h hX g63 dL_law_353 ?_
        obtain ⟨v64, s65, cv64, hf⟩ := ob2_s hf
        obtain ⟨s66, es66, hf⟩ := lb_s hf
        refine k_callVe (pc := 354) (em := em_ML) h cv_RL_41 (c_X10_read (p91 (ix (v1 + (1 : Int32)))) (rs em_ML s62) v64 s65 cv64) emb_M_L rfl rfl rfl (st1 := [.int v64, .int v60]) rfl ⟨rfl, rfl⟩ (rk hR (Nat.le_of_ble_eq_true rfl) (Nat.le_of_ble_eq_true rfl)) (Nat.le_of_ble_eq_true rfl) dL_law_354 es66 ?_
        refine k_icmp_eq (pc := 357) (tgt := 1002) h dL_law_357 rfl (fun hc => ?_) (fun hc => ?_)
        · have hf := it_p hc hf
          obtain ⟨v67, ev67, hf⟩ := lb_s hf
          refine k_iinc (pc := 1002) h dL_law_1002 3 rfl ((congrArg (_ + ·) kc_iconst_6).trans ev67.symm) (nk hL (by decide)) (lv' := [(0, .ref 200), (1, .ref 73), (2, .ref 74), (3, .int v67)]) rfl ?_
          refine k_goto (pc := 1005) (tgt := 18) h dL_law_1005 rfl ?_
          obtain rfl := so1 hf
          exact k_drop [0, 1, 2, 3] rfl kc18
        · have hf := it_n hc hf
          refine k_iconst (pc := 360) h dL_law_360 kc_iconst_0 ?_
          obtain rfl := so1 hf
          obtain ⟨rfl, rfl⟩ := sp2 kc18
          exact hret 361 _ dL_law_361 (Or.inl rfl)
      have hf := it_n hc5 hf
      by_cases hc6 : v5 = (6 : Int32)
      · have hf := it_p hc6 hf
        refine k_tabIn (pc := 33) (tgt := 362) h dL_law_33 (by rw [hc6]; decide) (by rw [hc6]; decide) (by rw [hc6]; rfl) rfl ?_
        refine k_aload_n (pc := 362) h dL_law_362 rfl 1 rfl ?_
        refine k_aload_n (pc := 363) h dL_law_363 rfl 0 rfl ?_
        refine k_iload_n (pc := 364) h dL_law_364 rfl 3 rfl ?_
        refine k_iconst (pc := 365) h dL_law_365 kc_iconst_1 ?_
        refine k_iadd (pc := 366) h dL_law_366 ?_
        obtain ⟨g68, hf⟩ := gu_s hf
        refine k_sld (pc := 367) h hX g68 dL_law_367 ?_
        obtain ⟨v69, s70, cv69, hf⟩ := ob2_s hf
        obtain ⟨s71, es71, hf⟩ := lb_s hf
        refine k_callVe (pc := 368) (em := em_XL) h cv_RL_42 (c_X9_next (p91 (ix (v1 + (1 : Int32)))) (rs em_XL s2) v69 s70 cv69) emb_X_L rfl rfl rfl (st1 := [.int v69]) rfl ⟨rfl, rfl⟩ (rk hR (Nat.le_of_ble_eq_true rfl) (Nat.le_of_ble_eq_true rfl)) (Nat.le_of_ble_eq_true rfl) dL_law_368 es71 ?_
        refine k_aload_n (pc := 371) h dL_law_371 rfl 2 rfl ?_
        refine k_aload_n (pc := 372) h dL_law_372 rfl 0 rfl ?_
        refine k_iload_n (pc := 373) h dL_law_373 rfl 3 rfl ?_
        refine k_iconst (pc := 374) h dL_law_374 kc_iconst_1 ?_
        refine k_iadd (pc := 375) h dL_law_375 ?_
        obtain ⟨g72, hf⟩ := gu_s hf
        refine k_sld (pc := 376) h hX g72 dL_law_376 ?_
        obtain ⟨v73, cv73, hf⟩ := ob_s hf
        refine k_callVe (pc := 377) (em := em_ML) h cv_RL_45 (c_X10_next (p91 (ix (v1 + (1 : Int32)))) (rs em_ML s71) v73 cv73) emb_M_L rfl rfl rfl (st1 := [.int v73, .int v69]) rfl ⟨rfl, rfl⟩ (rk hR (Nat.le_of_ble_eq_true rfl) (Nat.le_of_ble_eq_true rfl)) (Nat.le_of_ble_eq_true rfl) dL_law_377 (mg_rs em_ML s71) ?_
        refine k_icmp_eq (pc := 380) (tgt := 1002) h dL_law_380 rfl (fun hc => ?_) (fun hc => ?_)
        · have hf := it_p hc hf
          obtain ⟨v74, ev74, hf⟩ := lb_s hf
          refine k_iinc (pc := 1002) h dL_law_1002 3 rfl ((congrArg (_ + ·) kc_iconst_6).trans ev74.symm) (nk hL (by decide)) (lv' := [(0, .ref 200), (1, .ref 73), (2, .ref 74), (3, .int v74)]) rfl ?_
          refine k_goto (pc := 1005) (tgt := 18) h dL_law_1005 rfl ?_
          obtain rfl := so1 hf
          exact k_drop [0, 1, 2, 3] rfl kc18
        · have hf := it_n hc hf
          refine k_iconst (pc := 383) h dL_law_383 kc_iconst_0 ?_
          obtain rfl := so1 hf
          obtain ⟨rfl, rfl⟩ := sp2 kc18
          exact hret 384 _ dL_law_384 (Or.inl rfl)
      have hf := it_n hc6 hf
      by_cases hc7 : v5 = (7 : Int32)
      · have hf := it_p hc7 hf
        refine k_tabIn (pc := 33) (tgt := 385) h dL_law_33 (by rw [hc7]; decide) (by rw [hc7]; decide) (by rw [hc7]; rfl) rfl ?_
        refine k_aload_n (pc := 385) h dL_law_385 rfl 1 rfl ?_
        obtain ⟨v75, s76, cv75, hf⟩ := ob2_s hf
        obtain ⟨s77, es77, hf⟩ := lb_s hf
        refine k_callVe (pc := 386) (em := em_XL) h cv_RL_46 (c_X9_reached  (rs em_XL s2) v75 s76 cv75) emb_X_L rfl rfl rfl (st1 := [.int v75]) rfl ⟨rfl, rfl⟩ (rk hR (Nat.le_of_ble_eq_true rfl) (Nat.le_of_ble_eq_true rfl)) (Nat.le_of_ble_eq_true rfl) dL_law_386 es77 ?_
        refine k_aload_n (pc := 389) h dL_law_389 rfl 2 rfl ?_
        obtain ⟨v78, s79, cv78, hf⟩ := ob2_s hf
        obtain ⟨s80, es80, hf⟩ := lb_s hf
        refine k_callVe (pc := 390) (em := em_ML) h cv_RL_49 (c_X10_reached  (rs em_ML s77) v78 s79 cv78) emb_M_L rfl rfl rfl (st1 := [.int v78, .int v75]) rfl ⟨rfl, rfl⟩ (rk hR (Nat.le_of_ble_eq_true rfl) (Nat.le_of_ble_eq_true rfl)) (Nat.le_of_ble_eq_true rfl) dL_law_390 es80 ?_
        refine k_icmp_eq (pc := 393) (tgt := 1002) h dL_law_393 rfl (fun hc => ?_) (fun hc => ?_)
        · have hf := it_p hc hf
          obtain ⟨v81, ev81, hf⟩ := lb_s hf
          refine k_iinc (pc := 1002) h dL_law_1002 3 rfl ((congrArg (_ + ·) kc_iconst_6).trans ev81.symm) (nk hL (by decide)) (lv' := [(0, .ref 200), (1, .ref 73), (2, .ref 74), (3, .int v81)]) rfl ?_
          refine k_goto (pc := 1005) (tgt := 18) h dL_law_1005 rfl ?_
          obtain rfl := so1 hf
          exact k_drop [0, 1, 2, 3] rfl kc18
        · have hf := it_n hc hf
          refine k_iconst (pc := 396) h dL_law_396 kc_iconst_0 ?_
          obtain rfl := so1 hf
          obtain ⟨rfl, rfl⟩ := sp2 kc18
          exact hret 397 _ dL_law_397 (Or.inl rfl)
      have hf := it_n hc7 hf
      by_cases hc8 : v5 = (8 : Int32)
      · have hf := it_p hc8 hf
        refine k_tabIn (pc := 33) (tgt := 398) h dL_law_33 (by rw [hc8]; decide) (by rw [hc8]; decide) (by rw [hc8]; rfl) rfl ?_
        refine k_aload_n (pc := 398) h dL_law_398 rfl 1 rfl ?_
        refine k_aload_n (pc := 399) h dL_law_399 rfl 0 rfl ?_
        refine k_iload_n (pc := 400) h dL_law_400 rfl 3 rfl ?_
        refine k_iconst (pc := 401) h dL_law_401 kc_iconst_1 ?_
        refine k_iadd (pc := 402) h dL_law_402 ?_
        obtain ⟨g82, hf⟩ := gu_s hf
        refine k_sld (pc := 403) h hX g82 dL_law_403 ?_
        obtain ⟨v83, s84, cv83, hf⟩ := ob2_s hf
        obtain ⟨s85, es85, hf⟩ := lb_s hf
        refine k_callVe (pc := 404) (em := em_XL) h cv_RL_50 (c_X9_live (p91 (ix (v1 + (1 : Int32)))) (rs em_XL s2) v83 s84 cv83) emb_X_L rfl rfl rfl (st1 := [.int v83]) rfl ⟨rfl, rfl⟩ (rk hR (Nat.le_of_ble_eq_true rfl) (Nat.le_of_ble_eq_true rfl)) (Nat.le_of_ble_eq_true rfl) dL_law_404 es85 ?_
        refine k_aload_n (pc := 407) h dL_law_407 rfl 2 rfl ?_
        refine k_aload_n (pc := 408) h dL_law_408 rfl 0 rfl ?_
        refine k_iload_n (pc := 409) h dL_law_409 rfl 3 rfl ?_
        refine k_iconst (pc := 410) h dL_law_410 kc_iconst_1 ?_
        refine k_iadd (pc := 411) h dL_law_411 ?_
        obtain ⟨g86, hf⟩ := gu_s hf
        refine k_sld (pc := 412) h hX g86 dL_law_412 ?_
        obtain ⟨v87, s88, cv87, hf⟩ := ob2_s hf
        obtain ⟨s89, es89, hf⟩ := lb_s hf
        refine k_callVe (pc := 413) (em := em_ML) h cv_RL_53 (c_X10_live (p91 (ix (v1 + (1 : Int32)))) (rs em_ML s85) v87 s88 cv87) emb_M_L rfl rfl rfl (st1 := [.int v87, .int v83]) rfl ⟨rfl, rfl⟩ (rk hR (Nat.le_of_ble_eq_true rfl) (Nat.le_of_ble_eq_true rfl)) (Nat.le_of_ble_eq_true rfl) dL_law_413 es89 ?_
        refine k_icmp_eq (pc := 416) (tgt := 1002) h dL_law_416 rfl (fun hc => ?_) (fun hc => ?_)
        · have hf := it_p hc hf
          obtain ⟨v90, ev90, hf⟩ := lb_s hf
          refine k_iinc (pc := 1002) h dL_law_1002 3 rfl ((congrArg (_ + ·) kc_iconst_6).trans ev90.symm) (nk hL (by decide)) (lv' := [(0, .ref 200), (1, .ref 73), (2, .ref 74), (3, .int v90)]) rfl ?_
          refine k_goto (pc := 1005) (tgt := 18) h dL_law_1005 rfl ?_
          obtain rfl := so1 hf
          exact k_drop [0, 1, 2, 3] rfl kc18
        · have hf := it_n hc hf
          refine k_iconst (pc := 419) h dL_law_419 kc_iconst_0 ?_
          obtain rfl := so1 hf
          obtain ⟨rfl, rfl⟩ := sp2 kc18
          exact hret 420 _ dL_law_420 (Or.inl rfl)
      have hf := it_n hc8 hf
      by_cases hc9 : v5 = (9 : Int32)
      · have hf := it_p hc9 hf
        refine k_tabIn (pc := 33) (tgt := 421) h dL_law_33 (by rw [hc9]; decide) (by rw [hc9]; decide) (by rw [hc9]; rfl) rfl ?_
        refine k_aload_n (pc := 421) h dL_law_421 rfl 1 rfl ?_
        refine k_aload_n (pc := 422) h dL_law_422 rfl 0 rfl ?_
        refine k_iload_n (pc := 423) h dL_law_423 rfl 3 rfl ?_
        refine k_iconst (pc := 424) h dL_law_424 kc_iconst_1 ?_
        refine k_iadd (pc := 425) h dL_law_425 ?_
        obtain ⟨g91, hf⟩ := gu_s hf
        refine k_sld (pc := 426) h hX g91 dL_law_426 ?_
        obtain ⟨v92, s93, cv92, hf⟩ := ob2_s hf
        obtain ⟨s94, es94, hf⟩ := lb_s hf
        refine k_callVe (pc := 427) (em := em_XL) h cv_RL_54 (c_X9_region (p91 (ix (v1 + (1 : Int32)))) (rs em_XL s2) v92 s93 cv92) emb_X_L rfl rfl rfl (st1 := [.int v92]) rfl ⟨rfl, rfl⟩ (rk hR (Nat.le_of_ble_eq_true rfl) (Nat.le_of_ble_eq_true rfl)) (Nat.le_of_ble_eq_true rfl) dL_law_427 es94 ?_
        refine k_aload_n (pc := 430) h dL_law_430 rfl 2 rfl ?_
        refine k_aload_n (pc := 431) h dL_law_431 rfl 0 rfl ?_
        refine k_iload_n (pc := 432) h dL_law_432 rfl 3 rfl ?_
        refine k_iconst (pc := 433) h dL_law_433 kc_iconst_1 ?_
        refine k_iadd (pc := 434) h dL_law_434 ?_
        obtain ⟨g95, hf⟩ := gu_s hf
        refine k_sld (pc := 435) h hX g95 dL_law_435 ?_
        obtain ⟨v96, s97, cv96, hf⟩ := ob2_s hf
        obtain ⟨s98, es98, hf⟩ := lb_s hf
        refine k_callVe (pc := 436) (em := em_ML) h cv_RL_57 (c_X10_region (p91 (ix (v1 + (1 : Int32)))) (rs em_ML s94) v96 s97 cv96) emb_M_L rfl rfl rfl (st1 := [.int v96, .int v92]) rfl ⟨rfl, rfl⟩ (rk hR (Nat.le_of_ble_eq_true rfl) (Nat.le_of_ble_eq_true rfl)) (Nat.le_of_ble_eq_true rfl) dL_law_436 es98 ?_
        refine k_icmp_eq (pc := 439) (tgt := 1002) h dL_law_439 rfl (fun hc => ?_) (fun hc => ?_)
        · have hf := it_p hc hf
          obtain ⟨v99, ev99, hf⟩ := lb_s hf
          refine k_iinc (pc := 1002) h dL_law_1002 3 rfl ((congrArg (_ + ·) kc_iconst_6).trans ev99.symm) (nk hL (by decide)) (lv' := [(0, .ref 200), (1, .ref 73), (2, .ref 74), (3, .int v99)]) rfl ?_
          refine k_goto (pc := 1005) (tgt := 18) h dL_law_1005 rfl ?_
          obtain rfl := so1 hf
          exact k_drop [0, 1, 2, 3] rfl kc18
        · have hf := it_n hc hf
          refine k_iconst (pc := 442) h dL_law_442 kc_iconst_0 ?_
          obtain rfl := so1 hf
          obtain ⟨rfl, rfl⟩ := sp2 kc18
          exact hret 443 _ dL_law_443 (Or.inl rfl)
      have hf := it_n hc9 hf
      by_cases hc10 : v5 = (10 : Int32)
      · have hf := it_p hc10 hf
        refine k_tabIn (pc := 33) (tgt := 444) h dL_law_33 (by rw [hc10]; decide) (by rw [hc10]; decide) (by rw [hc10]; rfl) rfl ?_
        refine k_aload_n (pc := 444) h dL_law_444 rfl 1 rfl ?_
        refine k_aload_n (pc := 445) h dL_law_445 rfl 0 rfl ?_
        refine k_iload_n (pc := 446) h dL_law_446 rfl 3 rfl ?_
        refine k_iconst (pc := 447) h dL_law_447 kc_iconst_1 ?_
        refine k_iadd (pc := 448) h dL_law_448 ?_
        obtain ⟨g100, hf⟩ := gu_s hf
        refine k_sld (pc := 449) h hX g100 dL_law_449 ?_
        refine k_aload_n (pc := 450) h dL_law_450 rfl 0 rfl ?_
        refine k_iload_n (pc := 451) h dL_law_451 rfl 3 rfl ?_
        refine k_iconst (pc := 452) h dL_law_452 kc_iconst_2 ?_
        refine k_iadd (pc := 453) h dL_law_453 ?_
        obtain ⟨g101, hf⟩ := gu_s hf
        refine k_sld (pc := 454) h hX g101 dL_law_454 ?_
        obtain ⟨v102, s103, cv102, hf⟩ := ob2_s hf
        obtain ⟨s104, es104, hf⟩ := lb_s hf
        refine k_callVe (pc := 455) (em := em_XL) h cv_RL_58 (c_X9_holds (p91 (ix (v1 + (1 : Int32)))) (p91 (ix (v1 + (2 : Int32)))) (rs em_XL s2) v102 s103 cv102) emb_X_L rfl rfl rfl (st1 := [.int v102]) rfl ⟨rfl, rfl⟩ (rk hR (Nat.le_of_ble_eq_true rfl) (Nat.le_of_ble_eq_true rfl)) (Nat.le_of_ble_eq_true rfl) dL_law_455 es104 ?_
        refine k_aload_n (pc := 458) h dL_law_458 rfl 2 rfl ?_
        refine k_aload_n (pc := 459) h dL_law_459 rfl 0 rfl ?_
        refine k_iload_n (pc := 460) h dL_law_460 rfl 3 rfl ?_
        refine k_iconst (pc := 461) h dL_law_461 kc_iconst_1 ?_
        refine k_iadd (pc := 462) h dL_law_462 ?_
        obtain ⟨g105, hf⟩ := gu_s hf
        refine k_sld (pc := 463) h hX g105 dL_law_463 ?_
        refine k_aload_n (pc := 464) h dL_law_464 rfl 0 rfl ?_
        refine k_iload_n (pc := 465) h dL_law_465 rfl 3 rfl ?_
        refine k_iconst (pc := 466) h dL_law_466 kc_iconst_2 ?_
        refine k_iadd (pc := 467) h dL_law_467 ?_
        obtain ⟨g106, hf⟩ := gu_s hf
        refine k_sld (pc := 468) h hX g106 dL_law_468 ?_
        obtain ⟨v107, s108, cv107, hf⟩ := ob2_s hf
        obtain ⟨s109, es109, hf⟩ := lb_s hf
        refine k_callVe (pc := 469) (em := em_ML) h cv_RL_61 (c_X10_holds (p91 (ix (v1 + (1 : Int32)))) (p91 (ix (v1 + (2 : Int32)))) (rs em_ML s104) v107 s108 cv107) emb_M_L rfl rfl rfl (st1 := [.int v107, .int v102]) rfl ⟨rfl, rfl⟩ (rk hR (Nat.le_of_ble_eq_true rfl) (Nat.le_of_ble_eq_true rfl)) (Nat.le_of_ble_eq_true rfl) dL_law_469 es109 ?_
        refine k_icmp_eq (pc := 472) (tgt := 1002) h dL_law_472 rfl (fun hc => ?_) (fun hc => ?_)
        · have hf := it_p hc hf
          obtain ⟨v110, ev110, hf⟩ := lb_s hf
          refine k_iinc (pc := 1002) h dL_law_1002 3 rfl ((congrArg (_ + ·) kc_iconst_6).trans ev110.symm) (nk hL (by decide)) (lv' := [(0, .ref 200), (1, .ref 73), (2, .ref 74), (3, .int v110)]) rfl ?_
          refine k_goto (pc := 1005) (tgt := 18) h dL_law_1005 rfl ?_
          obtain rfl := so1 hf
          exact k_drop [0, 1, 2, 3] rfl kc18
        · have hf := it_n hc hf
          refine k_iconst (pc := 475) h dL_law_475 kc_iconst_0 ?_
          obtain rfl := so1 hf
          obtain ⟨rfl, rfl⟩ := sp2 kc18
          exact hret 476 _ dL_law_476 (Or.inl rfl)
      have hf := it_n hc10 hf
      by_cases hc11 : v5 = (11 : Int32)
      · have hf := it_p hc11 hf
        refine k_tabIn (pc := 33) (tgt := 477) h dL_law_33 (by rw [hc11]; decide) (by rw [hc11]; decide) (by rw [hc11]; rfl) rfl ?_
        refine k_aload_n (pc := 477) h dL_law_477 rfl 1 rfl ?_
        obtain ⟨v111, s112, cv111, hf⟩ := ob2_s hf
        obtain ⟨s113, es113, hf⟩ := lb_s hf
        refine k_callVe (pc := 478) (em := em_XL) h cv_RL_62 (c_X9_loans  (rs em_XL s2) v111 s112 cv111) emb_X_L rfl rfl rfl (st1 := [.int v111]) rfl ⟨rfl, rfl⟩ (rk hR (Nat.le_of_ble_eq_true rfl) (Nat.le_of_ble_eq_true rfl)) (Nat.le_of_ble_eq_true rfl) dL_law_478 es113 ?_
        refine k_aload_n (pc := 481) h dL_law_481 rfl 2 rfl ?_
        obtain ⟨v114, s115, cv114, hf⟩ := ob2_s hf
        obtain ⟨s116, es116, hf⟩ := lb_s hf
        refine k_callVe (pc := 482) (em := em_ML) h cv_RL_65 (c_X10_loans  (rs em_ML s113) v114 s115 cv114) emb_M_L rfl rfl rfl (st1 := [.int v114, .int v111]) rfl ⟨rfl, rfl⟩ (rk hR (Nat.le_of_ble_eq_true rfl) (Nat.le_of_ble_eq_true rfl)) (Nat.le_of_ble_eq_true rfl) dL_law_482 es116 ?_
        refine k_icmp_eq (pc := 485) (tgt := 1002) h dL_law_485 rfl (fun hc => ?_) (fun hc => ?_)
        · have hf := it_p hc hf
          obtain ⟨v117, ev117, hf⟩ := lb_s hf
          refine k_iinc (pc := 1002) h dL_law_1002 3 rfl ((congrArg (_ + ·) kc_iconst_6).trans ev117.symm) (nk hL (by decide)) (lv' := [(0, .ref 200), (1, .ref 73), (2, .ref 74), (3, .int v117)]) rfl ?_
          refine k_goto (pc := 1005) (tgt := 18) h dL_law_1005 rfl ?_
          obtain rfl := so1 hf
          exact k_drop [0, 1, 2, 3] rfl kc18
        · have hf := it_n hc hf
          refine k_iconst (pc := 488) h dL_law_488 kc_iconst_0 ?_
          obtain rfl := so1 hf
          obtain ⟨rfl, rfl⟩ := sp2 kc18
          exact hret 489 _ dL_law_489 (Or.inl rfl)
      have hf := it_n hc11 hf
      by_cases hc12 : v5 = (12 : Int32)
      · have hf := it_p hc12 hf
        refine k_tabIn (pc := 33) (tgt := 490) h dL_law_33 (by rw [hc12]; decide) (by rw [hc12]; decide) (by rw [hc12]; rfl) rfl ?_
        refine k_aload_n (pc := 490) h dL_law_490 rfl 1 rfl ?_
        refine k_aload_n (pc := 491) h dL_law_491 rfl 0 rfl ?_
        refine k_iload_n (pc := 492) h dL_law_492 rfl 3 rfl ?_
        refine k_iconst (pc := 493) h dL_law_493 kc_iconst_1 ?_
        refine k_iadd (pc := 494) h dL_law_494 ?_
        obtain ⟨g118, hf⟩ := gu_s hf
        refine k_sld (pc := 495) h hX g118 dL_law_495 ?_
        obtain ⟨v119, s120, cv119, hf⟩ := ob2_s hf
        obtain ⟨s121, es121, hf⟩ := lb_s hf
        refine k_callVe (pc := 496) (em := em_XL) h cv_RL_66 (c_X9_scope (p91 (ix (v1 + (1 : Int32)))) (rs em_XL s2) v119 s120 cv119) emb_X_L rfl rfl rfl (st1 := [.int v119]) rfl ⟨rfl, rfl⟩ (rk hR (Nat.le_of_ble_eq_true rfl) (Nat.le_of_ble_eq_true rfl)) (Nat.le_of_ble_eq_true rfl) dL_law_496 es121 ?_
        refine k_aload_n (pc := 499) h dL_law_499 rfl 2 rfl ?_
        refine k_aload_n (pc := 500) h dL_law_500 rfl 0 rfl ?_
        refine k_iload_n (pc := 501) h dL_law_501 rfl 3 rfl ?_
        refine k_iconst (pc := 502) h dL_law_502 kc_iconst_1 ?_
        refine k_iadd (pc := 503) h dL_law_503 ?_
        obtain ⟨g122, hf⟩ := gu_s hf
        refine k_sld (pc := 504) h hX g122 dL_law_504 ?_
        obtain ⟨v123, s124, cv123, hf⟩ := ob2_s hf
        obtain ⟨s125, es125, hf⟩ := lb_s hf
        refine k_callVe (pc := 505) (em := em_ML) h cv_RL_69 (c_X10_scope (p91 (ix (v1 + (1 : Int32)))) (rs em_ML s121) v123 s124 cv123) emb_M_L rfl rfl rfl (st1 := [.int v123, .int v119]) rfl ⟨rfl, rfl⟩ (rk hR (Nat.le_of_ble_eq_true rfl) (Nat.le_of_ble_eq_true rfl)) (Nat.le_of_ble_eq_true rfl) dL_law_505 es125 ?_
        refine k_icmp_eq (pc := 508) (tgt := 1002) h dL_law_508 rfl (fun hc => ?_) (fun hc => ?_)
        · have hf := it_p hc hf
          obtain ⟨v126, ev126, hf⟩ := lb_s hf
          refine k_iinc (pc := 1002) h dL_law_1002 3 rfl ((congrArg (_ + ·) kc_iconst_6).trans ev126.symm) (nk hL (by decide)) (lv' := [(0, .ref 200), (1, .ref 73), (2, .ref 74), (3, .int v126)]) rfl ?_
          refine k_goto (pc := 1005) (tgt := 18) h dL_law_1005 rfl ?_
          obtain rfl := so1 hf
          exact k_drop [0, 1, 2, 3] rfl kc18
        · have hf := it_n hc hf
          refine k_iconst (pc := 511) h dL_law_511 kc_iconst_0 ?_
          obtain rfl := so1 hf
          obtain ⟨rfl, rfl⟩ := sp2 kc18
          exact hret 512 _ dL_law_512 (Or.inl rfl)
      have hf := it_n hc12 hf
      by_cases hc13 : v5 = (13 : Int32)
      · have hf := it_p hc13 hf
        refine k_tabIn (pc := 33) (tgt := 513) h dL_law_33 (by rw [hc13]; decide) (by rw [hc13]; decide) (by rw [hc13]; rfl) rfl ?_
        refine k_aload_n (pc := 513) h dL_law_513 rfl 1 rfl ?_
        refine k_aload_n (pc := 514) h dL_law_514 rfl 0 rfl ?_
        refine k_iload_n (pc := 515) h dL_law_515 rfl 3 rfl ?_
        refine k_iconst (pc := 516) h dL_law_516 kc_iconst_1 ?_
        refine k_iadd (pc := 517) h dL_law_517 ?_
        obtain ⟨g127, hf⟩ := gu_s hf
        refine k_sld (pc := 518) h hX g127 dL_law_518 ?_
        obtain ⟨v128, s129, cv128, hf⟩ := ob2_s hf
        obtain ⟨s130, es130, hf⟩ := lb_s hf
        refine k_callVe (pc := 519) (em := em_XL) h cv_RL_70 (c_X9_active (p91 (ix (v1 + (1 : Int32)))) (rs em_XL s2) v128 s129 cv128) emb_X_L rfl rfl rfl (st1 := [.int v128]) rfl ⟨rfl, rfl⟩ (rk hR (Nat.le_of_ble_eq_true rfl) (Nat.le_of_ble_eq_true rfl)) (Nat.le_of_ble_eq_true rfl) dL_law_519 es130 ?_
        refine k_aload_n (pc := 522) h dL_law_522 rfl 2 rfl ?_
        refine k_aload_n (pc := 523) h dL_law_523 rfl 0 rfl ?_
        refine k_iload_n (pc := 524) h dL_law_524 rfl 3 rfl ?_
        refine k_iconst (pc := 525) h dL_law_525 kc_iconst_1 ?_
        refine k_iadd (pc := 526) h dL_law_526 ?_
        obtain ⟨g131, hf⟩ := gu_s hf
        refine k_sld (pc := 527) h hX g131 dL_law_527 ?_
        obtain ⟨v132, s133, cv132, hf⟩ := ob2_s hf
        obtain ⟨s134, es134, hf⟩ := lb_s hf
        refine k_callVe (pc := 528) (em := em_ML) h cv_RL_73 (c_X10_active (p91 (ix (v1 + (1 : Int32)))) (rs em_ML s130) v132 s133 cv132) emb_M_L rfl rfl rfl (st1 := [.int v132, .int v128]) rfl ⟨rfl, rfl⟩ (rk hR (Nat.le_of_ble_eq_true rfl) (Nat.le_of_ble_eq_true rfl)) (Nat.le_of_ble_eq_true rfl) dL_law_528 es134 ?_
        refine k_icmp_eq (pc := 531) (tgt := 1002) h dL_law_531 rfl (fun hc => ?_) (fun hc => ?_)
        · have hf := it_p hc hf
          obtain ⟨v135, ev135, hf⟩ := lb_s hf
          refine k_iinc (pc := 1002) h dL_law_1002 3 rfl ((congrArg (_ + ·) kc_iconst_6).trans ev135.symm) (nk hL (by decide)) (lv' := [(0, .ref 200), (1, .ref 73), (2, .ref 74), (3, .int v135)]) rfl ?_
          refine k_goto (pc := 1005) (tgt := 18) h dL_law_1005 rfl ?_
          obtain rfl := so1 hf
          exact k_drop [0, 1, 2, 3] rfl kc18
        · have hf := it_n hc hf
          refine k_iconst (pc := 534) h dL_law_534 kc_iconst_0 ?_
          obtain rfl := so1 hf
          obtain ⟨rfl, rfl⟩ := sp2 kc18
          exact hret 535 _ dL_law_535 (Or.inl rfl)
      have hf := it_n hc13 hf
      by_cases hc14 : v5 = (14 : Int32)
      · have hf := it_p hc14 hf
        refine k_tabIn (pc := 33) (tgt := 536) h dL_law_33 (by rw [hc14]; decide) (by rw [hc14]; decide) (by rw [hc14]; rfl) rfl ?_
        refine k_aload_n (pc := 536) h dL_law_536 rfl 1 rfl ?_
        refine k_aload_n (pc := 537) h dL_law_537 rfl 0 rfl ?_
        refine k_iload_n (pc := 538) h dL_law_538 rfl 3 rfl ?_
        refine k_iconst (pc := 539) h dL_law_539 kc_iconst_1 ?_
        refine k_iadd (pc := 540) h dL_law_540 ?_
        obtain ⟨g136, hf⟩ := gu_s hf
        refine k_sld (pc := 541) h hX g136 dL_law_541 ?_
        obtain ⟨v137, s138, cv137, hf⟩ := ob2_s hf
        obtain ⟨s139, es139, hf⟩ := lb_s hf
        refine k_callVe (pc := 542) (em := em_XL) h cv_RL_74 (c_X9_bears (p91 (ix (v1 + (1 : Int32)))) (rs em_XL s2) v137 s138 cv137) emb_X_L rfl rfl rfl (st1 := [.int v137]) rfl ⟨rfl, rfl⟩ (rk hR (Nat.le_of_ble_eq_true rfl) (Nat.le_of_ble_eq_true rfl)) (Nat.le_of_ble_eq_true rfl) dL_law_542 es139 ?_
        refine k_aload_n (pc := 545) h dL_law_545 rfl 2 rfl ?_
        refine k_aload_n (pc := 546) h dL_law_546 rfl 0 rfl ?_
        refine k_iload_n (pc := 547) h dL_law_547 rfl 3 rfl ?_
        refine k_iconst (pc := 548) h dL_law_548 kc_iconst_1 ?_
        refine k_iadd (pc := 549) h dL_law_549 ?_
        obtain ⟨g140, hf⟩ := gu_s hf
        refine k_sld (pc := 550) h hX g140 dL_law_550 ?_
        obtain ⟨v141, s142, cv141, hf⟩ := ob2_s hf
        obtain ⟨s143, es143, hf⟩ := lb_s hf
        refine k_callVe (pc := 551) (em := em_ML) h cv_RL_77 (c_X10_bears (p91 (ix (v1 + (1 : Int32)))) (rs em_ML s139) v141 s142 cv141) emb_M_L rfl rfl rfl (st1 := [.int v141, .int v137]) rfl ⟨rfl, rfl⟩ (rk hR (Nat.le_of_ble_eq_true rfl) (Nat.le_of_ble_eq_true rfl)) (Nat.le_of_ble_eq_true rfl) dL_law_551 es143 ?_
        refine k_icmp_eq (pc := 554) (tgt := 1002) h dL_law_554 rfl (fun hc => ?_) (fun hc => ?_)
        · have hf := it_p hc hf
          obtain ⟨v144, ev144, hf⟩ := lb_s hf
          refine k_iinc (pc := 1002) h dL_law_1002 3 rfl ((congrArg (_ + ·) kc_iconst_6).trans ev144.symm) (nk hL (by decide)) (lv' := [(0, .ref 200), (1, .ref 73), (2, .ref 74), (3, .int v144)]) rfl ?_
          refine k_goto (pc := 1005) (tgt := 18) h dL_law_1005 rfl ?_
          obtain rfl := so1 hf
          exact k_drop [0, 1, 2, 3] rfl kc18
        · have hf := it_n hc hf
          refine k_iconst (pc := 557) h dL_law_557 kc_iconst_0 ?_
          obtain rfl := so1 hf
          obtain ⟨rfl, rfl⟩ := sp2 kc18
          exact hret 558 _ dL_law_558 (Or.inl rfl)
      have hf := it_n hc14 hf
      by_cases hc15 : v5 = (15 : Int32)
      · have hf := it_p hc15 hf
        refine k_tabIn (pc := 33) (tgt := 559) h dL_law_33 (by rw [hc15]; decide) (by rw [hc15]; decide) (by rw [hc15]; rfl) rfl ?_
        refine k_aload_n (pc := 559) h dL_law_559 rfl 1 rfl ?_
        obtain ⟨v145, s146, cv145, hf⟩ := ob2_s hf
        obtain ⟨s147, es147, hf⟩ := lb_s hf
        refine k_callVe (pc := 560) (em := em_XL) h cv_RL_78 (c_X9_errors  (rs em_XL s2) v145 s146 cv145) emb_X_L rfl rfl rfl (st1 := [.int v145]) rfl ⟨rfl, rfl⟩ (rk hR (Nat.le_of_ble_eq_true rfl) (Nat.le_of_ble_eq_true rfl)) (Nat.le_of_ble_eq_true rfl) dL_law_560 es147 ?_
        refine k_aload_n (pc := 563) h dL_law_563 rfl 2 rfl ?_
        obtain ⟨v148, s149, cv148, hf⟩ := ob2_s hf
        obtain ⟨s150, es150, hf⟩ := lb_s hf
        refine k_callVe (pc := 564) (em := em_ML) h cv_RL_81 (c_X10_errors  (rs em_ML s147) v148 s149 cv148) emb_M_L rfl rfl rfl (st1 := [.int v148, .int v145]) rfl ⟨rfl, rfl⟩ (rk hR (Nat.le_of_ble_eq_true rfl) (Nat.le_of_ble_eq_true rfl)) (Nat.le_of_ble_eq_true rfl) dL_law_564 es150 ?_
        refine k_icmp_eq (pc := 567) (tgt := 1002) h dL_law_567 rfl (fun hc => ?_) (fun hc => ?_)
        · have hf := it_p hc hf
          obtain ⟨v151, ev151, hf⟩ := lb_s hf
          refine k_iinc (pc := 1002) h dL_law_1002 3 rfl ((congrArg (_ + ·) kc_iconst_6).trans ev151.symm) (nk hL (by decide)) (lv' := [(0, .ref 200), (1, .ref 73), (2, .ref 74), (3, .int v151)]) rfl ?_
          refine k_goto (pc := 1005) (tgt := 18) h dL_law_1005 rfl ?_
          obtain rfl := so1 hf
          exact k_drop [0, 1, 2, 3] rfl kc18
        · have hf := it_n hc hf
          refine k_iconst (pc := 570) h dL_law_570 kc_iconst_0 ?_
          obtain rfl := so1 hf
          obtain ⟨rfl, rfl⟩ := sp2 kc18
          exact hret 571 _ dL_law_571 (Or.inl rfl)
      have hf := it_n hc15 hf
      by_cases hc16 : v5 = (16 : Int32)
      · have hf := it_p hc16 hf
        refine k_tabIn (pc := 33) (tgt := 572) h dL_law_33 (by rw [hc16]; decide) (by rw [hc16]; decide) (by rw [hc16]; rfl) rfl ?_
        refine k_aload_n (pc := 572) h dL_law_572 rfl 1 rfl ?_
        refine k_aload_n (pc := 573) h dL_law_573 rfl 0 rfl ?_
        refine k_iload_n (pc := 574) h dL_law_574 rfl 3 rfl ?_
        refine k_iconst (pc := 575) h dL_law_575 kc_iconst_1 ?_
        refine k_iadd (pc := 576) h dL_law_576 ?_
        obtain ⟨g152, hf⟩ := gu_s hf
        refine k_sld (pc := 577) h hX g152 dL_law_577 ?_
        refine k_aload_n (pc := 578) h dL_law_578 rfl 0 rfl ?_
        refine k_iload_n (pc := 579) h dL_law_579 rfl 3 rfl ?_
        refine k_iconst (pc := 580) h dL_law_580 kc_iconst_2 ?_
        refine k_iadd (pc := 581) h dL_law_581 ?_
        obtain ⟨g153, hf⟩ := gu_s hf
        refine k_sld (pc := 582) h hX g153 dL_law_582 ?_
        obtain ⟨v154, s155, cv154, hf⟩ := ob2_s hf
        obtain ⟨s156, es156, hf⟩ := lb_s hf
        refine k_callVe (pc := 583) (em := em_XL) h cv_RL_82 (c_X9_error (p91 (ix (v1 + (1 : Int32)))) (p91 (ix (v1 + (2 : Int32)))) (rs em_XL s2) v154 s155 cv154) emb_X_L rfl rfl rfl (st1 := [.int v154]) rfl ⟨rfl, rfl⟩ (rk hR (Nat.le_of_ble_eq_true rfl) (Nat.le_of_ble_eq_true rfl)) (Nat.le_of_ble_eq_true rfl) dL_law_583 es156 ?_
        refine k_aload_n (pc := 586) h dL_law_586 rfl 2 rfl ?_
        refine k_aload_n (pc := 587) h dL_law_587 rfl 0 rfl ?_
        refine k_iload_n (pc := 588) h dL_law_588 rfl 3 rfl ?_
        refine k_iconst (pc := 589) h dL_law_589 kc_iconst_1 ?_
        refine k_iadd (pc := 590) h dL_law_590 ?_
        obtain ⟨g157, hf⟩ := gu_s hf
        refine k_sld (pc := 591) h hX g157 dL_law_591 ?_
        refine k_aload_n (pc := 592) h dL_law_592 rfl 0 rfl ?_
        refine k_iload_n (pc := 593) h dL_law_593 rfl 3 rfl ?_
        refine k_iconst (pc := 594) h dL_law_594 kc_iconst_2 ?_
        refine k_iadd (pc := 595) h dL_law_595 ?_
        obtain ⟨g158, hf⟩ := gu_s hf
        refine k_sld (pc := 596) h hX g158 dL_law_596 ?_
        obtain ⟨v159, s160, cv159, hf⟩ := ob2_s hf
        obtain ⟨s161, es161, hf⟩ := lb_s hf
        refine k_callVe (pc := 597) (em := em_ML) h cv_RL_85 (c_X10_error (p91 (ix (v1 + (1 : Int32)))) (p91 (ix (v1 + (2 : Int32)))) (rs em_ML s156) v159 s160 cv159) emb_M_L rfl rfl rfl (st1 := [.int v159, .int v154]) rfl ⟨rfl, rfl⟩ (rk hR (Nat.le_of_ble_eq_true rfl) (Nat.le_of_ble_eq_true rfl)) (Nat.le_of_ble_eq_true rfl) dL_law_597 es161 ?_
        refine k_icmp_eq (pc := 600) (tgt := 1002) h dL_law_600 rfl (fun hc => ?_) (fun hc => ?_)
        · have hf := it_p hc hf
          obtain ⟨v162, ev162, hf⟩ := lb_s hf
          refine k_iinc (pc := 1002) h dL_law_1002 3 rfl ((congrArg (_ + ·) kc_iconst_6).trans ev162.symm) (nk hL (by decide)) (lv' := [(0, .ref 200), (1, .ref 73), (2, .ref 74), (3, .int v162)]) rfl ?_
          refine k_goto (pc := 1005) (tgt := 18) h dL_law_1005 rfl ?_
          obtain rfl := so1 hf
          exact k_drop [0, 1, 2, 3] rfl kc18
        · have hf := it_n hc hf
          refine k_iconst (pc := 603) h dL_law_603 kc_iconst_0 ?_
          obtain rfl := so1 hf
          obtain ⟨rfl, rfl⟩ := sp2 kc18
          exact hret 604 _ dL_law_604 (Or.inl rfl)
      have hf := it_n hc16 hf
      by_cases hc17 : v5 = (17 : Int32)
      · have hf := it_p hc17 hf
        refine k_tabIn (pc := 33) (tgt := 605) h dL_law_33 (by rw [hc17]; decide) (by rw [hc17]; decide) (by rw [hc17]; rfl) rfl ?_
        refine k_aload_n (pc := 605) h dL_law_605 rfl 1 rfl ?_
        refine k_aload_n (pc := 606) h dL_law_606 rfl 0 rfl ?_
        refine k_iload_n (pc := 607) h dL_law_607 rfl 3 rfl ?_
        refine k_iconst (pc := 608) h dL_law_608 kc_iconst_1 ?_
        refine k_iadd (pc := 609) h dL_law_609 ?_
        obtain ⟨g163, hf⟩ := gu_s hf
        refine k_sld (pc := 610) h hX g163 dL_law_610 ?_
        refine k_aload_n (pc := 611) h dL_law_611 rfl 0 rfl ?_
        refine k_iload_n (pc := 612) h dL_law_612 rfl 3 rfl ?_
        refine k_iconst (pc := 613) h dL_law_613 kc_iconst_2 ?_
        refine k_iadd (pc := 614) h dL_law_614 ?_
        obtain ⟨g164, hf⟩ := gu_s hf
        refine k_sld (pc := 615) h hX g164 dL_law_615 ?_
        obtain ⟨v165, s166, cv165, hf⟩ := ob2_s hf
        obtain ⟨s167, es167, hf⟩ := lb_s hf
        refine k_callVe (pc := 616) (em := em_XL) h cv_RL_86 (c_X9_witness (p91 (ix (v1 + (1 : Int32)))) (p91 (ix (v1 + (2 : Int32)))) (rs em_XL s2) v165 s166 cv165) emb_X_L rfl rfl rfl (st1 := [.int v165]) rfl ⟨rfl, rfl⟩ (rk hR (Nat.le_of_ble_eq_true rfl) (Nat.le_of_ble_eq_true rfl)) (Nat.le_of_ble_eq_true rfl) dL_law_616 es167 ?_
        refine k_aload_n (pc := 619) h dL_law_619 rfl 2 rfl ?_
        refine k_aload_n (pc := 620) h dL_law_620 rfl 0 rfl ?_
        refine k_iload_n (pc := 621) h dL_law_621 rfl 3 rfl ?_
        refine k_iconst (pc := 622) h dL_law_622 kc_iconst_1 ?_
        refine k_iadd (pc := 623) h dL_law_623 ?_
        obtain ⟨g168, hf⟩ := gu_s hf
        refine k_sld (pc := 624) h hX g168 dL_law_624 ?_
        refine k_aload_n (pc := 625) h dL_law_625 rfl 0 rfl ?_
        refine k_iload_n (pc := 626) h dL_law_626 rfl 3 rfl ?_
        refine k_iconst (pc := 627) h dL_law_627 kc_iconst_2 ?_
        refine k_iadd (pc := 628) h dL_law_628 ?_
        obtain ⟨g169, hf⟩ := gu_s hf
        refine k_sld (pc := 629) h hX g169 dL_law_629 ?_
        obtain ⟨v170, s171, cv170, hf⟩ := ob2_s hf
        obtain ⟨s172, es172, hf⟩ := lb_s hf
        refine k_callVe (pc := 630) (em := em_ML) h cv_RL_89 (c_X10_witness (p91 (ix (v1 + (1 : Int32)))) (p91 (ix (v1 + (2 : Int32)))) (rs em_ML s167) v170 s171 cv170) emb_M_L rfl rfl rfl (st1 := [.int v170, .int v165]) rfl ⟨rfl, rfl⟩ (rk hR (Nat.le_of_ble_eq_true rfl) (Nat.le_of_ble_eq_true rfl)) (Nat.le_of_ble_eq_true rfl) dL_law_630 es172 ?_
        refine k_icmp_eq (pc := 633) (tgt := 1002) h dL_law_633 rfl (fun hc => ?_) (fun hc => ?_)
        · have hf := it_p hc hf
          obtain ⟨v173, ev173, hf⟩ := lb_s hf
          refine k_iinc (pc := 1002) h dL_law_1002 3 rfl ((congrArg (_ + ·) kc_iconst_6).trans ev173.symm) (nk hL (by decide)) (lv' := [(0, .ref 200), (1, .ref 73), (2, .ref 74), (3, .int v173)]) rfl ?_
          refine k_goto (pc := 1005) (tgt := 18) h dL_law_1005 rfl ?_
          obtain rfl := so1 hf
          exact k_drop [0, 1, 2, 3] rfl kc18
        · have hf := it_n hc hf
          refine k_iconst (pc := 636) h dL_law_636 kc_iconst_0 ?_
          obtain rfl := so1 hf
          obtain ⟨rfl, rfl⟩ := sp2 kc18
          exact hret 637 _ dL_law_637 (Or.inl rfl)
      have hf := it_n hc17 hf
      by_cases hc18 : v5 = (18 : Int32)
      · have hf := it_p hc18 hf
        refine k_tabIn (pc := 33) (tgt := 638) h dL_law_33 (by rw [hc18]; decide) (by rw [hc18]; decide) (by rw [hc18]; rfl) rfl ?_
        refine k_aload_n (pc := 638) h dL_law_638 rfl 1 rfl ?_
        refine k_aload_n (pc := 639) h dL_law_639 rfl 0 rfl ?_
        refine k_iload_n (pc := 640) h dL_law_640 rfl 3 rfl ?_
        refine k_iconst (pc := 641) h dL_law_641 kc_iconst_1 ?_
        refine k_iadd (pc := 642) h dL_law_642 ?_
        obtain ⟨g174, hf⟩ := gu_s hf
        refine k_sld (pc := 643) h hX g174 dL_law_643 ?_
        obtain ⟨v175, s176, cv175, hf⟩ := ob2_s hf
        obtain ⟨s177, es177, hf⟩ := lb_s hf
        refine k_callVe (pc := 644) (em := em_XL) h cv_RL_90 (c_X9_mend (p91 (ix (v1 + (1 : Int32)))) (rs em_XL s2) v175 s176 cv175) emb_X_L rfl rfl rfl (st1 := [.int v175]) rfl ⟨rfl, rfl⟩ (rk hR (Nat.le_of_ble_eq_true rfl) (Nat.le_of_ble_eq_true rfl)) (Nat.le_of_ble_eq_true rfl) dL_law_644 es177 ?_
        refine k_aload_n (pc := 647) h dL_law_647 rfl 2 rfl ?_
        refine k_aload_n (pc := 648) h dL_law_648 rfl 0 rfl ?_
        refine k_iload_n (pc := 649) h dL_law_649 rfl 3 rfl ?_
        refine k_iconst (pc := 650) h dL_law_650 kc_iconst_1 ?_
        refine k_iadd (pc := 651) h dL_law_651 ?_
        obtain ⟨g178, hf⟩ := gu_s hf
        refine k_sld (pc := 652) h hX g178 dL_law_652 ?_
        obtain ⟨v179, s180, cv179, hf⟩ := ob2_s hf
        obtain ⟨s181, es181, hf⟩ := lb_s hf
        refine k_callVe (pc := 653) (em := em_ML) h cv_RL_93 (c_X10_mend (p91 (ix (v1 + (1 : Int32)))) (rs em_ML s177) v179 s180 cv179) emb_M_L rfl rfl rfl (st1 := [.int v179, .int v175]) rfl ⟨rfl, rfl⟩ (rk hR (Nat.le_of_ble_eq_true rfl) (Nat.le_of_ble_eq_true rfl)) (Nat.le_of_ble_eq_true rfl) dL_law_653 es181 ?_
        refine k_icmp_eq (pc := 656) (tgt := 1002) h dL_law_656 rfl (fun hc => ?_) (fun hc => ?_)
        · have hf := it_p hc hf
          obtain ⟨v182, ev182, hf⟩ := lb_s hf
          refine k_iinc (pc := 1002) h dL_law_1002 3 rfl ((congrArg (_ + ·) kc_iconst_6).trans ev182.symm) (nk hL (by decide)) (lv' := [(0, .ref 200), (1, .ref 73), (2, .ref 74), (3, .int v182)]) rfl ?_
          refine k_goto (pc := 1005) (tgt := 18) h dL_law_1005 rfl ?_
          obtain rfl := so1 hf
          exact k_drop [0, 1, 2, 3] rfl kc18
        · have hf := it_n hc hf
          refine k_iconst (pc := 659) h dL_law_659 kc_iconst_0 ?_
          obtain rfl := so1 hf
          obtain ⟨rfl, rfl⟩ := sp2 kc18
          exact hret 660 _ dL_law_660 (Or.inl rfl)
      have hf := it_n hc18 hf
      by_cases hc19 : v5 = (19 : Int32)
      · have hf := it_p hc19 hf
        refine k_tabIn (pc := 33) (tgt := 661) h dL_law_33 (by rw [hc19]; decide) (by rw [hc19]; decide) (by rw [hc19]; rfl) rfl ?_
        refine k_aload_n (pc := 661) h dL_law_661 rfl 1 rfl ?_
        obtain ⟨v183, s184, cv183, hf⟩ := ob2_s hf
        obtain ⟨s185, es185, hf⟩ := lb_s hf
        refine k_callVe (pc := 662) (em := em_XL) h cv_RL_94 (c_X9_soft  (rs em_XL s2) v183 s184 cv183) emb_X_L rfl rfl rfl (st1 := [.int v183]) rfl ⟨rfl, rfl⟩ (rk hR (Nat.le_of_ble_eq_true rfl) (Nat.le_of_ble_eq_true rfl)) (Nat.le_of_ble_eq_true rfl) dL_law_662 es185 ?_
        refine k_aload_n (pc := 665) h dL_law_665 rfl 2 rfl ?_
        obtain ⟨v186, s187, cv186, hf⟩ := ob2_s hf
        obtain ⟨s188, es188, hf⟩ := lb_s hf
        refine k_callVe (pc := 666) (em := em_ML) h cv_RL_97 (c_X10_soft  (rs em_ML s185) v186 s187 cv186) emb_M_L rfl rfl rfl (st1 := [.int v186, .int v183]) rfl ⟨rfl, rfl⟩ (rk hR (Nat.le_of_ble_eq_true rfl) (Nat.le_of_ble_eq_true rfl)) (Nat.le_of_ble_eq_true rfl) dL_law_666 es188 ?_
        refine k_icmp_eq (pc := 669) (tgt := 1002) h dL_law_669 rfl (fun hc => ?_) (fun hc => ?_)
        · have hf := it_p hc hf
          obtain ⟨v189, ev189, hf⟩ := lb_s hf
          refine k_iinc (pc := 1002) h dL_law_1002 3 rfl ((congrArg (_ + ·) kc_iconst_6).trans ev189.symm) (nk hL (by decide)) (lv' := [(0, .ref 200), (1, .ref 73), (2, .ref 74), (3, .int v189)]) rfl ?_
          refine k_goto (pc := 1005) (tgt := 18) h dL_law_1005 rfl ?_
          obtain rfl := so1 hf
          exact k_drop [0, 1, 2, 3] rfl kc18
        · have hf := it_n hc hf
          refine k_iconst (pc := 672) h dL_law_672 kc_iconst_0 ?_
          obtain rfl := so1 hf
          obtain ⟨rfl, rfl⟩ := sp2 kc18
          exact hret 673 _ dL_law_673 (Or.inl rfl)
      have hf := it_n hc19 hf
      by_cases hc20 : v5 = (20 : Int32)
      · have hf := it_p hc20 hf
        refine k_tabIn (pc := 33) (tgt := 674) h dL_law_33 (by rw [hc20]; decide) (by rw [hc20]; decide) (by rw [hc20]; rfl) rfl ?_
        refine k_aload_n (pc := 674) h dL_law_674 rfl 1 rfl ?_
        refine k_aload_n (pc := 675) h dL_law_675 rfl 0 rfl ?_
        refine k_iload_n (pc := 676) h dL_law_676 rfl 3 rfl ?_
        refine k_iconst (pc := 677) h dL_law_677 kc_iconst_1 ?_
        refine k_iadd (pc := 678) h dL_law_678 ?_
        obtain ⟨g190, hf⟩ := gu_s hf
        refine k_sld (pc := 679) h hX g190 dL_law_679 ?_
        refine k_aload_n (pc := 680) h dL_law_680 rfl 0 rfl ?_
        refine k_iload_n (pc := 681) h dL_law_681 rfl 3 rfl ?_
        refine k_iconst (pc := 682) h dL_law_682 kc_iconst_2 ?_
        refine k_iadd (pc := 683) h dL_law_683 ?_
        obtain ⟨g191, hf⟩ := gu_s hf
        refine k_sld (pc := 684) h hX g191 dL_law_684 ?_
        refine k_aload_n (pc := 685) h dL_law_685 rfl 0 rfl ?_
        refine k_iload_n (pc := 686) h dL_law_686 rfl 3 rfl ?_
        refine k_iconst (pc := 687) h dL_law_687 kc_iconst_3 ?_
        refine k_iadd (pc := 688) h dL_law_688 ?_
        obtain ⟨g192, hf⟩ := gu_s hf
        refine k_sld (pc := 689) h hX g192 dL_law_689 ?_
        obtain ⟨v193, s194, cv193, hf⟩ := ob2_s hf
        obtain ⟨s195, es195, hf⟩ := lb_s hf
        refine k_callVe (pc := 690) (em := em_XL) h cv_RL_98 (c_X9_run (p91 (ix (v1 + (1 : Int32)))) (p91 (ix (v1 + (2 : Int32)))) (p91 (ix (v1 + (3 : Int32)))) (rs em_XL s2) v193 s194 cv193) emb_X_L rfl rfl rfl (st1 := [.int v193]) rfl ⟨rfl, rfl⟩ (rk hR (Nat.le_of_ble_eq_true rfl) (Nat.le_of_ble_eq_true rfl)) (Nat.le_of_ble_eq_true rfl) dL_law_690 es195 ?_
        refine k_aload_n (pc := 693) h dL_law_693 rfl 2 rfl ?_
        refine k_aload_n (pc := 694) h dL_law_694 rfl 0 rfl ?_
        refine k_iload_n (pc := 695) h dL_law_695 rfl 3 rfl ?_
        refine k_iconst (pc := 696) h dL_law_696 kc_iconst_1 ?_
        refine k_iadd (pc := 697) h dL_law_697 ?_
        obtain ⟨g196, hf⟩ := gu_s hf
        refine k_sld (pc := 698) h hX g196 dL_law_698 ?_
        refine k_aload_n (pc := 699) h dL_law_699 rfl 0 rfl ?_
        refine k_iload_n (pc := 700) h dL_law_700 rfl 3 rfl ?_
        refine k_iconst (pc := 701) h dL_law_701 kc_iconst_2 ?_
        refine k_iadd (pc := 702) h dL_law_702 ?_
        obtain ⟨g197, hf⟩ := gu_s hf
        refine k_sld (pc := 703) h hX g197 dL_law_703 ?_
        refine k_aload_n (pc := 704) h dL_law_704 rfl 0 rfl ?_
        refine k_iload_n (pc := 705) h dL_law_705 rfl 3 rfl ?_
        refine k_iconst (pc := 706) h dL_law_706 kc_iconst_3 ?_
        refine k_iadd (pc := 707) h dL_law_707 ?_
        obtain ⟨g198, hf⟩ := gu_s hf
        refine k_sld (pc := 708) h hX g198 dL_law_708 ?_
        obtain ⟨v199, s200, cv199, hf⟩ := ob2_s hf
        obtain ⟨s201, es201, hf⟩ := lb_s hf
        refine k_callVe (pc := 709) (em := em_ML) h cv_RL_102 (c_X10_run (p91 (ix (v1 + (1 : Int32)))) (p91 (ix (v1 + (2 : Int32)))) (p91 (ix (v1 + (3 : Int32)))) (rs em_ML s195) v199 s200 cv199) emb_M_L rfl rfl rfl (st1 := [.int v199, .int v193]) rfl ⟨rfl, rfl⟩ (rk hR (Nat.le_of_ble_eq_true rfl) (Nat.le_of_ble_eq_true rfl)) (Nat.le_of_ble_eq_true rfl) dL_law_709 es201 ?_
        refine k_icmp_eq (pc := 712) (tgt := 1002) h dL_law_712 rfl (fun hc => ?_) (fun hc => ?_)
        · have hf := it_p hc hf
          obtain ⟨v202, ev202, hf⟩ := lb_s hf
          refine k_iinc (pc := 1002) h dL_law_1002 3 rfl ((congrArg (_ + ·) kc_iconst_6).trans ev202.symm) (nk hL (by decide)) (lv' := [(0, .ref 200), (1, .ref 73), (2, .ref 74), (3, .int v202)]) rfl ?_
          refine k_goto (pc := 1005) (tgt := 18) h dL_law_1005 rfl ?_
          obtain rfl := so1 hf
          exact k_drop [0, 1, 2, 3] rfl kc18
        · have hf := it_n hc hf
          refine k_iconst (pc := 715) h dL_law_715 kc_iconst_0 ?_
          obtain rfl := so1 hf
          obtain ⟨rfl, rfl⟩ := sp2 kc18
          exact hret 716 _ dL_law_716 (Or.inl rfl)
      have hf := it_n hc20 hf
      by_cases hc21 : v5 = (21 : Int32)
      · have hf := it_p hc21 hf
        refine k_tabIn (pc := 33) (tgt := 717) h dL_law_33 (by rw [hc21]; decide) (by rw [hc21]; decide) (by rw [hc21]; rfl) rfl ?_
        refine k_aload_n (pc := 717) h dL_law_717 rfl 1 rfl ?_
        refine k_aload_n (pc := 718) h dL_law_718 rfl 0 rfl ?_
        refine k_iload_n (pc := 719) h dL_law_719 rfl 3 rfl ?_
        refine k_iconst (pc := 720) h dL_law_720 kc_iconst_1 ?_
        refine k_iadd (pc := 721) h dL_law_721 ?_
        obtain ⟨g203, hf⟩ := gu_s hf
        refine k_sld (pc := 722) h hX g203 dL_law_722 ?_
        refine k_aload_n (pc := 723) h dL_law_723 rfl 0 rfl ?_
        refine k_iload_n (pc := 724) h dL_law_724 rfl 3 rfl ?_
        refine k_iconst (pc := 725) h dL_law_725 kc_iconst_2 ?_
        refine k_iadd (pc := 726) h dL_law_726 ?_
        obtain ⟨g204, hf⟩ := gu_s hf
        refine k_sld (pc := 727) h hX g204 dL_law_727 ?_
        refine k_aload_n (pc := 728) h dL_law_728 rfl 0 rfl ?_
        refine k_iload_n (pc := 729) h dL_law_729 rfl 3 rfl ?_
        refine k_iconst (pc := 730) h dL_law_730 kc_iconst_3 ?_
        refine k_iadd (pc := 731) h dL_law_731 ?_
        obtain ⟨g205, hf⟩ := gu_s hf
        refine k_sld (pc := 732) h hX g205 dL_law_732 ?_
        obtain ⟨v206, s207, cv206, hf⟩ := ob2_s hf
        obtain ⟨s208, es208, hf⟩ := lb_s hf
        refine k_callVe (pc := 733) (em := em_XL) h cv_RL_103 (c_X9_sheet (p91 (ix (v1 + (1 : Int32)))) (p91 (ix (v1 + (2 : Int32)))) (p91 (ix (v1 + (3 : Int32)))) (rs em_XL s2) v206 s207 cv206) emb_X_L rfl rfl rfl (st1 := [.int v206]) rfl ⟨rfl, rfl⟩ (rk hR (Nat.le_of_ble_eq_true rfl) (Nat.le_of_ble_eq_true rfl)) (Nat.le_of_ble_eq_true rfl) dL_law_733 es208 ?_
        refine k_aload_n (pc := 736) h dL_law_736 rfl 2 rfl ?_
        refine k_aload_n (pc := 737) h dL_law_737 rfl 0 rfl ?_
        refine k_iload_n (pc := 738) h dL_law_738 rfl 3 rfl ?_
        refine k_iconst (pc := 739) h dL_law_739 kc_iconst_1 ?_
        refine k_iadd (pc := 740) h dL_law_740 ?_
        obtain ⟨g209, hf⟩ := gu_s hf
        refine k_sld (pc := 741) h hX g209 dL_law_741 ?_
        refine k_aload_n (pc := 742) h dL_law_742 rfl 0 rfl ?_
        refine k_iload_n (pc := 743) h dL_law_743 rfl 3 rfl ?_
        refine k_iconst (pc := 744) h dL_law_744 kc_iconst_2 ?_
        refine k_iadd (pc := 745) h dL_law_745 ?_
        obtain ⟨g210, hf⟩ := gu_s hf
        refine k_sld (pc := 746) h hX g210 dL_law_746 ?_
        refine k_aload_n (pc := 747) h dL_law_747 rfl 0 rfl ?_
        refine k_iload_n (pc := 748) h dL_law_748 rfl 3 rfl ?_
        refine k_iconst (pc := 749) h dL_law_749 kc_iconst_3 ?_
        refine k_iadd (pc := 750) h dL_law_750 ?_
        obtain ⟨g211, hf⟩ := gu_s hf
        refine k_sld (pc := 751) h hX g211 dL_law_751 ?_
        obtain ⟨v212, s213, cv212, hf⟩ := ob2_s hf
        obtain ⟨s214, es214, hf⟩ := lb_s hf
        refine k_callVe (pc := 752) (em := em_ML) h cv_RL_106 (c_X10_sheet (p91 (ix (v1 + (1 : Int32)))) (p91 (ix (v1 + (2 : Int32)))) (p91 (ix (v1 + (3 : Int32)))) (rs em_ML s208) v212 s213 cv212) emb_M_L rfl rfl rfl (st1 := [.int v212, .int v206]) rfl ⟨rfl, rfl⟩ (rk hR (Nat.le_of_ble_eq_true rfl) (Nat.le_of_ble_eq_true rfl)) (Nat.le_of_ble_eq_true rfl) dL_law_752 es214 ?_
        refine k_icmp_eq (pc := 755) (tgt := 1002) h dL_law_755 rfl (fun hc => ?_) (fun hc => ?_)
        · have hf := it_p hc hf
          obtain ⟨v215, ev215, hf⟩ := lb_s hf
          refine k_iinc (pc := 1002) h dL_law_1002 3 rfl ((congrArg (_ + ·) kc_iconst_6).trans ev215.symm) (nk hL (by decide)) (lv' := [(0, .ref 200), (1, .ref 73), (2, .ref 74), (3, .int v215)]) rfl ?_
          refine k_goto (pc := 1005) (tgt := 18) h dL_law_1005 rfl ?_
          obtain rfl := so1 hf
          exact k_drop [0, 1, 2, 3] rfl kc18
        · have hf := it_n hc hf
          refine k_iconst (pc := 758) h dL_law_758 kc_iconst_0 ?_
          obtain rfl := so1 hf
          obtain ⟨rfl, rfl⟩ := sp2 kc18
          exact hret 759 _ dL_law_759 (Or.inl rfl)
      have hf := it_n hc21 hf
      by_cases hc22 : v5 = (22 : Int32)
      · have hf := it_p hc22 hf
        refine k_tabIn (pc := 33) (tgt := 760) h dL_law_33 (by rw [hc22]; decide) (by rw [hc22]; decide) (by rw [hc22]; rfl) rfl ?_
        refine k_aload_n (pc := 760) h dL_law_760 rfl 1 rfl ?_
        refine k_aload_n (pc := 761) h dL_law_761 rfl 0 rfl ?_
        refine k_iload_n (pc := 762) h dL_law_762 rfl 3 rfl ?_
        refine k_iconst (pc := 763) h dL_law_763 kc_iconst_1 ?_
        refine k_iadd (pc := 764) h dL_law_764 ?_
        obtain ⟨g216, hf⟩ := gu_s hf
        refine k_sld (pc := 765) h hX g216 dL_law_765 ?_
        obtain ⟨v217, s218, cv217, hf⟩ := ob2_s hf
        obtain ⟨s219, es219, hf⟩ := lb_s hf
        refine k_callVe (pc := 766) (em := em_XL) h cv_RL_107 (c_X9_lose (p91 (ix (v1 + (1 : Int32)))) (rs em_XL s2) v217 s218 cv217) emb_X_L rfl rfl rfl (st1 := [.int v217]) rfl ⟨rfl, rfl⟩ (rk hR (Nat.le_of_ble_eq_true rfl) (Nat.le_of_ble_eq_true rfl)) (Nat.le_of_ble_eq_true rfl) dL_law_766 es219 ?_
        refine k_aload_n (pc := 769) h dL_law_769 rfl 2 rfl ?_
        refine k_aload_n (pc := 770) h dL_law_770 rfl 0 rfl ?_
        refine k_iload_n (pc := 771) h dL_law_771 rfl 3 rfl ?_
        refine k_iconst (pc := 772) h dL_law_772 kc_iconst_1 ?_
        refine k_iadd (pc := 773) h dL_law_773 ?_
        obtain ⟨g220, hf⟩ := gu_s hf
        refine k_sld (pc := 774) h hX g220 dL_law_774 ?_
        obtain ⟨v221, s222, cv221, hf⟩ := ob2_s hf
        obtain ⟨s223, es223, hf⟩ := lb_s hf
        refine k_callVe (pc := 775) (em := em_ML) h cv_RL_110 (c_X10_lose (p91 (ix (v1 + (1 : Int32)))) (rs em_ML s219) v221 s222 cv221) emb_M_L rfl rfl rfl (st1 := [.int v221, .int v217]) rfl ⟨rfl, rfl⟩ (rk hR (Nat.le_of_ble_eq_true rfl) (Nat.le_of_ble_eq_true rfl)) (Nat.le_of_ble_eq_true rfl) dL_law_775 es223 ?_
        refine k_icmp_eq (pc := 778) (tgt := 1002) h dL_law_778 rfl (fun hc => ?_) (fun hc => ?_)
        · have hf := it_p hc hf
          obtain ⟨v224, ev224, hf⟩ := lb_s hf
          refine k_iinc (pc := 1002) h dL_law_1002 3 rfl ((congrArg (_ + ·) kc_iconst_6).trans ev224.symm) (nk hL (by decide)) (lv' := [(0, .ref 200), (1, .ref 73), (2, .ref 74), (3, .int v224)]) rfl ?_
          refine k_goto (pc := 1005) (tgt := 18) h dL_law_1005 rfl ?_
          obtain rfl := so1 hf
          exact k_drop [0, 1, 2, 3] rfl kc18
        · have hf := it_n hc hf
          refine k_iconst (pc := 781) h dL_law_781 kc_iconst_0 ?_
          obtain rfl := so1 hf
          obtain ⟨rfl, rfl⟩ := sp2 kc18
          exact hret 782 _ dL_law_782 (Or.inl rfl)
      have hf := it_n hc22 hf
      by_cases hc23 : v5 = (23 : Int32)
      · have hf := it_p hc23 hf
        refine k_tabIn (pc := 33) (tgt := 783) h dL_law_33 (by rw [hc23]; decide) (by rw [hc23]; decide) (by rw [hc23]; rfl) rfl ?_
        refine k_aload_n (pc := 783) h dL_law_783 rfl 1 rfl ?_
        refine k_aload_n (pc := 784) h dL_law_784 rfl 0 rfl ?_
        refine k_iload_n (pc := 785) h dL_law_785 rfl 3 rfl ?_
        refine k_iconst (pc := 786) h dL_law_786 kc_iconst_1 ?_
        refine k_iadd (pc := 787) h dL_law_787 ?_
        obtain ⟨g225, hf⟩ := gu_s hf
        refine k_sld (pc := 788) h hX g225 dL_law_788 ?_
        refine k_aload_n (pc := 789) h dL_law_789 rfl 0 rfl ?_
        refine k_iload_n (pc := 790) h dL_law_790 rfl 3 rfl ?_
        refine k_iconst (pc := 791) h dL_law_791 kc_iconst_2 ?_
        refine k_iadd (pc := 792) h dL_law_792 ?_
        obtain ⟨g226, hf⟩ := gu_s hf
        refine k_sld (pc := 793) h hX g226 dL_law_793 ?_
        refine k_aload_n (pc := 794) h dL_law_794 rfl 0 rfl ?_
        refine k_iload_n (pc := 795) h dL_law_795 rfl 3 rfl ?_
        refine k_iconst (pc := 796) h dL_law_796 kc_iconst_3 ?_
        refine k_iadd (pc := 797) h dL_law_797 ?_
        obtain ⟨g227, hf⟩ := gu_s hf
        refine k_sld (pc := 798) h hX g227 dL_law_798 ?_
        refine k_aload_n (pc := 799) h dL_law_799 rfl 0 rfl ?_
        refine k_iload_n (pc := 800) h dL_law_800 rfl 3 rfl ?_
        refine k_iconst (pc := 801) h dL_law_801 kc_iconst_4 ?_
        refine k_iadd (pc := 802) h dL_law_802 ?_
        obtain ⟨g228, hf⟩ := gu_s hf
        refine k_sld (pc := 803) h hX g228 dL_law_803 ?_
        obtain ⟨v229, s230, cv229, hf⟩ := ob2_s hf
        obtain ⟨s231, es231, hf⟩ := lb_s hf
        refine k_callVe (pc := 804) (em := em_XL) h cv_RL_111 (c_X9_put (p91 (ix (v1 + (1 : Int32)))) (p91 (ix (v1 + (2 : Int32)))) (p91 (ix (v1 + (3 : Int32)))) (p91 (ix (v1 + (4 : Int32)))) (rs em_XL s2) v229 s230 cv229) emb_X_L rfl rfl rfl (st1 := [.int v229]) rfl ⟨rfl, rfl⟩ (rk hR (Nat.le_of_ble_eq_true rfl) (Nat.le_of_ble_eq_true rfl)) (Nat.le_of_ble_eq_true rfl) dL_law_804 es231 ?_
        refine k_aload_n (pc := 807) h dL_law_807 rfl 2 rfl ?_
        refine k_aload_n (pc := 808) h dL_law_808 rfl 0 rfl ?_
        refine k_iload_n (pc := 809) h dL_law_809 rfl 3 rfl ?_
        refine k_iconst (pc := 810) h dL_law_810 kc_iconst_1 ?_
        refine k_iadd (pc := 811) h dL_law_811 ?_
        obtain ⟨g232, hf⟩ := gu_s hf
        refine k_sld (pc := 812) h hX g232 dL_law_812 ?_
        refine k_aload_n (pc := 813) h dL_law_813 rfl 0 rfl ?_
        refine k_iload_n (pc := 814) h dL_law_814 rfl 3 rfl ?_
        refine k_iconst (pc := 815) h dL_law_815 kc_iconst_2 ?_
        refine k_iadd (pc := 816) h dL_law_816 ?_
        obtain ⟨g233, hf⟩ := gu_s hf
        refine k_sld (pc := 817) h hX g233 dL_law_817 ?_
        refine k_aload_n (pc := 818) h dL_law_818 rfl 0 rfl ?_
        refine k_iload_n (pc := 819) h dL_law_819 rfl 3 rfl ?_
        refine k_iconst (pc := 820) h dL_law_820 kc_iconst_3 ?_
        refine k_iadd (pc := 821) h dL_law_821 ?_
        obtain ⟨g234, hf⟩ := gu_s hf
        refine k_sld (pc := 822) h hX g234 dL_law_822 ?_
        refine k_aload_n (pc := 823) h dL_law_823 rfl 0 rfl ?_
        refine k_iload_n (pc := 824) h dL_law_824 rfl 3 rfl ?_
        refine k_iconst (pc := 825) h dL_law_825 kc_iconst_4 ?_
        refine k_iadd (pc := 826) h dL_law_826 ?_
        obtain ⟨g235, hf⟩ := gu_s hf
        refine k_sld (pc := 827) h hX g235 dL_law_827 ?_
        obtain ⟨v236, s237, cv236, hf⟩ := ob2_s hf
        obtain ⟨s238, es238, hf⟩ := lb_s hf
        refine k_callVe (pc := 828) (em := em_ML) h cv_RL_114 (c_X10_put (p91 (ix (v1 + (1 : Int32)))) (p91 (ix (v1 + (2 : Int32)))) (p91 (ix (v1 + (3 : Int32)))) (p91 (ix (v1 + (4 : Int32)))) (rs em_ML s231) v236 s237 cv236) emb_M_L rfl rfl rfl (st1 := [.int v236, .int v229]) rfl ⟨rfl, rfl⟩ (rk hR (Nat.le_of_ble_eq_true rfl) (Nat.le_of_ble_eq_true rfl)) (Nat.le_of_ble_eq_true rfl) dL_law_828 es238 ?_
        refine k_icmp_eq (pc := 831) (tgt := 1002) h dL_law_831 rfl (fun hc => ?_) (fun hc => ?_)
        · have hf := it_p hc hf
          obtain ⟨v239, ev239, hf⟩ := lb_s hf
          refine k_iinc (pc := 1002) h dL_law_1002 3 rfl ((congrArg (_ + ·) kc_iconst_6).trans ev239.symm) (nk hL (by decide)) (lv' := [(0, .ref 200), (1, .ref 73), (2, .ref 74), (3, .int v239)]) rfl ?_
          refine k_goto (pc := 1005) (tgt := 18) h dL_law_1005 rfl ?_
          obtain rfl := so1 hf
          exact k_drop [0, 1, 2, 3] rfl kc18
        · have hf := it_n hc hf
          refine k_iconst (pc := 834) h dL_law_834 kc_iconst_0 ?_
          obtain rfl := so1 hf
          obtain ⟨rfl, rfl⟩ := sp2 kc18
          exact hret 835 _ dL_law_835 (Or.inl rfl)
      have hf := it_n hc23 hf
      by_cases hc24 : v5 = (24 : Int32)
      · have hf := it_p hc24 hf
        refine k_tabIn (pc := 33) (tgt := 836) h dL_law_33 (by rw [hc24]; decide) (by rw [hc24]; decide) (by rw [hc24]; rfl) rfl ?_
        refine k_aload_n (pc := 836) h dL_law_836 rfl 1 rfl ?_
        refine k_aload_n (pc := 837) h dL_law_837 rfl 0 rfl ?_
        refine k_iload_n (pc := 838) h dL_law_838 rfl 3 rfl ?_
        refine k_iconst (pc := 839) h dL_law_839 kc_iconst_1 ?_
        refine k_iadd (pc := 840) h dL_law_840 ?_
        obtain ⟨g240, hf⟩ := gu_s hf
        refine k_sld (pc := 841) h hX g240 dL_law_841 ?_
        refine k_aload_n (pc := 842) h dL_law_842 rfl 0 rfl ?_
        refine k_iload_n (pc := 843) h dL_law_843 rfl 3 rfl ?_
        refine k_iconst (pc := 844) h dL_law_844 kc_iconst_2 ?_
        refine k_iadd (pc := 845) h dL_law_845 ?_
        obtain ⟨g241, hf⟩ := gu_s hf
        refine k_sld (pc := 846) h hX g241 dL_law_846 ?_
        refine k_aload_n (pc := 847) h dL_law_847 rfl 0 rfl ?_
        refine k_iload_n (pc := 848) h dL_law_848 rfl 3 rfl ?_
        refine k_iconst (pc := 849) h dL_law_849 kc_iconst_3 ?_
        refine k_iadd (pc := 850) h dL_law_850 ?_
        obtain ⟨g242, hf⟩ := gu_s hf
        refine k_sld (pc := 851) h hX g242 dL_law_851 ?_
        obtain ⟨v243, s244, cv243, hf⟩ := ob2_s hf
        obtain ⟨s245, es245, hf⟩ := lb_s hf
        refine k_callVe (pc := 852) (em := em_XL) h cv_RL_115 (c_X9_get (p91 (ix (v1 + (1 : Int32)))) (p91 (ix (v1 + (2 : Int32)))) (p91 (ix (v1 + (3 : Int32)))) (rs em_XL s2) v243 s244 cv243) emb_X_L rfl rfl rfl (st1 := [.int v243]) rfl ⟨rfl, rfl⟩ (rk hR (Nat.le_of_ble_eq_true rfl) (Nat.le_of_ble_eq_true rfl)) (Nat.le_of_ble_eq_true rfl) dL_law_852 es245 ?_
        refine k_aload_n (pc := 855) h dL_law_855 rfl 2 rfl ?_
        refine k_aload_n (pc := 856) h dL_law_856 rfl 0 rfl ?_
        refine k_iload_n (pc := 857) h dL_law_857 rfl 3 rfl ?_
        refine k_iconst (pc := 858) h dL_law_858 kc_iconst_1 ?_
        refine k_iadd (pc := 859) h dL_law_859 ?_
        obtain ⟨g246, hf⟩ := gu_s hf
        refine k_sld (pc := 860) h hX g246 dL_law_860 ?_
        refine k_aload_n (pc := 861) h dL_law_861 rfl 0 rfl ?_
        refine k_iload_n (pc := 862) h dL_law_862 rfl 3 rfl ?_
        refine k_iconst (pc := 863) h dL_law_863 kc_iconst_2 ?_
        refine k_iadd (pc := 864) h dL_law_864 ?_
        obtain ⟨g247, hf⟩ := gu_s hf
        refine k_sld (pc := 865) h hX g247 dL_law_865 ?_
        refine k_aload_n (pc := 866) h dL_law_866 rfl 0 rfl ?_
        refine k_iload_n (pc := 867) h dL_law_867 rfl 3 rfl ?_
        refine k_iconst (pc := 868) h dL_law_868 kc_iconst_3 ?_
        refine k_iadd (pc := 869) h dL_law_869 ?_
        obtain ⟨g248, hf⟩ := gu_s hf
        refine k_sld (pc := 870) h hX g248 dL_law_870 ?_
        obtain ⟨v249, s250, cv249, hf⟩ := ob2_s hf
        obtain ⟨s251, es251, hf⟩ := lb_s hf
        refine k_callVe (pc := 871) (em := em_ML) h cv_RL_118 (c_X10_get (p91 (ix (v1 + (1 : Int32)))) (p91 (ix (v1 + (2 : Int32)))) (p91 (ix (v1 + (3 : Int32)))) (rs em_ML s245) v249 s250 cv249) emb_M_L rfl rfl rfl (st1 := [.int v249, .int v243]) rfl ⟨rfl, rfl⟩ (rk hR (Nat.le_of_ble_eq_true rfl) (Nat.le_of_ble_eq_true rfl)) (Nat.le_of_ble_eq_true rfl) dL_law_871 es251 ?_
        refine k_icmp_eq (pc := 874) (tgt := 1002) h dL_law_874 rfl (fun hc => ?_) (fun hc => ?_)
        · have hf := it_p hc hf
          obtain ⟨v252, ev252, hf⟩ := lb_s hf
          refine k_iinc (pc := 1002) h dL_law_1002 3 rfl ((congrArg (_ + ·) kc_iconst_6).trans ev252.symm) (nk hL (by decide)) (lv' := [(0, .ref 200), (1, .ref 73), (2, .ref 74), (3, .int v252)]) rfl ?_
          refine k_goto (pc := 1005) (tgt := 18) h dL_law_1005 rfl ?_
          obtain rfl := so1 hf
          exact k_drop [0, 1, 2, 3] rfl kc18
        · have hf := it_n hc hf
          refine k_iconst (pc := 877) h dL_law_877 kc_iconst_0 ?_
          obtain rfl := so1 hf
          obtain ⟨rfl, rfl⟩ := sp2 kc18
          exact hret 878 _ dL_law_878 (Or.inl rfl)
      have hf := it_n hc24 hf
      by_cases hc25 : v5 = (25 : Int32)
      · have hf := it_p hc25 hf
        refine k_tabIn (pc := 33) (tgt := 879) h dL_law_33 (by rw [hc25]; decide) (by rw [hc25]; decide) (by rw [hc25]; rfl) rfl ?_
        refine k_aload_n (pc := 879) h dL_law_879 rfl 1 rfl ?_
        refine k_aload_n (pc := 880) h dL_law_880 rfl 0 rfl ?_
        refine k_iload_n (pc := 881) h dL_law_881 rfl 3 rfl ?_
        refine k_iconst (pc := 882) h dL_law_882 kc_iconst_1 ?_
        refine k_iadd (pc := 883) h dL_law_883 ?_
        obtain ⟨g253, hf⟩ := gu_s hf
        refine k_sld (pc := 884) h hX g253 dL_law_884 ?_
        refine k_aload_n (pc := 885) h dL_law_885 rfl 0 rfl ?_
        refine k_iload_n (pc := 886) h dL_law_886 rfl 3 rfl ?_
        refine k_iconst (pc := 887) h dL_law_887 kc_iconst_2 ?_
        refine k_iadd (pc := 888) h dL_law_888 ?_
        obtain ⟨g254, hf⟩ := gu_s hf
        refine k_sld (pc := 889) h hX g254 dL_law_889 ?_
        refine k_aload_n (pc := 890) h dL_law_890 rfl 0 rfl ?_
        refine k_iload_n (pc := 891) h dL_law_891 rfl 3 rfl ?_
        refine k_iconst (pc := 892) h dL_law_892 kc_iconst_3 ?_
        refine k_iadd (pc := 893) h dL_law_893 ?_
        obtain ⟨g255, hf⟩ := gu_s hf
        refine k_sld (pc := 894) h hX g255 dL_law_894 ?_
        refine k_aload_n (pc := 895) h dL_law_895 rfl 0 rfl ?_
        refine k_iload_n (pc := 896) h dL_law_896 rfl 3 rfl ?_
        refine k_iconst (pc := 897) h dL_law_897 kc_iconst_4 ?_
        refine k_iadd (pc := 898) h dL_law_898 ?_
        obtain ⟨g256, hf⟩ := gu_s hf
        refine k_sld (pc := 899) h hX g256 dL_law_899 ?_
        refine k_aload_n (pc := 900) h dL_law_900 rfl 0 rfl ?_
        refine k_iload_n (pc := 901) h dL_law_901 rfl 3 rfl ?_
        refine k_iconst (pc := 902) h dL_law_902 kc_iconst_5 ?_
        refine k_iadd (pc := 903) h dL_law_903 ?_
        obtain ⟨g257, hf⟩ := gu_s hf
        refine k_sld (pc := 904) h hX g257 dL_law_904 ?_
        obtain ⟨v258, s259, cv258, hf⟩ := ob2_s hf
        obtain ⟨s260, es260, hf⟩ := lb_s hf
        refine k_callVe (pc := 905) (em := em_XL) h cv_RL_119 (c_X9_copy (p91 (ix (v1 + (1 : Int32)))) (p91 (ix (v1 + (2 : Int32)))) (p91 (ix (v1 + (3 : Int32)))) (p91 (ix (v1 + (4 : Int32)))) (p91 (ix (v1 + (5 : Int32)))) (rs em_XL s2) v258 s259 cv258) emb_X_L rfl rfl rfl (st1 := [.int v258]) rfl ⟨rfl, rfl⟩ (rk hR (Nat.le_of_ble_eq_true rfl) (Nat.le_of_ble_eq_true rfl)) (Nat.le_of_ble_eq_true rfl) dL_law_905 es260 ?_
        refine k_aload_n (pc := 908) h dL_law_908 rfl 2 rfl ?_
        refine k_aload_n (pc := 909) h dL_law_909 rfl 0 rfl ?_
        refine k_iload_n (pc := 910) h dL_law_910 rfl 3 rfl ?_
        refine k_iconst (pc := 911) h dL_law_911 kc_iconst_1 ?_
        refine k_iadd (pc := 912) h dL_law_912 ?_
        obtain ⟨g261, hf⟩ := gu_s hf
        refine k_sld (pc := 913) h hX g261 dL_law_913 ?_
        refine k_aload_n (pc := 914) h dL_law_914 rfl 0 rfl ?_
        refine k_iload_n (pc := 915) h dL_law_915 rfl 3 rfl ?_
        refine k_iconst (pc := 916) h dL_law_916 kc_iconst_2 ?_
        refine k_iadd (pc := 917) h dL_law_917 ?_
        obtain ⟨g262, hf⟩ := gu_s hf
        refine k_sld (pc := 918) h hX g262 dL_law_918 ?_
        refine k_aload_n (pc := 919) h dL_law_919 rfl 0 rfl ?_
        refine k_iload_n (pc := 920) h dL_law_920 rfl 3 rfl ?_
        refine k_iconst (pc := 921) h dL_law_921 kc_iconst_3 ?_
        refine k_iadd (pc := 922) h dL_law_922 ?_
        obtain ⟨g263, hf⟩ := gu_s hf
        refine k_sld (pc := 923) h hX g263 dL_law_923 ?_
        refine k_aload_n (pc := 924) h dL_law_924 rfl 0 rfl ?_
        refine k_iload_n (pc := 925) h dL_law_925 rfl 3 rfl ?_
        refine k_iconst (pc := 926) h dL_law_926 kc_iconst_4 ?_
        refine k_iadd (pc := 927) h dL_law_927 ?_
        obtain ⟨g264, hf⟩ := gu_s hf
        refine k_sld (pc := 928) h hX g264 dL_law_928 ?_
        refine k_aload_n (pc := 929) h dL_law_929 rfl 0 rfl ?_
        refine k_iload_n (pc := 930) h dL_law_930 rfl 3 rfl ?_
        refine k_iconst (pc := 931) h dL_law_931 kc_iconst_5 ?_
        refine k_iadd (pc := 932) h dL_law_932 ?_
        obtain ⟨g265, hf⟩ := gu_s hf
        refine k_sld (pc := 933) h hX g265 dL_law_933 ?_
        obtain ⟨v266, s267, cv266, hf⟩ := ob2_s hf
        obtain ⟨s268, es268, hf⟩ := lb_s hf
        refine k_callVe (pc := 934) (em := em_ML) h cv_RL_122 (c_X10_copy (p91 (ix (v1 + (1 : Int32)))) (p91 (ix (v1 + (2 : Int32)))) (p91 (ix (v1 + (3 : Int32)))) (p91 (ix (v1 + (4 : Int32)))) (p91 (ix (v1 + (5 : Int32)))) (rs em_ML s260) v266 s267 cv266) emb_M_L rfl rfl rfl (st1 := [.int v266, .int v258]) rfl ⟨rfl, rfl⟩ (rk hR (Nat.le_of_ble_eq_true rfl) (Nat.le_of_ble_eq_true rfl)) (Nat.le_of_ble_eq_true rfl) dL_law_934 es268 ?_
        refine k_icmp_eq (pc := 937) (tgt := 1002) h dL_law_937 rfl (fun hc => ?_) (fun hc => ?_)
        · have hf := it_p hc hf
          obtain ⟨v269, ev269, hf⟩ := lb_s hf
          refine k_iinc (pc := 1002) h dL_law_1002 3 rfl ((congrArg (_ + ·) kc_iconst_6).trans ev269.symm) (nk hL (by decide)) (lv' := [(0, .ref 200), (1, .ref 73), (2, .ref 74), (3, .int v269)]) rfl ?_
          refine k_goto (pc := 1005) (tgt := 18) h dL_law_1005 rfl ?_
          obtain rfl := so1 hf
          exact k_drop [0, 1, 2, 3] rfl kc18
        · have hf := it_n hc hf
          refine k_iconst (pc := 940) h dL_law_940 kc_iconst_0 ?_
          obtain rfl := so1 hf
          obtain ⟨rfl, rfl⟩ := sp2 kc18
          exact hret 941 _ dL_law_941 (Or.inl rfl)
      have hf := it_n hc25 hf
      by_cases hc26 : v5 = (26 : Int32)
      · have hf := it_p hc26 hf
        refine k_tabIn (pc := 33) (tgt := 942) h dL_law_33 (by rw [hc26]; decide) (by rw [hc26]; decide) (by rw [hc26]; rfl) rfl ?_
        refine k_aload_n (pc := 942) h dL_law_942 rfl 1 rfl ?_
        refine k_aload_n (pc := 943) h dL_law_943 rfl 0 rfl ?_
        refine k_iload_n (pc := 944) h dL_law_944 rfl 3 rfl ?_
        refine k_iconst (pc := 945) h dL_law_945 kc_iconst_1 ?_
        refine k_iadd (pc := 946) h dL_law_946 ?_
        obtain ⟨g270, hf⟩ := gu_s hf
        refine k_sld (pc := 947) h hX g270 dL_law_947 ?_
        obtain ⟨v271, s272, cv271, hf⟩ := ob2_s hf
        obtain ⟨s273, es273, hf⟩ := lb_s hf
        refine k_callVe (pc := 948) (em := em_XL) h cv_RL_123 (c_X9_write (p91 (ix (v1 + (1 : Int32)))) (rs em_XL s2) v271 s272 cv271) emb_X_L rfl rfl rfl (st1 := [.int v271]) rfl ⟨rfl, rfl⟩ (rk hR (Nat.le_of_ble_eq_true rfl) (Nat.le_of_ble_eq_true rfl)) (Nat.le_of_ble_eq_true rfl) dL_law_948 es273 ?_
        refine k_aload_n (pc := 951) h dL_law_951 rfl 2 rfl ?_
        refine k_aload_n (pc := 952) h dL_law_952 rfl 0 rfl ?_
        refine k_iload_n (pc := 953) h dL_law_953 rfl 3 rfl ?_
        refine k_iconst (pc := 954) h dL_law_954 kc_iconst_1 ?_
        refine k_iadd (pc := 955) h dL_law_955 ?_
        obtain ⟨g274, hf⟩ := gu_s hf
        refine k_sld (pc := 956) h hX g274 dL_law_956 ?_
        obtain ⟨v275, s276, cv275, hf⟩ := ob2_s hf
        obtain ⟨s277, es277, hf⟩ := lb_s hf
        refine k_callVe (pc := 957) (em := em_ML) h cv_RL_126 (c_X10_write (p91 (ix (v1 + (1 : Int32)))) (rs em_ML s273) v275 s276 cv275) emb_M_L rfl rfl rfl (st1 := [.int v275, .int v271]) rfl ⟨rfl, rfl⟩ (rk hR (Nat.le_of_ble_eq_true rfl) (Nat.le_of_ble_eq_true rfl)) (Nat.le_of_ble_eq_true rfl) dL_law_957 es277 ?_
        refine k_icmp_eq (pc := 960) (tgt := 1002) h dL_law_960 rfl (fun hc => ?_) (fun hc => ?_)
        · have hf := it_p hc hf
          obtain ⟨v278, ev278, hf⟩ := lb_s hf
          refine k_iinc (pc := 1002) h dL_law_1002 3 rfl ((congrArg (_ + ·) kc_iconst_6).trans ev278.symm) (nk hL (by decide)) (lv' := [(0, .ref 200), (1, .ref 73), (2, .ref 74), (3, .int v278)]) rfl ?_
          refine k_goto (pc := 1005) (tgt := 18) h dL_law_1005 rfl ?_
          obtain rfl := so1 hf
          exact k_drop [0, 1, 2, 3] rfl kc18
        · have hf := it_n hc hf
          refine k_iconst (pc := 963) h dL_law_963 kc_iconst_0 ?_
          obtain rfl := so1 hf
          obtain ⟨rfl, rfl⟩ := sp2 kc18
          exact hret 964 _ dL_law_964 (Or.inl rfl)
      have hf := it_n hc26 hf
      by_cases hc27 : v5 = (27 : Int32)
      · have hf := it_p hc27 hf
        refine k_tabIn (pc := 33) (tgt := 965) h dL_law_33 (by rw [hc27]; decide) (by rw [hc27]; decide) (by rw [hc27]; rfl) rfl ?_
        refine k_aload_n (pc := 965) h dL_law_965 rfl 1 rfl ?_
        refine k_aload_n (pc := 966) h dL_law_966 rfl 0 rfl ?_
        refine k_iload_n (pc := 967) h dL_law_967 rfl 3 rfl ?_
        refine k_iconst (pc := 968) h dL_law_968 kc_iconst_1 ?_
        refine k_iadd (pc := 969) h dL_law_969 ?_
        obtain ⟨g279, hf⟩ := gu_s hf
        refine k_sld (pc := 970) h hX g279 dL_law_970 ?_
        obtain ⟨v280, s281, cv280, hf⟩ := ob2_s hf
        obtain ⟨s282, es282, hf⟩ := lb_s hf
        refine k_callVe (pc := 971) (em := em_XL) h cv_RL_127 (c_X9_count (p91 (ix (v1 + (1 : Int32)))) (rs em_XL s2) v280 s281 cv280) emb_X_L rfl rfl rfl (st1 := [.int v280]) rfl ⟨rfl, rfl⟩ (rk hR (Nat.le_of_ble_eq_true rfl) (Nat.le_of_ble_eq_true rfl)) (Nat.le_of_ble_eq_true rfl) dL_law_971 es282 ?_
        refine k_aload_n (pc := 974) h dL_law_974 rfl 2 rfl ?_
        refine k_aload_n (pc := 975) h dL_law_975 rfl 0 rfl ?_
        refine k_iload_n (pc := 976) h dL_law_976 rfl 3 rfl ?_
        refine k_iconst (pc := 977) h dL_law_977 kc_iconst_1 ?_
        refine k_iadd (pc := 978) h dL_law_978 ?_
        obtain ⟨g283, hf⟩ := gu_s hf
        refine k_sld (pc := 979) h hX g283 dL_law_979 ?_
        obtain ⟨v284, s285, cv284, hf⟩ := ob2_s hf
        obtain ⟨s286, es286, hf⟩ := lb_s hf
        refine k_callVe (pc := 980) (em := em_ML) h cv_RL_130 (c_X10_count (p91 (ix (v1 + (1 : Int32)))) (rs em_ML s282) v284 s285 cv284) emb_M_L rfl rfl rfl (st1 := [.int v284, .int v280]) rfl ⟨rfl, rfl⟩ (rk hR (Nat.le_of_ble_eq_true rfl) (Nat.le_of_ble_eq_true rfl)) (Nat.le_of_ble_eq_true rfl) dL_law_980 es286 ?_
        refine k_icmp_eq (pc := 983) (tgt := 1002) h dL_law_983 rfl (fun hc => ?_) (fun hc => ?_)
        · have hf := it_p hc hf
          obtain ⟨v287, ev287, hf⟩ := lb_s hf
          refine k_iinc (pc := 1002) h dL_law_1002 3 rfl ((congrArg (_ + ·) kc_iconst_6).trans ev287.symm) (nk hL (by decide)) (lv' := [(0, .ref 200), (1, .ref 73), (2, .ref 74), (3, .int v287)]) rfl ?_
          refine k_goto (pc := 1005) (tgt := 18) h dL_law_1005 rfl ?_
          obtain rfl := so1 hf
          exact k_drop [0, 1, 2, 3] rfl kc18
        · have hf := it_n hc hf
          refine k_iconst (pc := 986) h dL_law_986 kc_iconst_0 ?_
          obtain rfl := so1 hf
          obtain ⟨rfl, rfl⟩ := sp2 kc18
          exact hret 987 _ dL_law_987 (Or.inl rfl)
      have hf := it_n hc27 hf
      by_cases hc28 : v5 = (28 : Int32)
      · have hf := it_p hc28 hf
        refine k_tabIn (pc := 33) (tgt := 988) h dL_law_33 (by rw [hc28]; decide) (by rw [hc28]; decide) (by rw [hc28]; rfl) rfl ?_
        refine k_aload_n (pc := 988) h dL_law_988 rfl 1 rfl ?_
        obtain ⟨v288, s289, cv288, hf⟩ := ob2_s hf
        obtain ⟨s290, es290, hf⟩ := lb_s hf
        refine k_callVe (pc := 989) (em := em_XL) h cv_RL_131 (c_X9_digest  (rs em_XL s2) v288 s289 cv288) emb_X_L rfl rfl rfl (st1 := [.long v288]) rfl ⟨rfl, rfl⟩ (rk hR (Nat.le_of_ble_eq_true rfl) (Nat.le_of_ble_eq_true rfl)) (Nat.le_of_ble_eq_true rfl) dL_law_989 es290 ?_
        refine k_aload_n (pc := 992) h dL_law_992 rfl 2 rfl ?_
        obtain ⟨v291, s292, cv291, hf⟩ := ob2_s hf
        obtain ⟨s293, es293, hf⟩ := lb_s hf
        refine k_callVe (pc := 993) (em := em_ML) h cv_RL_135 (c_X10_digest  (rs em_ML s290) v291 s292 cv291) emb_M_L rfl rfl rfl (st1 := [.long v291, .long v288]) rfl ⟨rfl, rfl⟩ (rk hR (Nat.le_of_ble_eq_true rfl) (Nat.le_of_ble_eq_true rfl)) (Nat.le_of_ble_eq_true rfl) dL_law_993 es293 ?_
        refine k_lcmp (pc := 996) h dL_law_996 ?_
        refine k_if_eq (pc := 997) (tgt := 1002) h dL_law_997 rfl (fun hc => ?_) (fun hc => ?_)
        · have hf := it_p hc hf
          obtain ⟨v294, ev294, hf⟩ := lb_s hf
          refine k_iinc (pc := 1002) h dL_law_1002 3 rfl ((congrArg (_ + ·) kc_iconst_6).trans ev294.symm) (nk hL (by decide)) (lv' := [(0, .ref 200), (1, .ref 73), (2, .ref 74), (3, .int v294)]) rfl ?_
          refine k_goto (pc := 1005) (tgt := 18) h dL_law_1005 rfl ?_
          obtain rfl := so1 hf
          exact k_drop [0, 1, 2, 3] rfl kc18
        · have hf := it_n hc hf
          refine k_iconst (pc := 1000) h dL_law_1000 kc_iconst_0 ?_
          obtain rfl := so1 hf
          obtain ⟨rfl, rfl⟩ := sp2 kc18
          exact hret 1001 _ dL_law_1001 (Or.inl rfl)
      have hf := it_n hc28 hf
      refine k_tabOut (pc := 33) (tgt := 1002) h dL_law_33 (by have z0 := lv_neT hc0 (a := 0) rfl; have z1 := lv_neT hc1 (a := 1) rfl; have z2 := lv_neT hc2 (a := 2) rfl; have z3 := lv_neT hc3 (a := 3) rfl; have z4 := lv_neT hc4 (a := 4) rfl; have z5 := lv_neT hc5 (a := 5) rfl; have z6 := lv_neT hc6 (a := 6) rfl; have z7 := lv_neT hc7 (a := 7) rfl; have z8 := lv_neT hc8 (a := 8) rfl; have z9 := lv_neT hc9 (a := 9) rfl; have z10 := lv_neT hc10 (a := 10) rfl; have z11 := lv_neT hc11 (a := 11) rfl; have z12 := lv_neT hc12 (a := 12) rfl; have z13 := lv_neT hc13 (a := 13) rfl; have z14 := lv_neT hc14 (a := 14) rfl; have z15 := lv_neT hc15 (a := 15) rfl; have z16 := lv_neT hc16 (a := 16) rfl; have z17 := lv_neT hc17 (a := 17) rfl; have z18 := lv_neT hc18 (a := 18) rfl; have z19 := lv_neT hc19 (a := 19) rfl; have z20 := lv_neT hc20 (a := 20) rfl; have z21 := lv_neT hc21 (a := 21) rfl; have z22 := lv_neT hc22 (a := 22) rfl; have z23 := lv_neT hc23 (a := 23) rfl; have z24 := lv_neT hc24 (a := 24) rfl; have z25 := lv_neT hc25 (a := 25) rfl; have z26 := lv_neT hc26 (a := 26) rfl; have z27 := lv_neT hc27 (a := 27) rfl; have z28 := lv_neT hc28 (a := 28) rfl; omega) rfl ?_
      obtain ⟨v295, ev295, hf⟩ := lb_s hf
      refine k_iinc (pc := 1002) h dL_law_1002 3 rfl ((congrArg (_ + ·) kc_iconst_6).trans ev295.symm) (nk hL (by decide)) (lv' := [(0, .ref 200), (1, .ref 73), (2, .ref 74), (3, .int v295)]) rfl ?_
      refine k_goto (pc := 1005) (tgt := 18) h dL_law_1005 rfl ?_
      obtain rfl := so1 hf
      exact k_drop [0, 1, 2, 3] rfl kc18
  · cases ee with
    | inl qq =>
      obtain ⟨s3, hq⟩ : ∃ z, z = qq := ⟨qq, rfl⟩
      subst hq
      refine k_iconst (pc := 1008) h dL_law_1008 kc_iconst_1 ?_
      obtain ⟨rfl, rfl⟩ := so2 hf
      exact hret 1009 _ dL_law_1009 (Or.inr rfl)
    | inr qq =>
      exact (Option.some.inj hf)
