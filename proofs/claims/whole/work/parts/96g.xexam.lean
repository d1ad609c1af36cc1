def CX (P : Pg) (s : sh_S) : Prop := NX P s ∧ s 11 8 = mkb (Rc P) ∧ UX P s ∧ (∀ k, k < pn P → s 16 k = mkb (fun v => decide (v < 8) && Lv P v k)) ∧ (∀ v, v < 8 → s 18 v = mkb (Rg P v)) ∧ OY P s ∧ (∀ i, i < 8 * pn P → s 20 i = mkb (Ho P i)) ∧ KX P s ∧ (∀ k, k < pn P → s 22 k = mkb (sSc P k) ∧ s 23 k = mkb (sAc P k)) ∧ BX P s ∧ s 29 1 = nI (pn P) ∧ s 29 2 = nI (TE P)
theorem CX.of {P : Pg} {s s' : sh_S} (h : CX P s) (e : ∀ k, 11 ≤ k → k ≤ 30 → s' k = s k) : CX P s' := by
  obtain ⟨h1, h2, h3, h4, h5, h6, h7, h8, h9, h10, h11, h12⟩ := h
  have f : ∀ k, 11 ≤ k ∧ k ≤ 30 → s' k = s k := fun k hk => e k hk.1 hk.2
  refine ⟨h1.of (by rw [f 11 (by omega)]) (f 12 (by omega)) (f 13 (by omega)), by rw [f 11 (by omega)]; exact h2, h3.of (f 14 (by omega)) (f 15 (by omega)) (f 17 (by omega)), fun k hk => by rw [f 16 (by omega)]; exact h4 k hk, fun k hk => by rw [f 18 (by omega)]; exact h5 k hk, ⟨fun c hc => by rw [f 19 (by omega)]; exact h6.1 c hc, fun v hv => by rw [f 27 (by omega)]; exact h6.2.1 v hv, fun v hv => by rw [f 28 (by omega)]; exact h6.2.2 v hv⟩, fun i hi => by rw [f 20 (by omega)]; exact h7 i hi, fun k hk => by rw [f 24 (by omega), f 25 (by omega), f 26 (by omega)]; exact h8 k hk, fun k hk => by rw [f 22 (by omega), f 23 (by omega)]; exact h9 k hk, fun r hr => by rw [f 30 (by omega)]; exact h10 r hr, by rw [f 29 (by omega)]; exact h11, by rw [f 29 (by omega)]; exact h12⟩
section XE
variable {P : Pg} {s : sh_S}
def allK : List Nat := [11, 12, 13, 14, 15, 16, 17, 18, 19, 20, 21, 22, 23, 24, 25, 26, 27, 28, 29, 30]
theorem x_find (hX : LX P s) (ho : pOK P) : ∃ s', (ob (f_X2_findNext s) (fun s2 => ob (f_X2_findReached s2) (fun s3 => ob (f_X2_findUses s3) (fun s4 => ob (f_X2_findLive s4) (fun s5 => ob (f_X2_findRegions s5) (fun s6 => ob (f_X3_findLoans (s6 11 8) s6) (fun s7 => ob (f_X3_findHeld s7) (fun s8 => ob (f_X3_markPoints s8) (fun s9 => ob (f_X3_findScopes (s9 0 9) s9) (fun s10 => ob (f_X1_findClashes s10) (fun s11 => ob (f_X1_findMisuses s11) (fun s12 => ob (f_X1_addUp (s12 0 9) s12) (fun s13 => lb (ur s13 10 (upd (s13 10) 1 (1 : Int32))) (fun s14 => some s14)))))))))))))) = some s' ∧ (∀ k, k < 10 → s' k = s k) ∧ (∀ j, j ≠ 1 → s' 10 j = s 10 j) ∧ (∀ k, 31 ≤ k → s' k = s k) ∧ s' 10 1 = 1 ∧ CX P s' := by
  obtain ⟨s2, a1, a2, a3, a4⟩ := x_findNext hX ho
  have N2 : NX P s2 := ⟨by rw [a3, upd_s], a4⟩
  rw [a1, ob_e, x_findReached N2 ho, ob_e]
  have X2 : LX P s2 := hX.fx a2 (by simp)
  generalize hs3 : S8 s2 (Rc P) = s3
  have F3 : Fx [11] s2 s3 := by rw [← hs3]; exact Fx.rf.ur (by simp) _
  have X3 := X2.fx F3 (by simp)
  have N3 : NX P s3 := N2.of (by rw [← hs3, S8_o _ _ (by omega)]) (F3 12 (by simp)) (F3 13 (by simp))
  have R3 : s3 11 8 = mkb (Rc P) := by rw [← hs3, S8_8]
  obtain ⟨s4, b1, b2, U4⟩ := x_findUses X3 ho N3.1
  rw [b1, ob_e]
  have X4 := X3.fx b2 (by simp)
  have N4 : NX P s4 := N3.of (by rw [b2 11 (by simp)]) (b2 12 (by simp)) (b2 13 (by simp))
  have R4 : s4 11 8 = mkb (Rc P) := by rw [b2 11 (by simp)]; exact R3
  rw [x_findLive N4 U4 ho, ob_e]
  generalize hs5 : S16 P s4 (Lv P) = s5
  have F5 : Fx [16] s4 s5 := by rw [← hs5]; exact Fx.rf.ur (by simp) _
  have X5 := X4.fx F5 (by simp)
  have N5 : NX P s5 := N4.of (by rw [F5 11 (by simp)]) (F5 12 (by simp)) (F5 13 (by simp))
  have R5 : s5 11 8 = mkb (Rc P) := by rw [F5 11 (by simp)]; exact R4
  have U5 : UX P s5 := U4.of (F5 14 (by simp)) (F5 15 (by simp)) (F5 17 (by simp))
  have L5 : ∀ k, k < pn P → s5 16 k = mkb (fun v => decide (v < 8) && Lv P v k) := fun k hk => by rw [← hs5, S16_r _ hk]
  obtain ⟨s6, c1, c2, G6⟩ := x_findRegions X5 N5.1 R5 U5 ho L5
  have X6 := X5.fx c2 (by simp)
  have N6 : NX P s6 := N5.of (by rw [c2 11 (by simp)]) (c2 12 (by simp)) (c2 13 (by simp))
  have R6 : s6 11 8 = mkb (Rc P) := by rw [c2 11 (by simp)]; exact R5
  have U6 : UX P s6 := U5.of (c2 14 (by simp)) (c2 15 (by simp)) (c2 17 (by simp))
  have L6 : ∀ k, k < pn P → s6 16 k = mkb (fun v => decide (v < 8) && Lv P v k) := fun k hk => by rw [c2 16 (by simp)]; exact L5 k hk
  obtain ⟨s7, d1, d2, d3⟩ := x_findLoans X6 ho
  rw [c1, ob_e, R6, d1, ob_e]
  have O7 := d3.oy ho
  have X7 := X6.fx d2 (by simp)
  have N7 : NX P s7 := N6.of (by rw [d2 11 (by simp)]) (d2 12 (by simp)) (d2 13 (by simp))
  obtain ⟨s8, e1, e2, e3, e4⟩ := x_findHeld X7 N7 ho
  rw [e1, ob_e]
  have X8 := X7.fx e2 (by simp)
  have N8 : NX P s8 := N7.of (by rw [e2 11 (by simp)]) (e2 12 (by simp)) (e2 13 (by simp))
  have U8 : UX P s8 := (U6.of (d2 14 (by simp)) (d2 15 (by simp)) (d2 17 (by simp))).of (e2 14 (by simp)) (e2 15 (by simp)) (e2 17 (by simp))
  have G8 : ∀ v, v < 8 → s8 18 v = mkb (Rg P v) := fun v hv => by rw [e2 18 (by simp), d2 18 (by simp)]; exact G6 v hv
  have O8 : OY P s8 := ⟨fun c hc => by rw [e3 c (by omega)]; exact O7.1 c hc, fun v hv => by rw [e2 27 (by simp)]; exact O7.2.1 v hv, fun v hv => by rw [e2 28 (by simp)]; exact O7.2.2 v hv⟩
  obtain ⟨s9, f1, f2, K9, z9⟩ := x_markPoints X8 U8 G8 O8 e4 ho
  rw [f1, ob_e]
  have X9 := X8.fx f2 (by simp)
  have N9 : NX P s9 := N8.of (by rw [f2 11 (by simp)]) (f2 12 (by simp)) (f2 13 (by simp))
  have O9 : OY P s9 := ⟨fun c hc => by rw [f2 19 (by simp)]; exact O8.1 c hc, fun v hv => by rw [f2 27 (by simp)]; exact O8.2.1 v hv, fun v hv => by rw [f2 28 (by simp)]; exact O8.2.2 v hv⟩
  rw [X9.1]
  obtain ⟨s10, g1, g2, g3⟩ := x_findScopes X9 N9 O9 K9 ho z9
  rw [g1, ob_e]
  have X10 := X9.fx g2 (by simp)
  have O10 : OY P s10 := ⟨fun c hc => by rw [g2 19 (by simp)]; exact O9.1 c hc, fun v hv => by rw [g2 27 (by simp)]; exact O9.2.1 v hv, fun v hv => by rw [g2 28 (by simp)]; exact O9.2.2 v hv⟩
  have K10 : KX P s10 := fun k hk => by rw [g2 24 (by simp), g2 25 (by simp), g2 26 (by simp)]; exact K9 k hk
  obtain ⟨s11, i1, i2, i3⟩ := x_findClashes X10 O10 K10 ho g3
  rw [i1, ob_e]
  have X11 := X10.fx i2 (by simp)
  have O11 : OY P s11 := ⟨fun c hc => by rw [i2 19 (by simp)]; exact O10.1 c hc, fun v hv => by rw [i2 27 (by simp)]; exact O10.2.1 v hv, fun v hv => by rw [i2 28 (by simp)]; exact O10.2.2 v hv⟩
  have H11 : ∀ i, i < 8 * pn P → s11 20 i = mkb (Ho P i) := fun i hi => by rw [i2 20 (by simp), g2 20 (by simp), f2 20 (by simp)]; exact e4 i hi
  obtain ⟨s12, j1, j2, j3⟩ := x_findMisuses X11 O11 H11 ho i3
  rw [j1, ob_e]
  have X12 := X11.fx j2 (by simp)
  rw [X12.1]
  obtain ⟨s13, k1, k2, k3, k4⟩ := x_addUp ho j3
  rw [k1, ob_e, lb_e]
  have A : ∀ {L : List Nat} {a b : sh_S}, Fx L a b → (∀ k, k ∈ L → k ∈ allK) → Fx allK a b := fun h hs => h.mo hs
  have F : Fx allK s s13 := (((((((((((A a2 (by decide)).tr (A F3 (by decide))).tr (A b2 (by decide))).tr (A F5 (by decide))).tr (A c2 (by decide))).tr (A d2 (by decide))).tr (A e2 (by decide))).tr (A f2 (by decide))).tr (A g2 (by decide))).tr (A i2 (by decide))).tr (A j2 (by decide))).tr (A k2 (by decide))
  have hmem : ∀ k, k ∈ allK → 11 ≤ k ∧ k ≤ 30 := by decide
  refine ⟨_, rfl, fun k hk => ?_, fun j hj => ?_, fun k hk => ?_, by rw [ur_s, upd_s], ?_⟩
  · rw [ur_n _ _ (by omega)]; exact F k (fun q => by have := hmem k q; omega)
  · rw [ur_s, upd_n _ _ hj, F 10 (by decide)]
  · rw [ur_n _ _ (by omega)]; exact F k (fun q => by have := hmem k q; omega)
  · have C13 : CX P s13 := by
      refine ⟨N9.of ?_ ?_ ?_, ?_, U8.of ?_ ?_ ?_, fun k hk => ?_, fun v hv => ?_, ⟨fun c hc => ?_, fun v hv => ?_, fun v hv => ?_⟩, fun i hi => ?_, fun k hk => ?_, fun k hk => ?_, fun r hr => ?_, k3, k4⟩
      · rw [k2 11 (by simp), j2 11 (by simp), i2 11 (by simp), g2 11 (by simp)]
      · rw [k2 12 (by simp), j2 12 (by simp), i2 12 (by simp), g2 12 (by simp)]
      · rw [k2 13 (by simp), j2 13 (by simp), i2 13 (by simp), g2 13 (by simp)]
      · rw [k2 11 (by simp), j2 11 (by simp), i2 11 (by simp), g2 11 (by simp), f2 11 (by simp), e2 11 (by simp), d2 11 (by simp)]; exact R6
      · rw [k2 14 (by simp), j2 14 (by simp), i2 14 (by simp), g2 14 (by simp), f2 14 (by simp)]
      · rw [k2 15 (by simp), j2 15 (by simp), i2 15 (by simp), g2 15 (by simp), f2 15 (by simp)]
      · rw [k2 17 (by simp), j2 17 (by simp), i2 17 (by simp), g2 17 (by simp), f2 17 (by simp)]
      · rw [k2 16 (by simp), j2 16 (by simp), i2 16 (by simp), g2 16 (by simp), f2 16 (by simp), e2 16 (by simp), d2 16 (by simp)]; exact L6 k hk
      · rw [k2 18 (by simp), j2 18 (by simp), i2 18 (by simp), g2 18 (by simp), f2 18 (by simp)]; exact G8 v hv
      · rw [k2 19 (by simp), j2 19 (by simp)]; exact O11.1 c hc
      · rw [k2 27 (by simp), j2 27 (by simp)]; exact O11.2.1 v hv
      · rw [k2 28 (by simp), j2 28 (by simp)]; exact O11.2.2 v hv
      · rw [k2 20 (by simp), j2 20 (by simp)]; exact H11 i hi
      · rw [k2 24 (by simp), j2 24 (by simp), i2 24 (by simp), k2 25 (by simp), j2 25 (by simp), i2 25 (by simp), k2 26 (by simp), j2 26 (by simp), i2 26 (by simp)]; exact K10 k hk
      · rw [k2 22 (by simp), j2 22 (by simp), i2 22 (by simp), k2 23 (by simp), j2 23 (by simp), i2 23 (by simp)]; exact g3 k hk
      · rw [k2 30 (by simp)]; exact j3 r hr
    exact C13.of (fun k h1 h2 => ur_n _ _ (by omega))
theorem x_examine (hX : LX P s) (ho : pOK P) (hc : s 10 1 = 0 ∨ (s 10 1 = 1 ∧ CX P s)) : ∃ s', f_X0_examine s = some s' ∧ (∀ k, k < 10 → s' k = s k) ∧ s' 10 1 = 1 ∧ CX P s' := by
  unfold f_X0_examine
  rcases hc with hc | ⟨hc, hC⟩
  · rw [if_pos hc]
    obtain ⟨s', h1, h2, -, -, h3, h4⟩ := x_find hX ho
    rw [h1, ob_e]
    exact ⟨s', rfl, h2, h3, h4⟩
  · rw [if_neg (by rw [hc]; decide), ob_e]
    exact ⟨s, rfl, fun _ _ => rfl, hc, hC⟩
end XE
theorem CKi : ∀ j, j < 31 → em_CK[j]? = some j := by decide +kernel
theorem TRi : ∀ j, j < 31 → em_TR[j]? = some (if j < 10 then j else j + 21) := by decide +kernel
theorem LIi : ∀ j, j < 10 → em_LI[j]? = some j := by decide +kernel
theorem rs_get {em : List Nat} {σ : sh_S} {j k : Nat} (h : em[j]? = some k) : rs em σ j = σ k := by
  unfold rs
  rw [List.getD_eq_getElem?_getD, h]; rfl
theorem mg_in {em : List Nat} {σ σ2 : sh_S} {k : Nat} (j : Nat) (h : em[j]? = some k) (hu : ∀ j', em[j']? = some k → j' = j) : mg em 0 σ σ2 k = σ2 j := by
  rcases mg_at σ σ2 em 0 k with ⟨j', h1, h2⟩ | ⟨h1, -⟩
  · rw [hu j' h1, Nat.zero_add] at h2; exact h2
  · exact absurd (List.mem_of_getElem? h) h1
theorem mg_out {em : List Nat} {σ σ2 : sh_S} {k : Nat} (h : k ∉ em) : mg em 0 σ σ2 k = σ k := by
  rcases mg_at σ σ2 em 0 k with ⟨j', h1, -⟩ | ⟨-, h2⟩
  · exact absurd (List.mem_of_getElem? h1) h
  · exact h2
theorem CK_rs (σ : sh_S) {k : Nat} (h : k < 31) : rs em_CK σ k = σ k := rs_get (CKi k h)
theorem CK_lt {j k : Nat} (h : em_CK[j]? = some k) : k = j ∧ j < 31 := by
  have hj : j < 31 := (List.getElem?_eq_some_iff.mp h).1
  rw [CKi j hj] at h; cases h
  exact ⟨rfl, hj⟩
theorem CK_in (σ σ2 : sh_S) {k : Nat} (h : k < 31) : mg em_CK 0 σ σ2 k = σ2 k := mg_in k (CKi k h) (fun j' h' => (CK_lt h').1.symm)
theorem CK_out (σ σ2 : sh_S) {k : Nat} (h : 31 ≤ k) : mg em_CK 0 σ σ2 k = σ k := mg_out (fun q => by
  obtain ⟨j, hj⟩ := List.getElem?_of_mem q
  have := CK_lt hj; omega)
theorem TR_rs1 (σ : sh_S) {k : Nat} (h : k < 10) : rs em_TR σ k = σ k := by
  rw [rs_get (TRi k (by omega)), if_pos h]
theorem TR_rs2 (σ : sh_S) {k : Nat} (h1 : 10 ≤ k) (h : k < 31) : rs em_TR σ k = σ (k + 21) := by
  rw [rs_get (TRi k h), if_neg (by omega)]
theorem TR_lt {j k : Nat} (h : em_TR[j]? = some k) : k = (if j < 10 then j else j + 21) ∧ j < 31 := by
  have hj : j < 31 := (List.getElem?_eq_some_iff.mp h).1
  rw [TRi j hj] at h; cases h
  exact ⟨rfl, hj⟩
theorem TR_in1 (σ σ2 : sh_S) {k : Nat} (h : k < 10) : mg em_TR 0 σ σ2 k = σ2 k := mg_in k (by rw [TRi k (by omega), if_pos h]) (fun j' h' => by
  have := (TR_lt h').1
  split at this <;> omega)
theorem TR_in2 (σ σ2 : sh_S) {k : Nat} (h1 : 10 ≤ k) (h : k < 31) : mg em_TR 0 σ σ2 (k + 21) = σ2 k := mg_in k (by rw [TRi k h, if_neg (by omega)]) (fun j' h' => by
  have := (TR_lt h').1
  split at this <;> omega)
theorem TR_out (σ σ2 : sh_S) {k : Nat} (h1 : 10 ≤ k) (h : k < 31 ∨ 52 ≤ k) : mg em_TR 0 σ σ2 k = σ k := mg_out (fun q => by
  obtain ⟨j, hj⟩ := List.getElem?_of_mem q
  have := TR_lt hj
  have h2 := this.1
  split at h2 <;> omega)
theorem LI_rs (σ : sh_S) {k : Nat} (h : k < 10) : rs em_LI σ k = σ k := rs_get (LIi k h)
theorem LI_lt {j k : Nat} (h : em_LI[j]? = some k) : k = j ∧ j < 10 := by
  have hj : j < 10 := (List.getElem?_eq_some_iff.mp h).1
  rw [LIi j hj] at h; cases h
  exact ⟨rfl, hj⟩
theorem LI_in (σ σ2 : sh_S) {k : Nat} (h : k < 10) : mg em_LI 0 σ σ2 k = σ2 k := mg_in k (LIi k h) (fun j' h' => (LI_lt h').1.symm)
theorem LI_out (σ σ2 : sh_S) {k : Nat} (h : 10 ≤ k) : mg em_LI 0 σ σ2 k = σ k := mg_out (fun q => by
  obtain ⟨j, hj⟩ := List.getElem?_of_mem q
  have := LI_lt hj; omega)
