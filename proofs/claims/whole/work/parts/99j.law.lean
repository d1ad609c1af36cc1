theorem XLi : ∀ j, j < 74 → em_XL[j]? = some j := by decide +kernel
theorem MLi : ∀ j, j < 27 → em_ML[j]? = some (j + 74) := by decide +kernel
theorem XL_rs (σ : sh_S) {k : Nat} (h : k < 74) : rs em_XL σ k = σ k := rs_get (XLi k h)
theorem XL_lt {j k : Nat} (h : em_XL[j]? = some k) : k = j ∧ j < 74 := by
  have hj : j < 74 := (List.getElem?_eq_some_iff.mp h).1
  rw [XLi j hj] at h; cases h
  exact ⟨rfl, hj⟩
theorem XL_in (σ σ2 : sh_S) {k : Nat} (h : k < 74) : mg em_XL 0 σ σ2 k = σ2 k := mg_in k (XLi k h) (fun j' h' => (XL_lt h').1.symm)
theorem XL_out (σ σ2 : sh_S) {k : Nat} (h : 74 ≤ k) : mg em_XL 0 σ σ2 k = σ k := mg_out (fun q => by
  obtain ⟨j, hj⟩ := List.getElem?_of_mem q
  have := XL_lt hj; omega)
theorem ML_rs (σ : sh_S) {k : Nat} (h : k < 27) : rs em_ML σ k = σ (k + 74) := rs_get (MLi k h)
theorem ML_lt {j k : Nat} (h : em_ML[j]? = some k) : k = j + 74 ∧ j < 27 := by
  have hj : j < 27 := (List.getElem?_eq_some_iff.mp h).1
  rw [MLi j hj] at h; cases h
  exact ⟨rfl, hj⟩
theorem ML_in (σ σ2 : sh_S) {k : Nat} (h : k < 27) : mg em_ML 0 σ σ2 (k + 74) = σ2 k := mg_in k (MLi k h) (fun j' h' => by have := (ML_lt h').1; omega)
theorem ML_out (σ σ2 : sh_S) {k : Nat} (h : k < 74) : mg em_ML 0 σ σ2 k = σ k := mg_out (fun q => by
  obtain ⟨j, hj⟩ := List.getElem?_of_mem q
  have := ML_lt hj; omega)
theorem XI.ext {P : Pg} {T : SH} {s t : sh_S} (h : XI P T s) (e : ∀ k, k < 74 → t k = s k) : XI P T t := by
  refine h.sh (fun k hk => e k (by omega)) ⟨fun k hk => ?_, by rw [e 73 (by omega)]; exact h.2.2.2.2.2.2⟩
  rw [e (64 + 2 * k) (by omega), e (64 + 2 * k + 1) (by omega)]
  exact h.2.2.2.2.2.1 k hk
theorem MI.ext {P : Pg} {T : SH} {s t : sh_S} (h : MI P T s) (e : ∀ k, k < 27 → t k = s k) : MI P T t := ⟨h.1.sh (by rw [e 0 (by omega)]) (fun k k1 k2 => e k (by omega)), h.2.of (fun k k1 k2 => e k (by omega)) (by rw [e 0 (by omega)])⟩
theorem RLs.ext {s m s' m' : sh_S} (h : RLs s m) (e1 : ∀ k, k < 74 → s' k = s k) (e2 : ∀ k, k < 27 → m' k = m k) : RLs s' m' := by
  obtain ⟨P, T, hP, hT, h1, h2⟩ := h
  exact ⟨P, T, hP, hT, h1.ext e1, h2.ext e2⟩
def RLL (s : sh_S) : Prop := RLs (rs em_XL s) (rs em_ML s)
theorem RLL_mk {s s1 m1 : sh_S} (h : RLs s1 m1) : RLL (mg em_ML 0 (mg em_XL 0 s s1) m1) := h.ext (fun k hk => by rw [XL_rs _ hk, ML_out _ _ hk, XL_in _ _ hk]) (fun k hk => by rw [ML_rs _ hk, ML_in _ _ hk])
theorem RLL_x {s s1 : sh_S} (h : RLs s1 (rs em_ML s)) : RLL (mg em_XL 0 s s1) := h.ext (fun k hk => by rw [XL_rs _ hk, XL_in _ _ hk]) (fun k hk => by rw [ML_rs _ hk, ML_rs _ hk, XL_out _ _ (by omega)])
theorem RLL_m {s s1 : sh_S} (h : RLL s) : RLs (rs em_XL s) (rs em_ML (mg em_XL 0 s s1)) := RLs.ext h (fun _ _ => rfl) (fun k hk => by rw [ML_rs _ hk, ML_rs _ hk, XL_out _ _ (by omega)])
abbrev LE : Type := (Int32 × sh_S) ⊕ (sh_S ⊕ (Int32 × sh_S))
theorem law_one {f g : sh_S → Option (Int32 × sh_S)} (hS : Sim f g) {s : sh_S} (h : RLL s) (i : Int32) : ∃ s', ob2 (f (rs em_XL s)) (fun v s11 => lb (mg em_XL 0 s s11) (fun s12 => ob2 (g (rs em_ML s12)) (fun w s18 => lb (mg em_ML 0 s12 s18) (fun s19 => (if v = w then lb i (fun v20 => some (Sum.inl (v20, s19))) else some (Sum.inr (Sum.inr ((0 : Int32), s19)))))))) = some (.inl (i, s') : LE) ∧ RLL s' := by
  obtain ⟨P, T, hP, hT, h1, h2⟩ := h
  obtain ⟨a, s', m', a1, a2, a3⟩ := hS _ _ ⟨P, T, hP, hT, h1, h2⟩
  obtain ⟨a', s'', m'', b1, b2, b3⟩ := hS _ _ (RLL_m (s1 := s') ⟨P, T, hP, hT, h1, h2⟩)
  rw [a1] at b1
  cases b1
  rw [a1, ob2_e, lb_e, b2, ob2_e, lb_e, if_pos rfl, lb_e]
  exact ⟨_, rfl, RLL_mk b3⟩
theorem law_long {f g : sh_S → Option (Int64 × sh_S)} (hS : Sim f g) {s : sh_S} (h : RLL s) (i : Int32) : ∃ s', ob2 (f (rs em_XL s)) (fun v s11 => lb (mg em_XL 0 s s11) (fun s12 => ob2 (g (rs em_ML s12)) (fun w s18 => lb (mg em_ML 0 s12 s18) (fun s19 => (if (lg_cmp v w) = 0 then lb i (fun v20 => some (Sum.inl (v20, s19))) else some (Sum.inr (Sum.inr ((0 : Int32), s19)))))))) = some (.inl (i, s') : LE) ∧ RLL s' := by
  obtain ⟨P, T, hP, hT, h1, h2⟩ := h
  obtain ⟨a, s', m', a1, a2, a3⟩ := hS _ _ ⟨P, T, hP, hT, h1, h2⟩
  obtain ⟨a', s'', m'', b1, b2, b3⟩ := hS _ _ (RLL_m (s1 := s') ⟨P, T, hP, hT, h1, h2⟩)
  rw [a1] at b1
  cases b1
  rw [a1, ob2_e, lb_e, b2, ob2_e, lb_e, if_pos ((lg_cmp_eq _ _).mpr rfl), lb_e]
  exact ⟨_, rfl, RLL_mk b3⟩
theorem law_code (x y : Int32) {s : sh_S} (h : RLL s) (i : Int32) : ∃ s', ob (f_X9_code x y (rs em_XL s)) (fun v => ob (f_X10_code x y (rs em_ML s)) (fun w => (if v = w then lb i (fun v20 => some (Sum.inl (v20, s))) else some (Sum.inr (Sum.inr ((0 : Int32), s)))))) = some (.inl (i, s') : LE) ∧ RLL s' := by
  obtain ⟨a, a1, a2⟩ := sim_code x y h
  rw [a1, ob_e, a2, ob_e, if_pos rfl, lb_e]
  exact ⟨s, rfl, h⟩
theorem law_next (x : Int32) {s : sh_S} (h : RLL s) (i : Int32) : ∃ s', ob2 (f_X9_next x (rs em_XL s)) (fun v s11 => lb (mg em_XL 0 s s11) (fun s12 => ob (f_X10_next x (rs em_ML s12)) (fun w => (if v = w then lb i (fun v20 => some (Sum.inl (v20, s12))) else some (Sum.inr (Sum.inr ((0 : Int32), s12))))))) = some (.inl (i, s') : LE) ∧ RLL s' := by
  obtain ⟨a0, s0, c1, -, -⟩ := sim_next x h
  obtain ⟨a, s', a1, a2, a3⟩ := sim_next x (RLL_m (s1 := s0) h)
  rw [c1] at a1
  cases a1
  rw [c1, ob2_e, lb_e, a2, ob_e, if_pos rfl, lb_e]
  refine ⟨_, rfl, RLL_x (RLs.ext a3 (fun _ _ => rfl) (fun k hk => ?_))⟩
  rw [ML_rs _ hk, ML_rs _ hk, XL_out _ _ (by omega)]
def P0 : Pg := (0, fun _ => 0, fun _ => 0, fun _ => 0, fun _ => 0)
def T0 : SH := (fun _ => none, fun _ => 0, fun _ _ => 0, 0)
theorem RLL_0 : RLL s0L := by
  have hP : pOK P0 := ⟨Nat.zero_le _, fun k => ⟨by show 0 < 10; omega, by show 0 < 8; omega, by show 0 < 48; omega, by show 0 < 24; omega⟩⟩
  have hT : SOK T0 := ⟨fun k f e => (by cases e), fun k => Nat.zero_le _⟩
  have h1 : XI P0 T0 s0L := by
    refine ⟨⟨rfl, fun k hk => ⟨rfl, rfl, rfl, rfl, rfl, (show (0 : Int32) = nI (0 / 6) by decide), (show (0 : Int32) = nI (0 % 6) by decide), rfl, rfl⟩⟩, Or.inl rfl, ⟨Or.inl rfl, Or.inl rfl⟩, fun i hi hs => ?_, Or.inl rfl, fun k hk => ⟨?_, fun e => absurd rfl e⟩, rfl⟩
    · have hs' : (-1 : Int32) = nI i := hs
      exact absurd hs'.symm (neg1 (by omega))
    · rcases lt4 hk with rfl | rfl | rfl | rfl <;> rfl
  have h2 : MI P0 T0 (fun _ _ => 0) := ⟨⟨rfl, fun k hk => ⟨rfl, rfl, rfl, rfl⟩⟩, fun k hk => ⟨rfl, fun f e => (by cases e)⟩, rfl⟩
  refine ⟨P0, T0, hP, hT, h1.ext (fun k hk => XL_rs _ hk), h2.ext (fun k hk => ?_)⟩
  rw [ML_rs _ hk]
  have : ∀ j, j < 27 → s0L (j + 74) = fun _ => 0 := fun j hj => by
    unfold s0L
    split <;> first | omega | rfl
  exact this k hk
theorem law_step {L : Nat} {xs : Nat → Int32} (hL : L ≤ 3072) {j : Nat} (hj : 6 * j + 6 ≤ L) {s : sh_S} (h : RLL s) : ∃ s', f_L_law_L18 L xs (nI (6 * j)) s = some (.inl (nI (6 * (j + 1)), s')) ∧ RLL s' := by
  have e1 : nI (6 * j) + (1 : Int32) = nI (6 * j + 1) := nI_add (6 * j) 1
  have e2 : nI (6 * j) + (2 : Int32) = nI (6 * j + 2) := nI_add (6 * j) 2
  have e3 : nI (6 * j) + (3 : Int32) = nI (6 * j + 3) := nI_add (6 * j) 3
  have e4 : nI (6 * j) + (4 : Int32) = nI (6 * j + 4) := nI_add (6 * j) 4
  have e5 : nI (6 * j) + (5 : Int32) = nI (6 * j + 5) := nI_add (6 * j) 5
  have e6 : nI (6 * j) + (6 : Int32) = nI (6 * (j + 1)) := nI_add (6 * j) 6
  have hlt : ¬ (Int32.ofNat L - (6 : Int32)) < nI (6 * j) := by
    have : (nI L - nI 6).toInt = (L : Int) - (6 : Nat) := pk_sub_toInt (by omega) (by omega)
    show ¬ (nI L - nI 6) < nI (6 * j)
    rw [i32_lt, this, nI_toInt (by omega)]
    omega
  unfold f_L_law_L18
  rw [if_neg hlt, e1, e2, e3, e4, e5, e6]
  simp only [gu_t (inb_n (show 6 * j < L by omega) (show L < 2 ^ 31 by omega)), gu_t (inb_n (show 6 * j + 1 < L by omega) (show L < 2 ^ 31 by omega)), gu_t (inb_n (show 6 * j + 2 < L by omega) (show L < 2 ^ 31 by omega)), gu_t (inb_n (show 6 * j + 3 < L by omega) (show L < 2 ^ 31 by omega)), gu_t (inb_n (show 6 * j + 4 < L by omega) (show L < 2 ^ 31 by omega)), gu_t (inb_n (show 6 * j + 5 < L by omega) (show L < 2 ^ 31 by omega))]
  rw [lb_e]
  generalize xs (ix (nI (6 * j))) &&& (31 : Int32) = v
  generalize xs (ix (nI (6 * j + 1))) = x1
  generalize xs (ix (nI (6 * j + 2))) = x2
  generalize xs (ix (nI (6 * j + 3))) = x3
  generalize xs (ix (nI (6 * j + 4))) = x4
  generalize xs (ix (nI (6 * j + 5))) = x5
  by_cases q0 : v = (0 : Int32)
  · rw [if_pos q0]; exact law_one (sim_add x1 x2 x3 x4) h _
  rw [if_neg q0]
  by_cases q1 : v = (1 : Int32)
  · rw [if_pos q1]; exact law_one (sim_alter x1 x2 x3 x4 x5) h _
  rw [if_neg q1]
  by_cases q2 : v = (2 : Int32)
  · rw [if_pos q2]; exact law_one sim_back h _
  rw [if_neg q2]
  by_cases q3 : v = (3 : Int32)
  · rw [if_pos q3]; exact law_one sim_clear h _
  rw [if_neg q3]
  by_cases q4 : v = (4 : Int32)
  · rw [if_pos q4]; exact law_code x1 x2 h _
  rw [if_neg q4]
  by_cases q5 : v = (5 : Int32)
  · rw [if_pos q5]; exact law_one (sim_read x1) h _
  rw [if_neg q5]
  by_cases q6 : v = (6 : Int32)
  · rw [if_pos q6]; exact law_next x1 h _
  rw [if_neg q6]
  by_cases q7 : v = (7 : Int32)
  · rw [if_pos q7]; exact law_one sim_reached h _
  rw [if_neg q7]
  by_cases q8 : v = (8 : Int32)
  · rw [if_pos q8]; exact law_one (sim_live x1) h _
  rw [if_neg q8]
  by_cases q9 : v = (9 : Int32)
  · rw [if_pos q9]; exact law_one (sim_region x1) h _
  rw [if_neg q9]
  by_cases q10 : v = (10 : Int32)
  · rw [if_pos q10]; exact law_one (sim_holds x1 x2) h _
  rw [if_neg q10]
  by_cases q11 : v = (11 : Int32)
  · rw [if_pos q11]; exact law_one sim_loans h _
  rw [if_neg q11]
  by_cases q12 : v = (12 : Int32)
  · rw [if_pos q12]; exact law_one (sim_scope x1) h _
  rw [if_neg q12]
  by_cases q13 : v = (13 : Int32)
  · rw [if_pos q13]; exact law_one (sim_active x1) h _
  rw [if_neg q13]
  by_cases q14 : v = (14 : Int32)
  · rw [if_pos q14]; exact law_one (sim_bears x1) h _
  rw [if_neg q14]
  by_cases q15 : v = (15 : Int32)
  · rw [if_pos q15]; exact law_one sim_errors h _
  rw [if_neg q15]
  by_cases q16 : v = (16 : Int32)
  · rw [if_pos q16]; exact law_one (sim_error x1 x2) h _
  rw [if_neg q16]
  by_cases q17 : v = (17 : Int32)
  · rw [if_pos q17]; exact law_one (sim_witness x1 x2) h _
  rw [if_neg q17]
  by_cases q18 : v = (18 : Int32)
  · rw [if_pos q18]; exact law_one (sim_mend x1) h _
  rw [if_neg q18]
  by_cases q19 : v = (19 : Int32)
  · rw [if_pos q19]; exact law_one sim_soft h _
  rw [if_neg q19]
  by_cases q20 : v = (20 : Int32)
  · rw [if_pos q20]; exact law_one (sim_run x1 x2 x3) h _
  rw [if_neg q20]
  by_cases q21 : v = (21 : Int32)
  · rw [if_pos q21]; exact law_one (sim_sheet x1 x2 x3) h _
  rw [if_neg q21]
  by_cases q22 : v = (22 : Int32)
  · rw [if_pos q22]; exact law_one (sim_lose x1) h _
  rw [if_neg q22]
  by_cases q23 : v = (23 : Int32)
  · rw [if_pos q23]; exact law_one (sim_put x1 x2 x3 x4) h _
  rw [if_neg q23]
  by_cases q24 : v = (24 : Int32)
  · rw [if_pos q24]; exact law_one (sim_get x1 x2 x3) h _
  rw [if_neg q24]
  by_cases q25 : v = (25 : Int32)
  · rw [if_pos q25]; exact law_one (sim_copy x1 x2 x3 x4 x5) h _
  rw [if_neg q25]
  by_cases q26 : v = (26 : Int32)
  · rw [if_pos q26]; exact law_one (sim_write x1) h _
  rw [if_neg q26]
  by_cases q27 : v = (27 : Int32)
  · rw [if_pos q27]; exact law_one (sim_count x1) h _
  rw [if_neg q27]
  by_cases q28 : v = (28 : Int32)
  · rw [if_pos q28]; exact law_long sim_digest h _
  rw [if_neg q28]
  exact ⟨s, rfl, h⟩
theorem law_pure (L : Nat) (xs : Nat → Int32) (hL : L ≤ 3072) : ∃ s9, f_L_law L xs s0L = some (1, s9) := by
  have hh := lp_for (body := fun q : Int32 × sh_S => f_L_law_L18 L xs q.1 q.2) (fun j (s : sh_S) => (nI (6 * j), s)) (L / 6) (fun _ s => RLL s) (fun e => ∃ s, e = .inl s)
    (fun j s hj hs => law_step hL (by omega) hs)
    (fun s hs => ⟨.inl s, by
      show f_L_law_L18 L xs (nI (6 * (L / 6))) s = _
      have hlt : (Int32.ofNat L - (6 : Int32)) < nI (6 * (L / 6)) := by
        have : (nI L - nI 6).toInt = (L : Int) - (6 : Nat) := pk_sub_toInt (by omega) (by omega)
        show (nI L - nI 6) < nI (6 * (L / 6))
        rw [i32_lt, this, nI_toInt (by omega)]
        omega
      unfold f_L_law_L18
      rw [if_pos hlt], s, rfl⟩)
    FU 0 s0L (Nat.zero_le _) RLL_0 (FU_gt (by omega))
  obtain ⟨e, h1, s, rfl⟩ := hh
  have h1' : lp (fun q : Int32 × sh_S => f_L_law_L18 L xs q.1 q.2) FU ((0 : Int32), s0L) = some (.inl s) := h1
  unfold f_L_law
  rw [h1', ob_e]
  exact ⟨s, rfl⟩
