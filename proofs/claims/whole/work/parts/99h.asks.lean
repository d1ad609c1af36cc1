theorem ob2_id {α β : Type} (x : Option (α × β)) : ob2 x (fun v s => some (v, s)) = x := by
  cases x with
  | none => rfl
  | some q => rfl
theorem x_isVariable (x : Int32) : f_X9_isVariable x = some (bi (inr x 0 7)) := by
  unfold f_X9_isVariable
  rw [x_bw, ob_e, gu_t (bi_z _)]
  rfl
theorem x_bwr (x lo hi : Int32) : f_X9_isBetween x lo hi = some (bi (inr x lo hi)) := x_bw x lo hi
theorem sim_reached : Sim f_X9_reached f_X10_reached := Sim.q (fun P T hP hT => ⟨_, qx_reached hP, fun m h => by
  unfold f_X10_reached
  rw [ob2_id]
  exact qm_reachedOf hP m h⟩)
theorem sim_loans : Sim f_X9_loans f_X10_loans := Sim.q (fun P T hP hT => ⟨_, qx_loans hP, fun m h => by
  unfold f_X10_loans
  rw [ob2_id]
  exact qm_loansOf hP m h⟩)
theorem sim_errors : Sim f_X9_errors f_X10_errors := Sim.q (fun P T hP hT => ⟨_, qx_errors hP, fun m h => by
  unfold f_X10_errors
  rw [ob2_id]
  exact qm_errorsOf hP m h⟩)
theorem sim_soft : Sim f_X9_soft f_X10_soft := Sim.q (fun P T hP hT => ⟨_, qx_soft hP, fun m h => by
  unfold f_X10_soft
  rw [ob2_id]
  exact qm_softOf hP m h⟩)
theorem sim_live (x : Int32) : Sim (f_X9_live x) (f_X10_live x) := Sim.q (fun P T hP hT => by
  cases hx : inr x 0 7 with
  | false =>
    refine ⟨-2, fun s h => ⟨s, ?_, h⟩, fun m h => ⟨m, ?_, h⟩⟩
    · unfold f_X9_live
      rw [x_isVariable, hx, ob_e, if_pos (show bi false = (0 : Int32) from rfl), ob2_e]
    · unfold f_X10_live
      rw [m_inr, hx, ob_e, if_pos (show bi false = (0 : Int32) from rfl), ob2_e]
  | true =>
    obtain ⟨v, hv, rfl⟩ := inr_of (b := 7) (by omega) hx
    refine ⟨_, qx_live hP (by omega), fun m h => ?_⟩
    have hx' : inr (nI v) 0 7 = true := hx
    unfold f_X10_live
    rw [m_inr, hx', ob_e, if_neg (show ¬ bi true = (0 : Int32) by decide), ob2_id, ob2_id]
    exact qm_liveOf hP (by omega) m h)
theorem sim_region (x : Int32) : Sim (f_X9_region x) (f_X10_region x) := Sim.q (fun P T hP hT => by
  cases hx : inr x 0 7 with
  | false =>
    refine ⟨-2, fun s h => ⟨s, ?_, h⟩, fun m h => ⟨m, ?_, h⟩⟩
    · unfold f_X9_region
      rw [x_isVariable, hx, ob_e, if_pos (show bi false = (0 : Int32) from rfl), ob2_e]
    · unfold f_X10_region
      rw [m_inr, hx, ob_e, if_pos (show bi false = (0 : Int32) from rfl), ob2_e]
  | true =>
    obtain ⟨v, hv, rfl⟩ := inr_of (b := 7) (by omega) hx
    refine ⟨_, qx_region hP (by omega), fun m h => ?_⟩
    have hx' : inr (nI v) 0 7 = true := hx
    unfold f_X10_region
    rw [m_inr, hx', ob_e, if_neg (show ¬ bi true = (0 : Int32) by decide), ob2_id, ob2_id]
    exact qm_regionOf hP (by omega) m h)
theorem sim_next (x : Int32) {s m : sh_S} (h : RLs s m) : ∃ a s', f_X9_next x s = some (a, s') ∧ f_X10_next x m = some a ∧ RLs s' m := by
  obtain ⟨P, T, hP, hT, h1, h2⟩ := h
  have hn := hP.1
  cases hz : isPt (pn P) x with
  | false =>
    refine ⟨-2, s, ?_, ?_, P, T, hP, hT, h1, h2⟩
    · unfold f_X9_next
      rw [LXl h1.1, hz, ob_e, if_pos (show bi false = (0 : Int32) from rfl)]
    · unfold f_X10_next
      rw [m_isPoint h2.1 hn, hz, ob_e, if_pos (show bi false = (0 : Int32) from rfl), ob_e]
  | true =>
    obtain ⟨k, hk, rfl⟩ := isPt_of hn hz
    obtain ⟨s', a1, a2⟩ := qx_next (T := T) hP hk s h1
    refine ⟨_, s', a1, ?_, P, T, hP, hT, a2, h2⟩
    unfold f_X10_next
    rw [m_isPoint h2.1 hn, hz, ob_e, if_neg (show ¬ bi true = (0 : Int32) by decide), m_nextOf h2.1 hP (by omega), ob_e, ob_e]
theorem sim_scope (x : Int32) : Sim (f_X9_scope x) (f_X10_scope x) := Sim.q (fun P T hP hT => by
  cases hz : isPt (pn P) x with
  | false =>
    refine ⟨-2, fun s h => ⟨s, ?_, h⟩, fun m h => ⟨m, ?_, h⟩⟩
    · unfold f_X9_scope
      rw [LXl h.1, hz, ob_e, if_pos (show bi false = (0 : Int32) from rfl), ob2_e]
    · unfold f_X10_scope
      rw [m_isPoint h.1 hP.1, hz, ob_e, if_pos (show bi false = (0 : Int32) from rfl), ob2_e]
  | true =>
    obtain ⟨k, hk, rfl⟩ := isPt_of hP.1 hz
    refine ⟨_, qx_scope hP hk, fun m h => ?_⟩
    unfold f_X10_scope
    rw [m_isPoint h.1 hP.1, hz, ob_e, if_neg (show ¬ bi true = (0 : Int32) by decide), ob2_id, ob2_id]
    exact qm_scopeOf hP hk m h)
theorem sim_active (x : Int32) : Sim (f_X9_active x) (f_X10_active x) := Sim.q (fun P T hP hT => by
  cases hz : isPt (pn P) x with
  | false =>
    refine ⟨-2, fun s h => ⟨s, ?_, h⟩, fun m h => ⟨m, ?_, h⟩⟩
    · unfold f_X9_active
      rw [LXl h.1, hz, ob_e, if_pos (show bi false = (0 : Int32) from rfl), ob2_e]
    · unfold f_X10_active
      rw [m_isPoint h.1 hP.1, hz, ob_e, if_pos (show bi false = (0 : Int32) from rfl), ob2_e]
  | true =>
    obtain ⟨k, hk, rfl⟩ := isPt_of hP.1 hz
    refine ⟨_, qx_active hP hk, fun m h => ?_⟩
    unfold f_X10_active
    rw [m_isPoint h.1 hP.1, hz, ob_e, if_neg (show ¬ bi true = (0 : Int32) by decide), ob2_id, ob2_id]
    exact qm_activeOf hP hk m h)
theorem sim_bears (x : Int32) : Sim (f_X9_bears x) (f_X10_bears x) := Sim.q (fun P T hP hT => by
  cases hz : isPt (pn P) x with
  | false =>
    refine ⟨-2, fun s h => ⟨s, ?_, h⟩, fun m h => ⟨m, ?_, h⟩⟩
    · unfold f_X9_bears
      rw [LXl h.1, hz, ob_e, if_pos (show bi false = (0 : Int32) from rfl)]
    · unfold f_X10_bears
      rw [m_isPoint h.1 hP.1, hz, ob_e, if_pos (show bi false = (0 : Int32) from rfl), ob2_e]
  | true =>
    obtain ⟨k, hk, rfl⟩ := isPt_of hP.1 hz
    refine ⟨_, qx_bears hP hk, fun m h => ?_⟩
    unfold f_X10_bears
    rw [m_isPoint h.1 hP.1, hz, ob_e, if_neg (show ¬ bi true = (0 : Int32) by decide), ob2_id, ob2_id]
    exact qm_bearsOf hP hk m h)
theorem sim_holds (x y : Int32) : Sim (f_X9_holds x y) (f_X10_holds x y) := Sim.q (fun P T hP hT => by
  cases hz : isPt (pn P) x with
  | false =>
    refine ⟨-2, fun s h => ⟨s, ?_, h⟩, fun m h => ⟨m, ?_, h⟩⟩
    · unfold f_X9_holds
      rw [LXl h.1, hz, ob_e, if_pos (show bi false = (0 : Int32) from rfl)]
    · unfold f_X10_holds
      rw [m_isPoint h.1 hP.1, hz, ob_e, if_pos (show bi false = (0 : Int32) from rfl), ob2_e]
  | true =>
    obtain ⟨k, hk, rfl⟩ := isPt_of hP.1 hz
    cases hy : inr y 0 7 with
    | false =>
      refine ⟨-2, fun s h => ⟨s, ?_, h⟩, fun m h => ⟨m, ?_, h⟩⟩
      · unfold f_X9_holds
        rw [LXl h.1, hz, ob_e, if_neg (show ¬ bi true = (0 : Int32) by decide), x_isVariable, hy, ob_e, if_pos (show bi false = (0 : Int32) from rfl)]
      · unfold f_X10_holds
        rw [m_isPoint h.1 hP.1, hz, ob_e, if_neg (show ¬ bi true = (0 : Int32) by decide), m_inr, hy, ob_e, if_pos (show bi false = (0 : Int32) from rfl), ob2_e]
    | true =>
      obtain ⟨v, hv, rfl⟩ := inr_of (b := 7) (by omega) hy
      refine ⟨_, qx_holds hP hk (by omega), fun m h => ?_⟩
      have hy' : inr (nI v) 0 7 = true := hy
      unfold f_X10_holds
      rw [m_isPoint h.1 hP.1, hz, ob_e, if_neg (show ¬ bi true = (0 : Int32) by decide), m_inr, hy', ob_e, if_neg (show ¬ bi true = (0 : Int32) by decide), ob2_id, ob2_id]
      exact qm_holdsOf hP hk (by omega) m h)
theorem sim_error (x y : Int32) : Sim (f_X9_error x y) (f_X10_error x y) := Sim.q (fun P T hP hT => by
  cases hx : inr x 0 999 with
  | false =>
    refine ⟨-2, fun s h => ⟨s, ?_, h⟩, fun m h => ⟨m, ?_, h⟩⟩
    · unfold f_X9_error
      rw [x_bwr, hx, ob_e, if_pos (show bi false = (0 : Int32) from rfl)]
    · unfold f_X10_error
      rw [m_inr, hx, ob_e, if_pos (show bi false = (0 : Int32) from rfl), ob2_e]
  | true =>
    cases hy : inr y 0 2 with
    | false =>
      refine ⟨-2, fun s h => ⟨s, ?_, h⟩, fun m h => ⟨m, ?_, h⟩⟩
      · unfold f_X9_error
        rw [x_bwr, hx, ob_e, if_neg (show ¬ bi true = (0 : Int32) by decide), x_bwr, hy, ob_e, if_pos (show bi false = (0 : Int32) from rfl)]
      · unfold f_X10_error
        rw [m_inr, hx, ob_e, if_neg (show ¬ bi true = (0 : Int32) by decide), m_inr, hy, ob_e, if_pos (show bi false = (0 : Int32) from rfl), ob2_e]
    | true =>
      obtain ⟨i, hi, rfl⟩ := inr_of (b := 999) (by omega) hx
      obtain ⟨w, hw, rfl⟩ := inr_of (b := 2) (by omega) hy
      refine ⟨_, qx_error hP (by omega) (by omega), fun m h => ?_⟩
      have hx' : inr (nI i) 0 999 = true := hx
      have hy' : inr (nI w) 0 2 = true := hy
      unfold f_X10_error
      rw [m_inr, hx', ob_e, if_neg (show ¬ bi true = (0 : Int32) by decide), m_inr, hy', ob_e, if_neg (show ¬ bi true = (0 : Int32) by decide), ob2_id, ob2_id]
      exact qm_errorOf hP (by omega) (by omega) m h)
theorem inr_m1 {y : Int32} (h : inr y (-1) 59 = true) : ∃ j : Option Nat, (∀ x, j = some x → x < 60) ∧ y = oe j := by
  simp only [inr, Bool.and_eq_true, Bool.not_eq_true', decide_eq_false_iff_not] at h
  by_cases c : y < 0
  · refine ⟨none, fun x e => (by cases e), ?_⟩
    have h1 := h.1
    rw [i32_lt] at h1 c
    apply Int32.toInt_inj.mp
    have e1 : (-1 : Int32).toInt = -1 := by decide
    have e0 : (0 : Int32).toInt = 0 := by decide
    rw [show oe none = (-1 : Int32) from rfl]
    omega
  · obtain ⟨n, h1, rfl⟩ := nI_of c
    refine ⟨some n, fun x e => ?_, rfl⟩
    cases e
    have h2 := h.2
    exact Classical.byContradiction fun q => h2 (show (59 : Int32) < nI n from nI_lt (a := 59) (by omega) h1)
theorem sim_witness (x y : Int32) : Sim (f_X9_witness x y) (f_X10_witness x y) := Sim.q (fun P T hP hT => by
  cases hx : inr x 0 999 with
  | false =>
    refine ⟨-2, fun s h => ⟨s, ?_, h⟩, fun m h => ⟨m, ?_, h⟩⟩
    · unfold f_X9_witness
      rw [x_bwr, hx, ob_e, if_pos (show bi false = (0 : Int32) from rfl)]
    · unfold f_X10_witness
      rw [m_inr, hx, ob_e, if_pos (show bi false = (0 : Int32) from rfl), ob2_e]
  | true =>
    cases hy : inr y (-1) 59 with
    | false =>
      refine ⟨-2, fun s h => ⟨s, ?_, h⟩, fun m h => ⟨m, ?_, h⟩⟩
      · unfold f_X9_witness
        rw [x_bwr, hx, ob_e, if_neg (show ¬ bi true = (0 : Int32) by decide), x_bwr, hy, ob_e, if_pos (show bi false = (0 : Int32) from rfl)]
      · unfold f_X10_witness
        rw [m_inr, hx, ob_e, if_neg (show ¬ bi true = (0 : Int32) by decide), m_inr, hy, ob_e, if_pos (show bi false = (0 : Int32) from rfl), ob2_e]
    | true =>
      obtain ⟨i, hi, rfl⟩ := inr_of (b := 999) (by omega) hx
      obtain ⟨j, hj, rfl⟩ := inr_m1 hy
      refine ⟨_, qx_witness hP (by omega) hj, fun m h => ?_⟩
      have hx' : inr (nI i) 0 999 = true := hx
      unfold f_X10_witness
      rw [m_inr, hx', ob_e, if_neg (show ¬ bi true = (0 : Int32) by decide), m_inr, hy, ob_e, if_neg (show ¬ bi true = (0 : Int32) by decide), ob2_id, ob2_id]
      exact qm_witnessOf hP (by omega) hj m h)
theorem sim_mend (x : Int32) : Sim (f_X9_mend x) (f_X10_mend x) := Sim.q (fun P T hP hT => by
  cases hx : inr x 0 1 with
  | false =>
    refine ⟨-2, fun s h => ⟨s, ?_, h⟩, fun m h => ⟨m, ?_, h⟩⟩
    · unfold f_X9_mend
      rw [x_bwr, hx, ob_e, if_pos (show bi false = (0 : Int32) from rfl)]
    · unfold f_X10_mend
      rw [m_inr, hx, ob_e, if_pos (show bi false = (0 : Int32) from rfl), ob2_e]
  | true =>
    obtain ⟨w, hw, rfl⟩ := inr_of (b := 1) (by omega) hx
    refine ⟨_, qx_mend hP (by omega), fun m h => ?_⟩
    have hx' : inr (nI w) 0 1 = true := hx
    unfold f_X10_mend
    rw [m_inr, hx', ob_e, if_neg (show ¬ bi true = (0 : Int32) by decide), ob2_id, ob2_id]
    exact qm_mendOf hP (by omega) m h)
theorem sim_run (p x y : Int32) : Sim (f_X9_run p x y) (f_X10_run p x y) := Sim.q (fun P T hP hT => by
  cases hx : inr x 0 300 with
  | false =>
    refine ⟨-2, fun s h => ⟨s, ?_, h⟩, fun m h => ⟨m, ?_, h⟩⟩
    · unfold f_X9_run
      rw [x_bwr, hx, ob_e, if_pos (show bi false = (0 : Int32) from rfl)]
    · unfold f_X10_run
      rw [m_inr, hx, ob_e, if_pos (show bi false = (0 : Int32) from rfl), ob2_e]
  | true =>
    cases hy : inr y 0 2 with
    | false =>
      refine ⟨-2, fun s h => ⟨s, ?_, h⟩, fun m h => ⟨m, ?_, h⟩⟩
      · unfold f_X9_run
        rw [x_bwr, hx, ob_e, if_neg (show ¬ bi true = (0 : Int32) by decide), x_bwr, hy, ob_e, if_pos (show bi false = (0 : Int32) from rfl)]
      · unfold f_X10_run
        rw [m_inr, hx, ob_e, if_neg (show ¬ bi true = (0 : Int32) by decide), m_inr, hy, ob_e, if_pos (show bi false = (0 : Int32) from rfl), ob2_e]
    | true =>
      obtain ⟨i, hi, rfl⟩ := inr_of (b := 300) (by omega) hx
      obtain ⟨w, hw, rfl⟩ := inr_of (b := 2) (by omega) hy
      refine ⟨_, qx_run hP p hi (by omega), fun m h => ?_⟩
      have hx' : inr (nI i) 0 300 = true := hx
      have hy' : inr (nI w) 0 2 = true := hy
      unfold f_X10_run
      rw [m_inr, hx', ob_e, if_neg (show ¬ bi true = (0 : Int32) by decide), m_inr, hy', ob_e, if_neg (show ¬ bi true = (0 : Int32) by decide), ob2_id, ob2_id]
      exact qm_runOf hP p hi (by omega) m h)
theorem sim_count (x : Int32) : Sim (f_X9_count x) (f_X10_count x) := Sim.q (fun P T hP hT => by
  cases hx : inr x 0 8 with
  | false =>
    have ne : ∀ j, j < 9 → ¬ x = nI j := fun j hj e => by
      rw [e] at hx
      have : inr (nI j) 0 (nI 8) = true := by
        unfold inr
        rw [decide_eq_false (nI_pos (by omega)), decide_eq_false (nI_nlt (by omega) (by omega))]; rfl
      have this' : inr (nI j) 0 8 = true := this
      rw [this'] at hx; cases hx
    have n0 : ¬ x = (0 : Int32) := ne 0 (by omega)
    have n1 : ¬ x = (1 : Int32) := ne 1 (by omega)
    have n2 : ¬ x = (2 : Int32) := ne 2 (by omega)
    have n3 : ¬ x = (3 : Int32) := ne 3 (by omega)
    have n4 : ¬ x = (4 : Int32) := ne 4 (by omega)
    have n5 : ¬ x = (5 : Int32) := ne 5 (by omega)
    have n6 : ¬ x = (6 : Int32) := ne 6 (by omega)
    have n7 : ¬ x = (7 : Int32) := ne 7 (by omega)
    have n8 : ¬ x = (8 : Int32) := ne 8 (by omega)
    refine ⟨-2, fun s h => ⟨s, ?_, h⟩, fun m h => ⟨m, ?_, h⟩⟩
    · unfold f_X9_count
      rw [if_neg n0, if_neg n1, if_neg n2, if_neg n3, if_neg n4, if_neg n5, if_neg n6, if_neg n7, if_neg n8]
    · unfold f_X10_count
      rw [if_neg n0, if_neg n1, if_neg n2, if_neg n3, if_neg n4, if_neg n5, if_neg n6, if_neg n7, if_neg n8]
  | true =>
    obtain ⟨w, hw, rfl⟩ := inr_of (b := 8) (by omega) hx
    by_cases e : w = 8
    · subst e
      refine ⟨tg T, fun s h => ⟨s, ?_, h⟩, fun m h => ⟨m, ?_, h⟩⟩
      · unfold f_X9_count
        rw [if_neg (by decide), if_neg (by decide), if_neg (by decide), if_neg (by decide), if_neg (by decide), if_neg (by decide), if_neg (by decide), if_neg (by decide), if_pos (by decide), h.2.2.2.2.2.2]
      · unfold f_X10_count
        rw [if_neg (by decide), if_neg (by decide), if_neg (by decide), if_neg (by decide), if_neg (by decide), if_neg (by decide), if_neg (by decide), if_neg (by decide), if_pos (by decide), h.2.2]
    · exact ⟨_, qx_count hP (by omega), qm_count hP (by omega)⟩)
