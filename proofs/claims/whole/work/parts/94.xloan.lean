theorem psel {c : Prop} [Decidable c] {f : Bf} : (if c then some (mkb f) else some (0 : Int32)) = some (mkb (fun i => decide c && f i)) := by
  rw [mkb_0]
  by_cases h : c <;> simp [h]
/-- loans by kind: all, shared, taken, planned -/
def sl (P : Pg) (c l : Nat) : Bool := match c with
  | 0 => true
  | 1 => decide (ak P l = 3)
  | 2 => decide (ak P l = 4)
  | _ => decide (ak P l = 5)
def slO (P : Pg) (v l : Nat) : Bool := gt P l && decide (pv P l = v)
def slX (P : Pg) (v l : Nat) : Bool := (!gt P l || !decide (pv P l = px P l)) && decide (px P l = v)
def OX (P : Pg) (s : sh_S) (k : Nat) : Prop := (∀ c, c < 4 → s 19 c = mkb (fun l => (decide (l < k) && Lo P l) && sl P c l)) ∧ (∀ v, v < 8 → s 27 v = mkb (fun l => (decide (l < k) && Lo P l) && slO P v l)) ∧ ∀ v, v < 8 → s 28 v = mkb (fun l => (decide (l < k) && Lo P l) && slX P v l)
section XO
variable {P : Pg} {s : sh_S}
theorem lt4 {c : Nat} (h : c < 4) : c = 0 ∨ c = 1 ∨ c = 2 ∨ c = 3 := by omega
theorem orsel {f g : Bf} {k : Nat} (h : ∀ l, l < 25 → l ≠ k → g l = f l) (h2 : k < 25 → f k = false) {c : Bool} (h3 : k < 25 → g k = c) : mkb (fun l => f l || (c && decide (l = k))) = mkb g := by
  refine mkb_ext (fun l hl => ?_)
  by_cases e : l = k
  · subst e; simp [h2 hl, h3 hl]
  · simp [e, h l hl e]
theorem x_sortLoan (hX : LX P s) (ho : pOK P) {k : Nat} (hk : k < 24) (hl : Lo P k = true) (h : OX P s k) : ∃ s', f_X3_sortLoan (nI k) s = some s' ∧ Fx [19, 27, 28] s s' ∧ (∀ j, 4 ≤ j → s' 19 j = s 19 j) ∧ OX P s' (k + 1) := by
  obtain ⟨-, x2, -, -, x5, x6, -, x8, x9⟩ := hX.2 k hk
  have ik : inb (nI k) 24 := inb_n hk (by omega)
  have ha := ak_lt ho k
  have hpv := pv_lt ho k
  have hpx := (ho.2 k).2.1
  obtain ⟨o1, o2, o3⟩ := h
  have A0 := o1 0 (by omega)
  have A1 := o1 1 (by omega)
  have A2 := o1 2 (by omega)
  have A3 := o1 3 (by omega)
  have key : ∀ (g : Bf) (c : Bool), g k = c → mkb (fun l => ((decide (l < k) && Lo P l) && g l) || (c && decide (l = k))) = mkb (fun l => (decide (l < k + 1) && Lo P l) && g l) := fun g c hc => orsel (f := fun l => (decide (l < k) && Lo P l) && g l) (g := fun l => (decide (l < k + 1) && Lo P l) && g l) (fun l _ e => by
      by_cases q : l < k
      · simp [q, show l < k + 1 by omega]
      · simp [q, show ¬ l < k + 1 by omega]) (fun _ => by simp) (fun _ => by simp [hl, hc])
  have keep : ∀ (g : Bf), g k = false → mkb (fun l => (decide (l < k) && Lo P l) && g l) = mkb (fun l => (decide (l < k + 1) && Lo P l) && g l) := fun g hg => by
    rw [← key g false hg]
    exact mkb_ext (fun l _ => by simp)
  have R : ∀ c, c < 4 → mkb (fun l => ((decide (l < k) && Lo P l) && sl P c l) || (sl P c k && decide (l = k))) = mkb (fun l => (decide (l < k + 1) && Lo P l) && sl P c l) := fun c _ => key (sl P c) _ rfl
  have R0 := R 0 (by omega)
  have R1 := R 1 (by omega)
  have R2 := R 2 (by omega)
  have R3 := R 3 (by omega)
  simp only [sl] at A0 A1 A2 A3 R0 R1 R2 R3
  unfold f_X3_sortLoan
  simp only [gu_t ik, lb_e, ix_n (show k < 2 ^ 31 by omega), x5, mkb_one (show k < 25 by omega), c3 ha, c4 ha, c5 ha, psel, ob_e, ur_s, ur_ur, upd_s, upd_n _ _ (show 1 ≠ 0 by omega), upd_n _ _ (show 2 ≠ 1 by omega), upd_n _ _ (show 2 ≠ 0 by omega), upd_n _ _ (show 3 ≠ 2 by omega), upd_n _ _ (show 3 ≠ 1 by omega), upd_n _ _ (show 3 ≠ 0 by omega), A0, A1, A2, A3, mkb_or]
  rw [show mkb (fun l => decide (l < k) && Lo P l && true || decide (l = k)) = mkb (fun l => (decide (l < k + 1) && Lo P l) && true) by rw [← R0]; exact mkb_ext (fun l _ => by simp), R1, R2, R3]
  generalize hrow : upd (upd (upd (upd (s 19) 0 (mkb fun l => decide (l < k + 1) && Lo P l && true)) 1 (mkb fun l => decide (l < k + 1) && Lo P l && decide (ak P l = 3))) 2 (mkb fun l => decide (l < k + 1) && Lo P l && decide (ak P l = 4))) 3 (mkb fun l => decide (l < k + 1) && Lo P l && decide (ak P l = 5)) = row
  have rowc : ∀ c, c < 4 → row c = mkb (fun l => (decide (l < k + 1) && Lo P l) && sl P c l) := fun c hc => by
    rw [← hrow]
    rcases lt4 hc with rfl | rfl | rfl | rfl <;> simp [upd, sl]
  have rowj : ∀ j, 4 ≤ j → row j = s 19 j := fun j hj => by
    rw [← hrow, upd_n _ _ (by omega), upd_n _ _ (by omega), upd_n _ _ (by omega), upd_n _ _ (by omega)]
  generalize hs1 : ur s 19 row = s1
  have f1 : Fx [19, 27, 28] s s1 := by rw [← hs1]; exact Fx.rf.ur (by simp) _
  have e19 : s1 19 = row := by rw [← hs1, ur_s]
  have e9 : s1 9 k = bi (gt P k) := by rw [f1 9 (by simp)]; exact x9
  have e6 : s1 6 k = nI (pv P k) := by rw [f1 6 (by simp)]; exact x6
  have e2 : s1 2 k = nI (px P k) := by rw [f1 2 (by simp)]; exact x2
  have e27 : s1 27 = s 27 := by rw [← hs1, ur_n _ _ (by omega)]
  have e28 : s1 28 = s 28 := by rw [← hs1, ur_n _ _ (by omega)]
  simp only [e9, e6, e2, bi_z0, gu_t (inb_n hpv (show 8 < 2 ^ 31 by omega)), gu_t (inb_n hpx (show 8 < 2 ^ 31 by omega)), ix_n (show pv P k < 2 ^ 31 by omega), ix_n (show px P k < 2 ^ 31 by omega), e27, o2 _ hpv, mkb_or]
  have first : ∃ s2, (if gt P k = false then some s1 else some (ur s1 27 (upd (s 27) (pv P k) (mkb (fun i => (decide (i < k) && Lo P i && slO P (pv P k) i) || decide (i = k)))))) = some s2 ∧ Fx [27] s1 s2 ∧ ∀ v, v < 8 → s2 27 v = mkb (fun l => (decide (l < k + 1) && Lo P l) && slO P v l) := by
    cases hg : gt P k with
    | false =>
      refine ⟨s1, by simp, Fx.rf, fun v hv => ?_⟩
      rw [e27, o2 v hv]
      exact keep _ (by simp [slO, hg])
    | true =>
      refine ⟨ur s1 27 (upd (s 27) (pv P k) (mkb (fun i => (decide (i < k) && Lo P i && slO P (pv P k) i) || decide (i = k)))), by simp, Fx.rf.ur (by simp) _, fun v hv => ?_⟩
      rw [ur_s]
      by_cases e : v = pv P k
      · subst e
        rw [upd_s, ← key (slO P (pv P k)) true (by simp [slO, hg])]
        exact mkb_ext (fun l _ => by simp)
      · rw [upd_n _ _ e, o2 v hv]
        exact keep _ (by simp [slO, Ne.symm e])
  obtain ⟨s2, q1, q2, q3⟩ := first
  rw [q1, ob_e]
  have e28' : s2 28 = s 28 := by rw [q2 28 (by simp), e28]
  simp only [e28', o3 _ hpx, mkb_or]
  have second : ∃ s3, (if gt P k = false then some (ur s2 28 (upd (s 28) (px P k) (mkb (fun i => (decide (i < k) && Lo P i && slX P (px P k) i) || decide (i = k))))) else if nI (pv P k) = nI (px P k) then some s2 else some (ur s2 28 (upd (s 28) (px P k) (mkb (fun i => (decide (i < k) && Lo P i && slX P (px P k) i) || decide (i = k)))))) = some s3 ∧ Fx [28] s2 s3 ∧ ∀ v, v < 8 → s3 28 v = mkb (fun l => (decide (l < k + 1) && Lo P l) && slX P v l) := by
    simp only [nI_eqb (show pv P k < 2 ^ 31 by omega) (show px P k < 2 ^ 31 by omega)]
    by_cases c : gt P k = true ∧ pv P k = px P k
    · refine ⟨s2, by simp [c.1, c.2], Fx.rf, fun v hv => ?_⟩
      rw [e28', o3 v hv]
      exact keep _ (by simp [slX, c.1, c.2])
    · refine ⟨ur s2 28 (upd (s 28) (px P k) (mkb (fun i => (decide (i < k) && Lo P i && slX P (px P k) i) || decide (i = k)))), ?_, Fx.rf.ur (by simp) _, fun v hv => ?_⟩
      · cases hg : gt P k with
        | false => simp
        | true => simp [show ¬ pv P k = px P k from fun q => c ⟨hg, q⟩]
      · rw [ur_s]
        have hc : (!gt P k || !decide (pv P k = px P k)) = true := by
          cases hg : gt P k with
          | false => rfl
          | true => simp [show ¬ pv P k = px P k from fun q => c ⟨hg, q⟩]
        by_cases e : v = px P k
        · subst e
          rw [upd_s, ← key (slX P (px P k)) true (by simp only [slX, hc]; simp)]
          exact mkb_ext (fun l _ => by simp)
        · rw [upd_n _ _ e, o3 v hv]
          exact keep _ (by simp [slX, Ne.symm e])
  obtain ⟨s3, q4, q5, q6⟩ := second
  rw [q4, ob_e]
  have F12 : Fx [19, 27, 28] s s2 := f1.tr (q2.mo (by simp))
  refine ⟨s3, rfl, F12.tr (q5.mo (by simp)), fun j hj => ?_, fun c hc => ?_, fun v hv => ?_, q6⟩
  · rw [q5 19 (by simp), q2 19 (by simp), e19]; exact rowj j hj
  · rw [q5 19 (by simp), q2 19 (by simp), e19]; exact rowc c hc
  · rw [q5 27 (by simp)]; exact q3 v hv
theorem OX.skip {k : Nat} (h : OX P s k) (hl : Lo P k = false) : OX P s (k + 1) := by
  have key : ∀ g : Bf, mkb (fun l => (decide (l < k) && Lo P l) && g l) = mkb (fun l => (decide (l < k + 1) && Lo P l) && g l) := fun g => mkb_ext (fun l _ => by
    by_cases e : l = k
    · subst e; simp [hl]
    · by_cases q : l < k
      · simp [q, show l < k + 1 by omega]
      · simp [q, show ¬ l < k + 1 by omega])
  exact ⟨fun c hc => by rw [h.1 c hc, key], fun v hv => by rw [h.2.1 v hv, key], fun v hv => by rw [h.2.2 v hv, key]⟩
theorem x_findLoans (hX : LX P s) (ho : pOK P) : ∃ s', f_X3_findLoans (mkb (Rc P)) s = some s' ∧ Fx [19, 27, 28] s s' ∧ OX P s' 24 := by
  have hn := ho.1
  unfold f_X3_findLoans
  simp only [lb_e, ur_ur, ur_s]
  generalize hs1 : ur s 19 (upd (upd (upd (upd (s 19) 0 0) 1 0) 2 0) 3 0) = s1
  have f1 : Fx [19, 27, 28] s s1 := by rw [← hs1]; exact Fx.rf.ur (by simp) _
  have z0 : ∀ g : Bf, mkb (fun l => (decide (l < 0) && Lo P l) && g l) = 0 := fun g => by rw [mkb_0]; exact mkb_ext (fun l _ => by simp)
  have e19 : ∀ c, c < 4 → s1 19 c = 0 := fun c hc => by
    rw [← hs1, ur_s]
    rcases lt4 hc with rfl | rfl | rfl | rfl <;> simp [upd]
  have hh := lp_for (body := fun q : Int32 × sh_S => f_X3_findLoans_L22 q.1 q.2) (fun k (t : sh_S) => (nI k, t)) 8
    (fun k t => Fx [19, 27, 28] s t ∧ t 19 = s1 19 ∧ ∀ j, j < k → t 27 j = 0 ∧ t 28 j = 0)
    (fun e => Fx [19, 27, 28] s e ∧ e 19 = s1 19 ∧ ∀ j, j < 8 → e 27 j = 0 ∧ e 28 j = 0)
    (fun k t hk ⟨i1, i2, i3⟩ => by
      refine ⟨ur (ur t 27 (upd (t 27) k 0)) 28 (upd (t 28) k 0), ?_, (i1.ur (by simp) _).ur (by simp) _, by rw [ur_n _ _ (by omega), ur_n _ _ (by omega)]; exact i2, fun j hj => ?_⟩
      · show f_X3_findLoans_L22 (nI k) t = _
        unfold f_X3_findLoans_L22
        rw [if_neg (show ¬ (8 : Int32) ≤ nI k from nI_ge (b := 8) hk (by omega))]
        simp only [gu_t (inb_n hk (show 8 < 2 ^ 31 by omega)), lb_e, ix_n (show k < 2 ^ 31 by omega), ur_n _ _ (show 28 ≠ 27 by omega), nI_1]
      · rw [ur_n _ _ (by omega), ur_s, ur_s]
        by_cases e : j = k
        · subst e; rw [upd_s, upd_s]; exact ⟨rfl, rfl⟩
        · rw [upd_n _ _ e, upd_n _ _ e]; exact i3 j (by omega))
    (fun t hi => ⟨t, by
      show f_X3_findLoans_L22 (nI 8) t = _
      unfold f_X3_findLoans_L22
      rw [if_pos (by decide)], hi⟩)
    FU 0 s1 (Nat.zero_le _) ⟨f1, rfl, fun j hj => by omega⟩ (FU_gt (by omega))
  obtain ⟨s2, h1, g1, g2, g3⟩ := hh
  have h1' : lp (fun q : Int32 × sh_S => f_X3_findLoans_L22 q.1 q.2) FU ((0 : Int32), s1) = some s2 := h1
  rw [h1', ob_e]
  have O0 : OX P s2 0 := ⟨fun c hc => by rw [z0, g2]; exact e19 c hc, fun v hv => by rw [z0]; exact (g3 v hv).1, fun v hv => by rw [z0]; exact (g3 v hv).2⟩
  have hh := lp_for (body := fun q : Int32 × sh_S => f_X3_findLoans_L50 (mkb (Rc P)) q.1 q.2) (fun k (t : sh_S) => (nI k, t)) (pn P)
    (fun k t => Fx [19, 27, 28] s t ∧ OX P t k)
    (fun e => Fx [19, 27, 28] s e ∧ OX P e (pn P))
    (fun k t hk ⟨i1, i2⟩ => by
      have hX' := hX.fx i1 (by simp)
      have ik : inb (nI k) 24 := inb_n (by omega) (by omega)
      have x8 := (hX'.2 k (by omega)).2.2.2.2.2.2.2.1
      cases hl : Lo P k with
      | true =>
        have hl' := hl
        simp only [Lo, Bool.and_eq_true] at hl'
        obtain ⟨t', a1, a2, -, a3⟩ := x_sortLoan hX' ho (show k < 24 by omega) hl i2
        refine ⟨t', ?_, i1.tr a2, a3⟩
        show f_X3_findLoans_L50 (mkb (Rc P)) (nI k) t = _
        unfold f_X3_findLoans_L50
        rw [hX'.1, if_neg (nI_ge hk (by omega)), gu_t ik, ix_n (by omega), x8, x_hasBit (by omega), hl'.1, hl'.2, if_neg (by decide), ob_e, if_neg (by decide), a1]
        simp only [ob_e, lb_e, nI_1]
      | false =>
        refine ⟨t, ?_, i1, i2.skip hl⟩
        show f_X3_findLoans_L50 (mkb (Rc P)) (nI k) t = _
        unfold f_X3_findLoans_L50
        rw [hX'.1, if_neg (nI_ge hk (by omega)), gu_t ik, ix_n (by omega), x8, x_hasBit (by omega)]
        simp only [ob_e, bi_z0, lb_e, nI_1]
        cases q1 : lnd P k
        · simp [ob]
        · have q2 : Rc P k = false := by
            cases q2 : Rc P k
            · rfl
            · simp [Lo, q1, q2] at hl
          simp [q2, ob])
    (fun t hi => ⟨t, by
      show f_X3_findLoans_L50 (mkb (Rc P)) (nI (pn P)) t = _
      unfold f_X3_findLoans_L50
      rw [(hX.fx hi.1 (by simp)).1, if_pos (nI_le (Nat.le_refl _) (by omega))], hi⟩)
    FU 0 s2 (Nat.zero_le _) ⟨g1, O0⟩ (FU_gt (by omega))
  obtain ⟨s3, h2, g4, g5⟩ := hh
  have h2' : lp (fun q : Int32 × sh_S => f_X3_findLoans_L50 (mkb (Rc P)) q.1 q.2) FU ((0 : Int32), s2) = some s3 := h2
  rw [h2', ob_e]
  refine ⟨s3, rfl, g4, ?_⟩
  have key : ∀ g : Bf, mkb (fun l => (decide (l < pn P) && Lo P l) && g l) = mkb (fun l => (decide (l < 24) && Lo P l) && g l) := fun g => mkb_ext (fun l _ => by
    cases e : Lo P l
    · simp
    · have : l < pn P := by simp only [Lo, Bool.and_eq_true] at e; exact Rc_lt e.1
      simp [this, show l < 24 by omega])
  exact ⟨fun c hc => by rw [g5.1 c hc, key], fun v hv => by rw [g5.2.1 v hv, key], fun v hv => by rw [g5.2.2 v hv, key]⟩
end XO
