def Mp (m m' : sh_S) : Prop := m' 0 0 = m 0 0 ∧ m' 0 35 = m 0 35 ∧ (∀ k, 1 ≤ k → k ≤ 4 → m' k = m k) ∧ ∀ k, 22 ≤ k → m' k = m k
theorem Mp.rf {m : sh_S} : Mp m m := ⟨rfl, rfl, fun _ _ _ => rfl, fun _ _ => rfl⟩
theorem Mp.tr {a b c : sh_S} (h1 : Mp a b) (h2 : Mp b c) : Mp a c := ⟨h2.1.trans h1.1, h2.2.1.trans h1.2.1, fun k x y => (h2.2.2.1 k x y).trans (h1.2.2.1 k x y), fun k x => (h2.2.2.2 k x).trans (h1.2.2.2 k x)⟩
theorem Mk2.mp {m m' : sh_S} (h : Mk2 m m') : Mp m m' := ⟨h.1 0 (by omega) (by omega) (by omega), h.1 35 (by omega) (by omega) (by omega), h.2.1, fun k x => h.2.2 k (by omega)⟩
theorem Mk.mp {m m' : sh_S} (h : Mk m m') : Mp m m' := ⟨h.1 0 (by omega) (by omega), h.1 35 (by omega) (by omega), h.2.1, fun k x => h.2.2 k (by omega)⟩
theorem PM.mp {P : Pg} {m m' : sh_S} (h : PM P m) (e : Mp m m') : PM P m' := by
  refine ⟨by rw [e.1]; exact h.1, fun k hk => ?_⟩
  rw [e.2.2.1 1 (by omega) (by omega), e.2.2.1 2 (by omega) (by omega), e.2.2.1 3 (by omega) (by omega), e.2.2.1 4 (by omega) (by omega)]
  exact h.2 k hk
def setk (P : Pg) (k c : Nat) : Pg := (pn P, fun j => if j = k then c else pk P j, px P, pp P, pt P)
theorem setk_ok {P : Pg} (ho : pOK P) {k c : Nat} (hc : c < 10) : pOK (setk P k c) := by
  refine ⟨ho.1, fun j => ⟨?_, (ho.2 j).2⟩⟩
  show (if j = k then c else pk P j) < 10
  split
  · exact hc
  · exact (ho.2 j).1
def TE (P : Pg) : Nat := (eA P (pn P)).length
theorem TE_le {P : Pg} (ho : pOK P) : TE P ≤ 1200 := by
  have := eA_len ho (pn P)
  have := ho.1
  unfold TE
  omega
section MD
variable {P : Pg} {m : sh_S}
theorem m_errorsAs (h : PM P m) (ho : pOK P) {k c : Nat} (hk : k < 24) (hc : c < 10) : ∃ m', f_X10_errorsAs (nI k) (nI c) m = some (nI (TE (setk P k c)), m') ∧ Mp m m' := by
  have i1 : inb (nI k) 24 := inb_n hk (by omega)
  have hp : PM (setk P k c) (ur m 1 (upd (m 1) k (nI c))) := by
    refine ⟨by rw [ur_n _ _ (by omega)]; exact h.1, fun j hj => ?_⟩
    rw [ur_s, ur_n _ _ (show (2 : Nat) ≠ 1 by omega), ur_n _ _ (show (3 : Nat) ≠ 1 by omega), ur_n _ _ (show (4 : Nat) ≠ 1 by omega)]
    refine ⟨?_, (h.2 j hj).2⟩
    show upd (m 1) k (nI c) j = nI (if j = k then c else pk P j)
    by_cases e : j = k
    · subst e; rw [upd_s]; simp
    · rw [upd_n _ _ e, if_neg e]; exact (h.2 j hj).1
  obtain ⟨s, a1, a2, a3, a4⟩ := m_errsAll hp (setk_ok ho hc)
  unfold f_X10_errorsAs
  rw [gu_t i1, lb_e, gu_t i1, lb_e, ix_n (by omega), a1, ob_e, gu_t i1, lb_e]
  refine ⟨ur s 1 (upd (s 1) k (m 1 k)), ?_, ?_, ?_, ?_, ?_⟩
  · rw [ur_n _ _ (by omega), a3.1]
    rfl
  · rw [ur_n _ _ (by omega), a4.1 0 (by omega) (by omega) (by omega), ur_n _ _ (by omega)]
  · rw [ur_n _ _ (by omega), a4.1 35 (by omega) (by omega) (by omega), ur_n _ _ (by omega)]
  · intro j h1 h2
    by_cases e : j = 1
    · subst e
      rw [ur_s, a4.2.1 1 (by omega) (by omega), ur_s, upd_upd, upd_id]
    · rw [ur_n _ _ e, a4.2.1 j h1 h2, ur_n _ _ e]
  · intro j h1
    rw [ur_n _ _ (by omega), a4.2.2 j (by omega), ur_n _ _ (by omega)]
def md (P : Pg) (j : Nat) : Option (Nat × Nat) := match j with
  | 0 => none
  | j + 1 => match md P j with
    | none => some (j, TE (setk P j 0))
    | some q => if TE (setk P j 0) < q.2 then some (j, TE (setk P j 0)) else some q
def mdb (q : Option (Nat × Nat)) : Int32 := match q with
  | none => -1
  | some q => nI q.1
def mdl (q : Option (Nat × Nat)) : Int32 := match q with
  | none => -1
  | some q => nI q.2
theorem md_le {P : Pg} (ho : pOK P) : ∀ j q, md P j = some q → q.1 < j ∧ q.2 ≤ 1200
  | 0, q, h => by cases h
  | j + 1, q, h => by
    have t := TE_le (setk_ok ho (k := j) (c := 0) (by omega))
    unfold md at h
    cases hm : md P j with
    | none =>
      rw [hm] at h
      cases h
      exact ⟨by omega, t⟩
    | some r =>
      rw [hm] at h
      have := md_le ho j r hm
      simp only at h
      split at h
      · cases h
        exact ⟨by omega, t⟩
      · cases h
        exact ⟨by omega, this.2⟩
theorem m_mendLoop (h : PM P m) (ho : pOK P) : ∃ m', lp (fun q : Int32 × Int32 × Int32 × sh_S => f_X10_mendOf_L7 q.1 q.2.1 q.2.2.1 q.2.2.2) FU ((-1 : Int32), (-1 : Int32), (0 : Int32), m) = some (mdb (md P (pn P)), mdl (md P (pn P)), m') ∧ Mp m m' := by
  have hn := ho.1
  have hh := lp_for (body := fun q : Int32 × Int32 × Int32 × sh_S => f_X10_mendOf_L7 q.1 q.2.1 q.2.2.1 q.2.2.2) (fun j (s : sh_S) => (mdb (md P j), mdl (md P j), nI j, s)) (pn P)
    (fun _ s => Mp m s) (fun e => ∃ m', e = (mdb (md P (pn P)), mdl (md P (pn P)), m') ∧ Mp m m')
    (fun j s hj hi => by
      have hS := h.mp hi
      obtain ⟨s', a1, a2⟩ := m_errorsAs hS ho (k := j) (c := 0) (by omega) (by omega)
      have a1' : f_X10_errorsAs (nI j) (0 : Int32) s = some (nI (TE (setk P j 0)), s') := a1
      have t := TE_le (setk_ok ho (k := j) (c := 0) (by omega))
      refine ⟨s', ?_, hi.tr a2⟩
      show f_X10_mendOf_L7 (mdb (md P j)) (mdl (md P j)) (nI j) s = some (.inl (mdb (md P (j + 1)), mdl (md P (j + 1)), nI (j + 1), s'))
      unfold f_X10_mendOf_L7
      rw [hS.1, if_neg (nI_ge hj (by omega)), a1', ob2_e]
      have e : md P (j + 1) = (match md P j with
        | none => some (j, TE (setk P j 0))
        | some q => if TE (setk P j 0) < q.2 then some (j, TE (setk P j 0)) else some q) := rfl
      rw [e]
      cases hm : md P j with
      | none => simp [mdb, mdl, ob2, lb, nI_1]
      | some q =>
        have b := md_le ho j q hm
        have e1 : ¬ nI q.1 = (-1 : Int32) := neg1 (by omega)
        have e2 : (nI q.2 ≤ nI (TE (setk P j 0))) = (q.2 ≤ TE (setk P j 0)) := propext (nI_leI (by omega) (by omega))
        simp only [mdb, mdl, e1, if_false, e2]
        by_cases c : TE (setk P j 0) < q.2
        · rw [if_neg (by omega), if_pos c]
          simp [ob2, lb, nI_1]
        · rw [if_pos (by omega), if_neg c]
          simp [ob2, lb, nI_1])
    (fun s hi => ⟨_, by
      show f_X10_mendOf_L7 (mdb (md P (pn P))) (mdl (md P (pn P))) (nI (pn P)) s = _
      unfold f_X10_mendOf_L7
      rw [(h.mp hi).1, if_pos (nI_le (Nat.le_refl _) (by omega))], s, rfl, hi⟩)
    FU 0 m (Nat.zero_le _) Mp.rf (FU_gt (by omega))
  obtain ⟨e, h1, m', rfl, h2⟩ := hh
  exact ⟨m', h1, h2⟩
theorem m_mendOf (h : PM P m) (ho : pOK P) (w : Int32) : ∃ m', f_X10_mendOf w m = some ((if w = 0 then mdb (md P (pn P)) else mdl (md P (pn P))), m') ∧ Mp m m' := by
  obtain ⟨m', a1, a2⟩ := m_mendLoop h ho
  refine ⟨m', ?_, a2⟩
  unfold f_X10_mendOf
  rw [a1, ob3_e, ob_ite]
def sf (P : Pg) : Bf := fun k => decide (k < pn P) && ((decide (pk P k = 4) || decide (pk P k = 5)) && decide (TE (setk P k 3) ≤ TE P))
theorem m_softOf (h : PM P m) (ho : pOK P) : ∃ m', f_X10_softOf m = some (mkb (sf P), m') ∧ Mp m m' := by
  have hn := ho.1
  obtain ⟨m1, a1, a2, a3, a4⟩ := m_errsAll h ho
  have tP := TE_le ho
  unfold f_X10_softOf f_X10_errorsOf
  rw [a1, ob_e, ob2_e, a3.1]
  have hh := lp_for (body := fun q : Int32 × Int32 × sh_S => f_X10_softOf_L9 (nI (eA P (pn P)).length) q.1 q.2.1 q.2.2) (fun j (s : sh_S) => (mkb (fun x => decide (x < j) && sf P x), nI j, s)) (pn P)
    (fun _ s => Mp m s) (fun e => ∃ m', e = (mkb (sf P), m') ∧ Mp m m')
    (fun j s hj hi => by
      have hS := h.mp hi
      obtain ⟨s', b1, b2⟩ := m_errorsAs hS ho (k := j) (c := 3) (by omega) (by omega)
      have b1' : f_X10_errorsAs (nI j) (3 : Int32) s = some (nI (TE (setk P j 3)), s') := b1
      have t := TE_le (setk_ok ho (k := j) (c := 3) (by omega))
      have i1 : inb (nI j) 24 := inb_n (by omega) (by omega)
      have e4 : (nI (pk P j) = (4 : Int32)) = (pk P j = 4) := nI_lt10 (c := 4) (ho.2 j).1 (by omega)
      have e5 : (nI (pk P j) = (5 : Int32)) = (pk P j = 5) := nI_lt10 (c := 5) (ho.2 j).1 (by omega)
      have el : (nI (eA P (pn P)).length < nI (TE (setk P j 3))) = (TE P < TE (setk P j 3)) := propext (nI_ltI (show TE P < 2 ^ 31 by omega) (by omega))
      have fin : ∀ z : Bf, (∀ l, l < 25 → ((decide (l < j) && sf P l) || z l) = (decide (l < j + 1) && sf P l)) → mkb (fun x => decide (x < j) && sf P x) ||| mkb z = mkb (fun x => decide (x < j + 1) && sf P x) := fun z hz => by rw [mkb_or]; exact mkb_ext hz
      have zero : sf P j = false → mkb (fun x => decide (x < j) && sf P x) ||| 0 = mkb (fun x => decide (x < j + 1) && sf P x) := by
        intro hz
        rw [mkb_0]
        refine fin _ (fun l _ => ?_)
        by_cases e : l = j
        · subst e; simp [hz]
        · by_cases e2 : l < j
          · simp [e2, show l < j + 1 by omega]
          · simp [e2, show ¬ l < j + 1 by omega]
      have one : sf P j = true → mkb (fun x => decide (x < j) && sf P x) ||| ((1 : Int32) <<< (nI j &&& 31)) = mkb (fun x => decide (x < j + 1) && sf P x) := by
        intro hz
        rw [mkb_one (by omega)]
        refine fin _ (fun l _ => ?_)
        by_cases e : l = j
        · subst e; simp [hz]
        · by_cases e2 : l < j
          · simp [e, e2, show l < j + 1 by omega]
          · simp [e, e2, show ¬ l < j + 1 by omega]
      have goal : ∀ s2, f_X10_softOf_L9 (nI (eA P (pn P)).length) (mkb (fun x => decide (x < j) && sf P x)) (nI j) s = some (.inl (mkb (fun x => decide (x < j + 1) && sf P x), nI (j + 1), s2)) → Mp m s2 → ∃ a', f_X10_softOf_L9 (nI (eA P (pn P)).length) (mkb (fun x => decide (x < j) && sf P x)) (nI j) s = some (.inl (mkb (fun x => decide (x < j + 1) && sf P x), nI (j + 1), a')) ∧ Mp m a' := fun s2 x y => ⟨s2, x, y⟩
      show ∃ a', f_X10_softOf_L9 (nI (eA P (pn P)).length) (mkb (fun x => decide (x < j) && sf P x)) (nI j) s = some (.inl (mkb (fun x => decide (x < j + 1) && sf P x), nI (j + 1), a')) ∧ Mp m a'
      have ev : sf P j = ((decide (pk P j = 4) || decide (pk P j = 5)) && decide (TE (setk P j 3) ≤ TE P)) := by simp [sf, hj]
      by_cases c : pk P j = 4 ∨ pk P j = 5
      · refine goal s' ?_ (hi.tr b2)
        unfold f_X10_softOf_L9
        rw [hS.1, if_neg (nI_ge hj (by omega)), gu_t i1, ix_n (by omega), (hS.2 j (by omega)).1, b1', ob2_e]
        simp only [e4, e5, el, gu_t i1, nI_1]
        by_cases c2 : TE P < TE (setk P j 3)
        · have hz : sf P j = false := by rw [ev]; simp; intro _; omega
          rcases c with c | c
          · simp [c, c2, ob2, lb, zero hz]
          · simp [c, c2, ob2, lb, zero hz]
        · have hz : sf P j = true := by rw [ev]; simp [c]; omega
          rcases c with c | c
          · simp [c, c2, ob2, lb, one hz]
          · simp [c, c2, ob2, lb, one hz]
      · refine goal s ?_ hi
        have hz : sf P j = false := by
          rw [ev]
          simp only [not_or] at c
          simp [c.1, c.2]
        unfold f_X10_softOf_L9
        rw [hS.1, if_neg (nI_ge hj (by omega)), gu_t i1, ix_n (by omega), (hS.2 j (by omega)).1]
        simp only [e4, e5, gu_t i1, nI_1]
        simp only [not_or] at c
        simp [c.1, c.2, ob2, lb, zero hz])
    (fun s hi => ⟨(mkb (fun x => decide (x < pn P) && sf P x), s), by
      show f_X10_softOf_L9 (nI (eA P (pn P)).length) _ (nI (pn P)) s = _
      unfold f_X10_softOf_L9
      rw [(h.mp hi).1, if_pos (nI_le (Nat.le_refl _) (by omega))], s, by
      rw [mkb_ext (g := sf P) (fun x _ => by unfold sf; cases decide (x < pn P) <;> simp)], hi⟩)
    FU 0 m1 (Nat.zero_le _) a4.mp (FU_gt (by omega))
  obtain ⟨e, h1, m', rfl, h2⟩ := hh
  refine ⟨m', ?_, h2⟩
  have h1' : lp (fun q : Int32 × Int32 × sh_S => f_X10_softOf_L9 (nI (eA P (pn P)).length) q.1 q.2.1 q.2.2) FU ((0 : Int32), (0 : Int32), m1) = some (mkb (sf P), m') := by
    have e0 : mkb (fun x => decide (x < 0) && sf P x) = 0 := by rw [mkb_0]; exact mkb_ext (fun x _ => by simp)
    rw [← h1]
    show lp _ FU (_, nI 0, _) = lp _ FU (mkb (fun x => decide (x < 0) && sf P x), nI 0, _)
    rw [e0]
  rw [h1', ob2_e]
end MD
