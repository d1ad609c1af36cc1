def St5 (m : sh_S) (g : Bf) : sh_S := ur m 0 (upd (m 0) 5 (mkb g))
theorem St5_5 (m : sh_S) (g : Bf) : St5 m g 0 5 = mkb g := by unfold St5; rw [ur_s, upd_s]
theorem St5_o (m : sh_S) (g : Bf) {j : Nat} (h : j ≠ 5) : St5 m g 0 j = m 0 j := by unfold St5; rw [ur_s, upd_n _ _ h]
theorem St5_n (m : sh_S) (g : Bf) {k : Nat} (h : k ≠ 0) : St5 m g k = m k := by unfold St5; rw [ur_n _ _ h]
theorem St5_up (m : sh_S) (g g' : Bf) : ur (St5 m g) 0 (upd (St5 m g 0) 5 (mkb g')) = St5 m g' := by
  unfold St5
  rw [ur_ur, ur_s, upd_upd]
theorem PM.st5 {P : Pg} {m : sh_S} (h : PM P m) (g : Bf) : PM P (St5 m g) := h.slot (by omega) _
section RR
variable {P : Pg} {m : sh_S}
theorem mR_inner (h : PM P m) (ho : pOK P) (g : Bf) : ∃ g' : Bf, lp (fun q : Int32 × sh_S => f_X10_findsReached_L21 q.1 q.2) FU ((0 : Int32), St5 m g) = some (St5 m g') ∧ (∀ x, g x = true → g' x = true) ∧ (∀ k, k < pn P → g k = true → ∀ x, nx P k x = true → g' x = true) ∧ (∀ C : Bf, (∀ k, k < pn P → C k = true → ∀ x, nx P k x = true → C x = true) → (∀ x, g x = true → C x = true) → ∀ x, g' x = true → C x = true) := by
  have hn := ho.1
  have hh := lp_for (body := fun q : Int32 × sh_S => f_X10_findsReached_L21 q.1 q.2) (fun k (f : Bf) => (nI k, St5 m f)) (pn P)
    (fun k f => (∀ x, g x = true → f x = true) ∧ (∀ j, j < k → g j = true → ∀ x, nx P j x = true → f x = true) ∧ (∀ C : Bf, (∀ k, k < pn P → C k = true → ∀ x, nx P k x = true → C x = true) → (∀ x, g x = true → C x = true) → ∀ x, f x = true → C x = true))
    (fun e => ∃ f, e = St5 m f ∧ (∀ x, g x = true → f x = true) ∧ (∀ j, j < pn P → g j = true → ∀ x, nx P j x = true → f x = true) ∧ (∀ C : Bf, (∀ k, k < pn P → C k = true → ∀ x, nx P k x = true → C x = true) → (∀ x, g x = true → C x = true) → ∀ x, f x = true → C x = true))
    (fun k f hk ⟨i1, i2, i3⟩ => by
      refine ⟨fun x => f x || (f k && nx P k x), ?_, fun x hx => by simp [i1 x hx], fun j hj hg x hx => ?_, fun C hC hg x hx => ?_⟩
      · show f_X10_findsReached_L21 (nI k) (St5 m f) = _
        unfold f_X10_findsReached_L21
        rw [St5_o m f (by omega), h.1, if_neg (nI_ge hk (by omega)), St5_5, m_isIn (by omega), ob_e, m_nextOf (h.st5 f) ho (by omega), ob_e]
        simp only [bi_0, lb_e]
        cases hf : f k with
        | false =>
          rw [if_pos rfl, ob_e, mkb_0, mkb_or, St5_up, nI_1]
          simp [hf]
        | true =>
          rw [if_neg (by simp), ob_e, mkb_or, St5_up, nI_1]
          simp [hf]
      · by_cases e : j = k
        · subst e; simp [i1 j hg, hx]
        · simp [i2 j (by omega) hg x hx]
      · simp only [Bool.or_eq_true, Bool.and_eq_true] at hx
        rcases hx with hx | ⟨hx, hy⟩
        · exact i3 C hC hg x hx
        · exact hC k hk (i3 C hC hg k hx) x hy)
    (fun f ⟨i1, i2, i3⟩ => ⟨St5 m f, by
      show f_X10_findsReached_L21 (nI (pn P)) (St5 m f) = _
      unfold f_X10_findsReached_L21
      rw [St5_o m f (by omega), h.1, if_pos (nI_le (Nat.le_refl _) (by omega))], f, rfl, i1, i2, i3⟩)
    FU 0 g (Nat.zero_le _) ⟨fun _ hx => hx, fun j hj => by omega, fun C _ hg x hx => hg x hx⟩ (FU_gt (by omega))
  obtain ⟨e, h1, f, rfl, h2⟩ := hh
  exact ⟨f, h1, h2⟩
theorem itr_Rlt (P : Pg) : ∀ j x, itr (FR P) (bR P) j x = true → x < pn P
  | 0, x, h => by
    have h' : (decide (x = 0) && decide (0 < pn P)) = true := h
    simp only [Bool.and_eq_true, decide_eq_true_eq] at h'
    omega
  | j + 1, x, h => by
    have h' : (itr (FR P) (bR P) j x || FR P (itr (FR P) (bR P) j) x) = true := h
    rcases Bool.or_eq_true _ _ |>.mp h' with h1 | h1
    · exact itr_Rlt P j x h1
    · obtain ⟨y, _, hy⟩ := ex_iff.mp h1
      simp only [nx, Bool.and_eq_true, decide_eq_true_eq] at hy
      exact hy.2.1
theorem Rc_lt {x : Nat} (h : Rc P x = true) : x < pn P := itr_Rlt P _ x h
theorem nx_lt {k x : Nat} (h : nx P k x = true) : x < pn P := by
  simp only [nx, Bool.and_eq_true, decide_eq_true_eq] at h
  exact h.1
theorem lfp_fin {F : Bf → Bf} {b g : Bf} {N : Nat} (hF : Mon F N) (h1 : ∀ x, x < N → itr F b N x = true → g x = true) (h2 : ∀ C, Cl F b N C → ∀ x, x < N → g x = true → C x = true) : ∀ x, x < N → g x = lfp F b N x := by
  intro x hx
  refine tt ⟨fun h => h2 _ (lfp_cl hF) x hx h, fun h => h1 x hx h⟩
theorem mR_outer (h : PM P m) (ho : pOK P) : lp (fun q : Int32 × sh_S => f_X10_findsReached_L11 q.1 q.2) FU ((0 : Int32), St5 m (bR P)) = some (St5 m (Rc P)) := by
  have hn := ho.1
  have hh := lp_for (body := fun q : Int32 × sh_S => f_X10_findsReached_L11 q.1 q.2) (fun k (f : Bf) => (nI k, St5 m f)) (pn P)
    (fun r f => (∀ x, x < pn P → itr (FR P) (bR P) r x = true → f x = true) ∧ (∀ C, Cl (FR P) (bR P) (pn P) C → ∀ x, f x = true → C x = true) ∧ ∀ x, f x = true → x < pn P)
    (fun e => e = St5 m (Rc P))
    (fun k f hk ⟨i1, i2, i3⟩ => by
      obtain ⟨g', e1, e2, e3, e4⟩ := mR_inner h ho f
      refine ⟨g', ?_, fun x hx hi => ?_, fun C hC x hx => ?_, fun x hx => ?_⟩
      · show f_X10_findsReached_L11 (nI k) (St5 m f) = _
        unfold f_X10_findsReached_L11
        rw [St5_o m f (by omega), h.1, if_neg (nI_ge hk (by omega)), e1, ob_e, lb_e, nI_1]
      · have hi' : (itr (FR P) (bR P) k x || FR P (itr (FR P) (bR P) k) x) = true := hi
        rcases Bool.or_eq_true _ _ |>.mp hi' with hi | hi
        · exact e2 x (i1 x hx hi)
        · obtain ⟨y, hy, hz⟩ := ex_iff.mp hi
          rw [Bool.and_eq_true] at hz
          exact e3 y hy (i1 y hy hz.1) x hz.2
      · refine e4 C (fun k hk hc x hx => hC.2 x (nx_lt hx) (ex_iff.mpr ⟨k, hk, by rw [hc, hx]; rfl⟩)) (fun x hx => i2 C hC x hx) x hx
      · have := e4 (fun x => decide (x < pn P)) (fun k _ _ x hx => by simp [nx_lt hx]) (fun x hx => by simp [i3 x hx]) x hx
        simpa using this)
    (fun f ⟨i1, i2, i3⟩ => ⟨St5 m f, by
      show f_X10_findsReached_L11 (nI (pn P)) (St5 m f) = _
      unfold f_X10_findsReached_L11
      rw [St5_o m f (by omega), h.1, if_pos (nI_le (Nat.le_refl _) (by omega))], by
      unfold St5
      congr 2
      apply mkb_ext
      intro x _
      by_cases hx : x < pn P
      · exact lfp_fin (FR_mon P) i1 (fun C hC x _ hx => i2 C hC x hx) x hx
      · refine tt ⟨fun hf => absurd (i3 x hf) hx, fun hf => absurd (Rc_lt hf) hx⟩⟩)
    FU 0 (bR P) (Nat.zero_le _) ⟨fun x _ hx => hx, fun C hC x hx => hC.1 x (by simp only [bR, Bool.and_eq_true, decide_eq_true_eq] at hx; omega) hx, fun x hx => by simp only [bR, Bool.and_eq_true, decide_eq_true_eq] at hx; omega⟩ (FU_gt (by omega))
  obtain ⟨e, h1, rfl⟩ := hh
  exact h1
def Lo (P : Pg) : Bf := fun k => Rc P k && lnd P k
def St6 (m : sh_S) (r g : Bf) : sh_S := ur m 0 (upd (upd (m 0) 5 (mkb r)) 6 (mkb g))
theorem m_findsReached (h : PM P m) (ho : pOK P) : f_X10_findsReached m = some (St6 m (Rc P) (Lo P)) := by
  have hn := ho.1
  unfold f_X10_findsReached
  have e0 : f_X10_there (0 : Int32) m = some (mkb (bR P)) := by
    have := m_there h hn (k := 0) (by omega)
    refine this.trans ?_
    congr 1
    apply mkb_ext
    intro i _
    unfold bR
    by_cases e : i = 0
    · subst e; simp
    · simp [e]
  rw [e0, ob_e, lb_e]
  show ob (lp _ FU ((0 : Int32), St5 m (bR P))) _ = _
  rw [mR_outer h ho, ob_e, lb_e]
  have key := lp_fn (body := fun q : Int32 × sh_S => f_X10_findsReached_L77 q.1 q.2) (fun k (s : sh_S) => (nI k, s)) (pn P) (fun k => St6 m (Rc P) (fun x => decide (x < k) && Lo P x)) (St6 m (Rc P) (fun x => decide (x < pn P) && Lo P x))
    (fun k hk => by
      show f_X10_findsReached_L77 (nI k) (St6 m (Rc P) (fun x => decide (x < k) && Lo P x)) = _
      have hP : PM P (St6 m (Rc P) (fun x => decide (x < k) && Lo P x)) := by
        have h1 := (h.st5 (Rc P)).slot (j := 6) (by omega) (mkb (fun x => decide (x < k) && Lo P x))
        unfold St5 at h1
        rw [ur_ur, ur_s] at h1
        exact h1
      have a0 : St6 m (Rc P) (fun x => decide (x < k) && Lo P x) 0 5 = mkb (Rc P) := by unfold St6; rw [ur_s, upd_n _ _ (by omega), upd_s]
      have a1 : St6 m (Rc P) (fun x => decide (x < k) && Lo P x) 0 6 = mkb (fun x => decide (x < k) && Lo P x) := by unfold St6; rw [ur_s, upd_s]
      have a2 : ∀ w, ur (St6 m (Rc P) (fun x => decide (x < k) && Lo P x)) 0 (upd (St6 m (Rc P) (fun x => decide (x < k) && Lo P x) 0) 6 (mkb w)) = St6 m (Rc P) w := by intro w; unfold St6; rw [ur_ur, ur_s, upd_upd]
      unfold f_X10_findsReached_L77
      rw [hP.1, if_neg (nI_ge hk (by omega)), m_lends hP ho (by omega), ob_e, a0, a1, m_isIn (by omega), mkb_one (by omega)]
      simp only [bi_0, ob_e, lb_e]
      have fin : ∀ w : Bf, (∀ x, x < 25 → ((decide (x < k) && Lo P x) || w x) = (decide (x < k + 1) && Lo P x)) → lb (ur (St6 m (Rc P) (fun x => decide (x < k) && Lo P x)) 0 (upd (St6 m (Rc P) (fun x => decide (x < k) && Lo P x) 0) 6 (mkb (fun x => decide (x < k) && Lo P x) ||| mkb w))) (fun s22 => lb (nI k + 1) (fun v23 => (some (Sum.inl (v23, s22)) : Option ((Int32 × sh_S) ⊕ sh_S)))) = some (Sum.inl (nI (k + 1), St6 m (Rc P) (fun x => decide (x < k + 1) && Lo P x))) := by
        intro w hw
        rw [lb_e, lb_e, mkb_or, a2, nI_1]
        congr 3
        unfold St6
        congr 2
        exact mkb_ext hw
      cases c1 : lnd P k with
      | false =>
        rw [if_pos rfl, ob_e, mkb_0]
        refine fin _ (fun x _ => ?_)
        by_cases e : x = k
        · subst e; simp [Lo, c1]
        · by_cases e2 : x < k
          · simp [e2, show x < k + 1 by omega]
          · simp [e2, show ¬ x < k + 1 by omega]
      | true =>
        cases c2 : Rc P k with
        | false =>
          simp only [Bool.true_eq_false, if_false, if_true]
          rw [ob_e, mkb_0]
          refine fin _ (fun x _ => ?_)
          by_cases e : x = k
          · subst e; simp [Lo, c2]
          · by_cases e2 : x < k
            · simp [e2, show x < k + 1 by omega]
            · simp [e2, show ¬ x < k + 1 by omega]
        | true =>
          simp only [Bool.true_eq_false, if_false]
          rw [ob_e]
          refine fin _ (fun x _ => ?_)
          by_cases e : x = k
          · subst e; simp [Lo, c1, c2]
          · by_cases e2 : x < k
            · simp [e2, e, show x < k + 1 by omega]
            · simp [e2, e, show ¬ x < k + 1 by omega])
    (by
      show f_X10_findsReached_L77 (nI (pn P)) (St6 m (Rc P) (fun x => decide (x < pn P) && Lo P x)) = _
      unfold f_X10_findsReached_L77
      have : St6 m (Rc P) (fun x => decide (x < pn P) && Lo P x) 0 0 = nI (pn P) := by unfold St6; rw [ur_s, upd_n _ _ (by omega), upd_n _ _ (by omega)]; exact h.1
      rw [this, if_pos (nI_le (Nat.le_refl _) (by omega))])
    (FU_gt (show pn P < 6000 by omega))
  have e1 : ur (St5 m (Rc P)) 0 (upd (St5 m (Rc P) 0) 6 0) = St6 m (Rc P) (fun x => decide (x < 0) && Lo P x) := by
    unfold St5 St6
    rw [ur_ur, ur_s, mkb_0]
    congr 3
  rw [e1]
  refine (congrArg (fun z => ob z _) key).trans ?_
  rw [ob_e]
  congr 1
  unfold St6
  congr 2
  apply mkb_ext
  intro x _
  by_cases hx : x < pn P
  · simp [hx]
  · simp only [hx, decide_false, Bool.false_and]
    cases hl : Lo P x with
    | false => rfl
    | true =>
      simp only [Lo, Bool.and_eq_true] at hl
      exact absurd (Rc_lt hl.1) hx
end RR
