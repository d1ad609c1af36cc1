def OY (P : Pg) (s : sh_S) : Prop := (∀ c, c < 4 → s 19 c = mkb (fun l => Lo P l && sl P c l)) ∧ (∀ v, v < 8 → s 27 v = mkb (fun l => Lo P l && slO P v l)) ∧ ∀ v, v < 8 → s 28 v = mkb (fun l => Lo P l && slX P v l)
theorem Lo_lt {P : Pg} {l : Nat} (h : Lo P l = true) : l < pn P := by
  simp only [Lo, Bool.and_eq_true] at h
  exact Rc_lt h.1
theorem Lo_gt {P : Pg} {l : Nat} (h : Lo P l = true) : gt P l = thr P l := by
  simp only [Lo, lnd, Bool.and_eq_true, decide_eq_true_eq] at h
  unfold gt
  simp [show 1 ≤ pk P l by omega, h.2.2]
theorem OX.oy {P : Pg} {s : sh_S} (ho : pOK P) (h : OX P s 24) : OY P s := by
  have key : ∀ g : Bf, mkb (fun l => (decide (l < 24) && Lo P l) && g l) = mkb (fun l => Lo P l && g l) := fun g => mkb_ext (fun l _ => by
    cases e : Lo P l
    · simp
    · have := Lo_lt e
      have := ho.1
      simp [show l < 24 by omega])
  exact ⟨fun c hc => by rw [h.1 c hc, key], fun v hv => by rw [h.2.1 v hv, key], fun v hv => by rw [h.2.2 v hv, key]⟩
def KX (P : Pg) (s : sh_S) : Prop := ∀ k, k < pn P → s 24 k = mkb (fun l => Lo P l && kil P k l) ∧ s 25 k = mkb (fun l => Lo P l && rgn P l k) ∧ s 26 k = mkb (fun l => Lo P l && act P k l)
section XK
variable {P : Pg} {s : sh_S}
theorem ex_pick {n y : Nat} (hy : y < n) (f : Bf) (h : ∀ x, x ≠ y → f x = false) : ex n f = f y := by
  apply tt
  rw [ex_iff]
  constructor
  · rintro ⟨x, hx, e⟩
    by_cases q : x = y
    · subst q; exact e
    · rw [h x q] at e; cases e
  · intro e; exact ⟨y, hy, e⟩
theorem x_heldThrough (hX : LX P s) (ho : pOK P) {k : Nat} (hk : k < pn P) (hH : ∀ i, i < 8 * pn P → s 20 i = mkb (Ho P i)) : f_X3_heldThrough (nI k) s = some (mkb (fun l => gt P k && Ho P (8 * k + pv P k) l)) := by
  have hn := ho.1
  obtain ⟨-, -, -, -, -, x6, -, -, x9⟩ := hX.2 k (by omega)
  have hpv := pv_lt ho k
  unfold f_X3_heldThrough
  simp only [gu_t (inb_n (show k < 24 by omega) (show 24 < 2 ^ 31 by omega)), ix_n (show k < 2 ^ 31 by omega), x6, x9, mul8, nI_add, gu_t (inb_n (show 8 * k + pv P k < 192 by omega) (show 192 < 2 ^ 31 by omega)), ix_n (show 8 * k + pv P k < 2 ^ 31 by omega), hH _ (show 8 * k + pv P k < 8 * pn P by omega), bi_z0]
  rw [bsel, ob_e]
theorem xM_in (hX : LX P s) (hu : UX P s) (hG : ∀ v, v < 8 → s 18 v = mkb (Rg P v)) (hO : OY P s) (ho : pOK P) {k : Nat} (hk : k < pn P) : lp (fun q : Int32 × Int32 × Int32 => f_X3_markPoints_L19 s (nI k) q.1 q.2.1 q.2.2) FU ((0 : Int32), (0 : Int32), (0 : Int32)) = some (mkb (fun l => Lo P l && kil P k l), mkb (fun l => Lo P l && rgn P l k)) := by
  have hn := ho.1
  have key := lp_fn (body := fun q : Int32 × Int32 × Int32 => f_X3_markPoints_L19 s (nI k) q.1 q.2.1 q.2.2) (fun x (g : Bf × Bf) => (mkb g.1, mkb g.2, nI x)) 8 (fun x => ((fun l => ex x (fun y => wr P k y && (Lo P l && slO P y l))), (fun l => ex x (fun y => Rg P y k && (Lo P l && slX P y l))))) (mkb (fun l => Lo P l && kil P k l), mkb (fun l => Lo P l && rgn P l k))
    (fun x hx => by
      show f_X3_markPoints_L19 s (nI k) (mkb _) (mkb _) (nI x) = _
      unfold f_X3_markPoints_L19
      rw [if_neg (show ¬ (8 : Int32) ≤ nI x from nI_ge (b := 8) hx (by omega))]
      simp only [gu_t (inb_n (show k < 24 by omega) (show 24 < 2 ^ 31 by omega)), ix_n (show k < 2 ^ 31 by omega), (hu k hk).2.1, x_hasBit (show x < 25 by omega), ob_e, bi_z0, gu_t (inb_n hx (show 8 < 2 ^ 31 by omega)), ix_n (show x < 2 ^ 31 by omega), hO.2.1 x hx, hO.2.2 x hx, hG x hx, x_hasBit (show k < 25 by omega), bsel, lb_e, mkb_or, nI_1]
      rfl)
    (by
      show f_X3_markPoints_L19 s (nI k) (mkb _) (mkb _) (nI 8) = _
      unfold f_X3_markPoints_L19
      rw [if_pos (by decide)]
      refine congrArg (fun z => some (Sum.inr z)) (Prod.ext (mkb_ext (fun l _ => ?_)) (mkb_ext (fun l _ => ?_)))
      · show ex 8 (fun y => wr P k y && (Lo P l && slO P y l)) = (Lo P l && kil P k l)
        rw [ex_pick (pv_lt ho l) _ (fun x hx => by simp [slO, Ne.symm hx])]
        cases e : Lo P l
        · simp
        · simp only [slO, Lo_gt e, kil]
          cases wr P k (pv P l) <;> cases thr P l <;> simp
      · show ex 8 (fun y => Rg P y k && (Lo P l && slX P y l)) = (Lo P l && rgn P l k)
        rw [ex_pick (ho.2 l).2.1 _ (fun x hx => by simp [slX, Ne.symm hx])]
        cases e : Lo P l
        · simp
        · simp only [slX, Lo_gt e, rgn, nvr]
          cases Rg P (px P l) k <;> cases thr P l <;> cases decide (pv P l = px P l) <;> simp)
    (FU_gt (show 8 < 6000 by omega))
  have k2 : lp (fun q : Int32 × Int32 × Int32 => f_X3_markPoints_L19 s (nI k) q.1 q.2.1 q.2.2) FU (mkb (fun _ => false), mkb (fun _ => false), (0 : Int32)) = some (mkb (fun l => Lo P l && kil P k l), mkb (fun l => Lo P l && rgn P l k)) := key
  rw [← mkb_0] at k2
  exact k2
theorem x_markPoints (hX : LX P s) (hu : UX P s) (hG : ∀ v, v < 8 → s 18 v = mkb (Rg P v)) (hO : OY P s) (hH : ∀ i, i < 8 * pn P → s 20 i = mkb (Ho P i)) (ho : pOK P) : ∃ s', f_X3_markPoints s = some s' ∧ Fx [22, 23, 24, 25, 26] s s' ∧ KX P s' ∧ ∀ k, k < pn P → s' 22 k = 0 ∧ s' 23 k = 0 := by
  have hn := ho.1
  unfold f_X3_markPoints
  have hh := lp_for (body := fun q : Int32 × sh_S => f_X3_markPoints_L2 q.1 q.2) (fun k (t : sh_S) => (nI k, t)) (pn P)
    (fun k t => Fx [22, 23, 24, 25, 26] s t ∧ ∀ j, j < k → (t 24 j = mkb (fun l => Lo P l && kil P j l) ∧ t 25 j = mkb (fun l => Lo P l && rgn P l j) ∧ t 26 j = mkb (fun l => Lo P l && act P j l)) ∧ t 22 j = 0 ∧ t 23 j = 0)
    (fun e => Fx [22, 23, 24, 25, 26] s e ∧ KX P e ∧ ∀ k, k < pn P → e 22 k = 0 ∧ e 23 k = 0)
    (fun k t hk ⟨i1, i2⟩ => by
      have hX' := hX.fx i1 (by simp)
      have ik : inb (nI k) 24 := inb_n (by omega) (by omega)
      refine ⟨ur (ur (ur (ur (ur t 24 (upd (t 24) k (mkb (fun l => Lo P l && kil P k l)))) 25 (upd (t 25) k (mkb (fun l => Lo P l && rgn P l k)))) 26 (upd (t 26) k (mkb (fun l => Lo P l && act P k l)))) 22 (upd (t 22) k 0)) 23 (upd (t 23) k 0), ?_, ((((i1.ur (by simp) _).ur (by simp) _).ur (by simp) _).ur (by simp) _).ur (by simp) _, fun j hj => ?_⟩
      · show f_X3_markPoints_L2 (nI k) t = _
        unfold f_X3_markPoints_L2
        rw [hX'.1, if_neg (nI_ge hk (by omega)), xM_in hX' (hu.of (i1 14 (by simp)) (i1 15 (by simp)) (i1 17 (by simp))) (fun v hv => by rw [i1 18 (by simp)]; exact hG v hv) ⟨fun c hc => by rw [i1 19 (by simp)]; exact hO.1 c hc, fun v hv => by rw [i1 27 (by simp)]; exact hO.2.1 v hv, fun v hv => by rw [i1 28 (by simp)]; exact hO.2.2 v hv⟩ ho hk, ob2_e]
        simp only [gu_t ik, ix_n (show k < 2 ^ 31 by omega), lb_e]
        rw [x_heldThrough ((hX'.ur (by omega) _).ur (by omega) _) ho hk (fun i hi => by rw [ur_n _ _ (by omega), ur_n _ _ (by omega), i1 20 (by simp)]; exact hH i hi), ob_e]
        simp only [ur_n _ _ (show 19 ≠ 25 by omega), ur_n _ _ (show 19 ≠ 24 by omega), i1 19 (by simp), hO.1 3 (by omega), mkb_and, nI_1, ur_n _ _ (show 25 ≠ 24 by omega), ur_n _ _ (show 26 ≠ 25 by omega), ur_n _ _ (show 26 ≠ 24 by omega), ur_n _ _ (show 22 ≠ 26 by omega), ur_n _ _ (show 22 ≠ 25 by omega), ur_n _ _ (show 22 ≠ 24 by omega), ur_n _ _ (show 23 ≠ 22 by omega), ur_n _ _ (show 23 ≠ 26 by omega), ur_n _ _ (show 23 ≠ 25 by omega), ur_n _ _ (show 23 ≠ 24 by omega)]
        rw [show mkb (fun i => gt P k && Ho P (8 * k + pv P k) i && (Lo P i && sl P 3 i)) = mkb (fun l => Lo P l && act P k l) from mkb_ext (fun l _ => by
          simp only [act, sl]
          cases gt P k <;> cases Ho P (8 * k + pv P k) l <;> cases Lo P l <;> simp)]
      · simp only [ur_s, ur_n _ _ (show 22 ≠ 23 by omega), ur_n _ _ (show 26 ≠ 23 by omega), ur_n _ _ (show 26 ≠ 22 by omega), ur_n _ _ (show 25 ≠ 23 by omega), ur_n _ _ (show 25 ≠ 22 by omega), ur_n _ _ (show 25 ≠ 26 by omega), ur_n _ _ (show 24 ≠ 23 by omega), ur_n _ _ (show 24 ≠ 22 by omega), ur_n _ _ (show 24 ≠ 26 by omega), ur_n _ _ (show 24 ≠ 25 by omega)]
        by_cases e : j = k
        · subst e; simp [upd_s]
        · simp only [upd_n _ _ e]; exact i2 j (by omega))
    (fun t hi => ⟨t, by
      show f_X3_markPoints_L2 (nI (pn P)) t = _
      unfold f_X3_markPoints_L2
      rw [(hX.fx hi.1 (by simp)).1, if_pos (nI_le (Nat.le_refl _) (by omega))], hi.1, fun k hk => (hi.2 k hk).1, fun k hk => (hi.2 k hk).2⟩)
    FU 0 s (Nat.zero_le _) ⟨Fx.rf, fun j hj => by omega⟩ (FU_gt (by omega))
  obtain ⟨e, h1, h2⟩ := hh
  have h1' : lp (fun q : Int32 × sh_S => f_X3_markPoints_L2 q.1 q.2) FU ((0 : Int32), s) = some e := h1
  rw [h1', ob_e]
  exact ⟨e, rfl, h2⟩
def ptx (x : Nat) : Nat := if x < 24 then x else x - 24
def oS (P : Pg) (f : Bf) (l k : Nat) : Bool := (f k && !kil P k l) || decide (k = l)
def aS (P : Pg) (f : Bf) (l k : Nat) : Bool := (f k && !kil P k l) && (f (24 + k) || act P k l)
def ct (P : Pg) (f : Bf) (l k x : Nat) : Bool := (Lo P l && rgn P l (ptx x)) && (if x < 24 then oS P f l k else aS P f l k)
def FC (P : Pg) (l : Nat) : Bf → Bf := fun f x => decide (x < 48) && ex (pn P) (fun k => nx P k (ptx x) && ct P f l k x)
theorem ct_mon (ho : pOK P) {f g : Bf} {l k x : Nat} (hk : k < pn P) (h : ∀ y, y < 48 → f y = true → g y = true) (e : ct P f l k x = true) : ct P g l k x = true := by
  have hn := ho.1
  have h1 := h k (by omega)
  have h2 := h (24 + k) (by omega)
  simp only [ct, Bool.and_eq_true] at e ⊢
  refine ⟨e.1, ?_⟩
  have e2 := e.2
  split at e2
  · rename_i q
    rw [if_pos q]
    simp only [oS, Bool.or_eq_true, Bool.and_eq_true] at e2 ⊢
    rcases e2 with e2 | e2
    · exact Or.inl ⟨h1 e2.1, e2.2⟩
    · exact Or.inr e2
  · rename_i q
    rw [if_neg q]
    simp only [aS, Bool.or_eq_true, Bool.and_eq_true] at e2 ⊢
    refine ⟨⟨h1 e2.1.1, e2.1.2⟩, ?_⟩
    rcases e2.2 with e3 | e3
    · exact Or.inl (h2 e3)
    · exact Or.inr e3
theorem FC_mon (ho : pOK P) (l : Nat) : Mon (FC P l) 48 := by
  intro f g h x hx e
  simp only [FC, Bool.and_eq_true] at e ⊢
  refine ⟨e.1, ex_mon (fun k hk e2 => ?_) e.2⟩
  rw [Bool.and_eq_true] at e2 ⊢
  exact ⟨e2.1, ct_mon ho hk h e2.2⟩
theorem FC_lt (P : Pg) (l : Nat) (f : Bf) (x : Nat) (h : FC P l f x = true) : x < 48 := by
  simp only [FC, Bool.and_eq_true, decide_eq_true_eq] at h
  exact h.1
theorem FC_iff {l x : Nat} {f : Bf} (hx : x < 48) : FC P l f x = true ↔ ∃ k, k < pn P ∧ nx P k (ptx x) = true ∧ ct P f l k x = true := by
  simp only [FC, hx, decide_true, Bool.true_and]
  rw [ex_iff]
  constructor
  · rintro ⟨k, hk, e⟩
    rw [Bool.and_eq_true] at e
    exact ⟨k, hk, e⟩
  · rintro ⟨k, hk, e⟩
    exact ⟨k, hk, by rw [Bool.and_eq_true]; exact e⟩
theorem FC_out (l : Nat) (hl : Lo P l = false) (x : Nat) (hx : x < 48) : lfp (FC P l) b0 48 x = false := by
  cases e : lfp (FC P l) b0 48 x with
  | false => rfl
  | true =>
    have hz : ∀ f y, FC P l f y = false := fun f y => by
      cases q : FC P l f y with
      | false => rfl
      | true =>
        simp only [FC, Bool.and_eq_true] at q
        obtain ⟨k, hk, q2⟩ := ex_iff.mp q.2
        simp [ct, hl] at q2
    have : ∀ j y, itr (FC P l) b0 j y = false := fun j => by
      induction j with
      | zero => intro y; rfl
      | succ j ih => intro y; show (itr (FC P l) b0 j y || FC P l _ y) = false; rw [ih y, hz]; rfl
    rw [show lfp (FC P l) b0 48 x = itr (FC P l) b0 48 x from rfl, this] at e
    cases e
theorem FSc_lo {l : Nat} {f : Bf} {x : Nat} (h : x < 24) : FSc P l f x = (decide (x < pn P) && rgn P l x && ex (pn P) (fun k => nx P k x && !kil P k l && (f k && !act P k l))) := if_pos h
theorem FSc_hi {l : Nat} {f : Bf} {x : Nat} (h : ¬ x < 24) : FSc P l f x = (decide (x < 48) && (rgn P l (x - 24) && ex (pn P) (fun k => nx P k (x - 24) && !kil P k l && (f (24 + k) || (f k && act P k l))))) := if_neg h
theorem FC_sc (ho : pOK P) {l : Nat} (hl : Lo P l = true) {k : Nat} (hk : k < 24) : lfp (FC P l) b0 48 k = (Tsc P l k || Tsc P l (24 + k)) ∧ lfp (FC P l) b0 48 (24 + k) = Tsc P l (24 + k) := by
  have hn := ho.1
  have hln := Lo_lt hl
  have TC : Cl (FSc P l) (bSc P l) 48 (Tsc P l) := lfp_cl (b := bSc P l) (FSc_mon ho l)
  have LC := lfp_cl (b := b0) (FC_mon ho l)
  have A : ∀ x, x < 48 → lfp (FC P l) b0 48 x = true → (if x < 24 then (Tsc P l x || Tsc P l (24 + x)) else Tsc P l x) = true := by
    refine lfp_le (C := fun x => if x < 24 then (Tsc P l x || Tsc P l (24 + x)) else Tsc P l x) (FC_mon ho l) ⟨fun x _ e => (by cases e), fun x hx e => ?_⟩
    obtain ⟨j, hj, e1, e2⟩ := (FC_iff hx).mp e
    have hj24 : j < 24 := by omega
    have hA : ∀ y, y < 24 → nx P j y = true → rgn P l y = true → kil P j l = false → (Tsc P l (24 + j) = true ∨ (Tsc P l j = true ∧ act P j l = true)) → Tsc P l (24 + y) = true := fun y hy n1 n2 n3 n4 => by
      refine TC.2 (24 + y) (by omega) ?_
      rw [FSc_hi (by omega)]
      simp only [Bool.and_eq_true, decide_eq_true_eq]
      refine ⟨by omega, by rw [show 24 + y - 24 = y by omega]; exact n2, ex_iff.mpr ⟨j, hj, ?_⟩⟩
      rw [show 24 + y - 24 = y by omega, n1, n3]
      rcases n4 with n4 | n4
      · simp [n4]
      · simp [n4.1, n4.2]
    simp only [ct, Bool.and_eq_true] at e2
    by_cases q : x < 24
    · have px' : ptx x = x := by simp [ptx, q]
      rw [px'] at e1 e2
      rw [if_pos q] at e2
      have e3 := e2.2
      show (if x < 24 then (Tsc P l x || Tsc P l (24 + x)) else Tsc P l x) = true
      rw [if_pos q]
      simp only [oS, Bool.or_eq_true, Bool.and_eq_true, Bool.not_eq_true', decide_eq_true_eq, hj24, if_true] at e3
      rw [Bool.or_eq_true]
      rcases e3 with ⟨e4, e5⟩ | e4
      · rcases e4 with e4 | e4
        · cases q2 : act P j l with
          | true => exact Or.inr (hA x q e1 e2.1.2 e5 (Or.inr ⟨e4, q2⟩))
          | false =>
            left
            refine TC.2 x (by omega) ?_
            rw [FSc_lo q]
            simp only [Bool.and_eq_true, decide_eq_true_eq]
            refine ⟨⟨nx_lt e1, e2.1.2⟩, ex_iff.mpr ⟨j, hj, ?_⟩⟩
            simp [e1, e5, e4, q2]
        · exact Or.inr (hA x q e1 e2.1.2 e5 (Or.inl e4))
      · left
        refine TC.1 x (by omega) ?_
        subst e4
        simp [bSc, q, e1, e2.1.2]
    · have px' : ptx x = x - 24 := by simp [ptx, q]
      rw [px'] at e1 e2
      rw [if_neg q] at e2
      have e3 := e2.2
      show (if x < 24 then (Tsc P l x || Tsc P l (24 + x)) else Tsc P l x) = true
      rw [if_neg q]
      simp only [aS, Bool.or_eq_true, Bool.and_eq_true, Bool.not_eq_true', hj24, if_true, show ¬ 24 + j < 24 by omega, if_false] at e3
      have := hA (x - 24) (by omega) e1 e2.1.2 e3.1.2 (by
        rcases e3.2 with r | r
        · exact Or.inl r
        · rcases e3.1.1 with r2 | r2
          · exact Or.inr ⟨r2, r⟩
          · exact Or.inl r2)
      rwa [show 24 + (x - 24) = x by omega] at this
  have L1 : ∀ j y, j < pn P → y < 24 → nx P j y = true → rgn P l y = true → (lfp (FC P l) b0 48 j = true ∧ kil P j l = false ∨ j = l) → lfp (FC P l) b0 48 y = true := fun j y hj hy n1 n2 n3 => by
    refine LC.2 y (by omega) ((FC_iff (by omega)).mpr ⟨j, hj, ?_, ?_⟩)
    · simp only [ptx, hy, if_true]; exact n1
    · simp only [ct, ptx, hy, if_true, hl, n2, oS, Bool.and_self, Bool.true_and, Bool.or_eq_true, Bool.and_eq_true, Bool.not_eq_true', decide_eq_true_eq]
      exact n3
  have L2 : ∀ j y, j < pn P → y < 24 → nx P j y = true → rgn P l y = true → lfp (FC P l) b0 48 j = true → kil P j l = false → (lfp (FC P l) b0 48 (24 + j) = true ∨ act P j l = true) → lfp (FC P l) b0 48 (24 + y) = true := fun j y hj hy n1 n2 n3 n4 n5 => by
    refine LC.2 (24 + y) (by omega) ((FC_iff (by omega)).mpr ⟨j, hj, ?_, ?_⟩)
    · simp only [ptx, show ¬ 24 + y < 24 by omega, if_false, show 24 + y - 24 = y by omega]; exact n1
    · simp only [ct, ptx, show ¬ 24 + y < 24 by omega, if_false, show 24 + y - 24 = y by omega, hl, n2, aS, Bool.and_self, Bool.true_and, Bool.or_eq_true, Bool.and_eq_true, Bool.not_eq_true']
      exact ⟨⟨n3, n4⟩, n5⟩
  have B : ∀ x, x < 48 → Tsc P l x = true → (if x < 24 then lfp (FC P l) b0 48 x else (lfp (FC P l) b0 48 x && lfp (FC P l) b0 48 (x - 24))) = true := by
    refine lfp_le (C := fun x => if x < 24 then lfp (FC P l) b0 48 x else (lfp (FC P l) b0 48 x && lfp (FC P l) b0 48 (x - 24))) (FSc_mon ho l) ⟨fun x _ e => ?_, fun x hx e => ?_⟩
    · simp only [bSc, Bool.and_eq_true, decide_eq_true_eq] at e
      simp only [e.1, if_true]
      exact L1 l x hln e.1 e.2.1 e.2.2 (Or.inr rfl)
    · by_cases q : x < 24
      · rw [FSc_lo q] at e
        simp only [q, if_true]
        simp only [Bool.and_eq_true, decide_eq_true_eq] at e
        obtain ⟨j, hj, e2⟩ := ex_iff.mp e.2
        simp only [Bool.and_eq_true, Bool.not_eq_true', show j < 24 by omega, if_true] at e2
        exact L1 j x hj q e2.1.1 e.1.2 (Or.inl ⟨e2.2.1, e2.1.2⟩)
      · rw [FSc_hi q] at e
        simp only [q, if_false]
        simp only [Bool.and_eq_true, decide_eq_true_eq] at e ⊢
        obtain ⟨j, hj, e2⟩ := ex_iff.mp e.2.2
        simp only [Bool.and_eq_true, Bool.or_eq_true, Bool.not_eq_true', show j < 24 by omega, if_true, show ¬ 24 + j < 24 by omega, if_false, show 24 + j - 24 = j by omega] at e2
        have hj1 : lfp (FC P l) b0 48 j = true := by
          rcases e2.2 with r | r
          · exact r.2
          · exact r.1
        refine ⟨?_, L1 j (x - 24) hj (by omega) e2.1.1 e.2.1 (Or.inl ⟨hj1, e2.1.2⟩)⟩
        have := L2 j (x - 24) hj (by omega) e2.1.1 e.2.1 hj1 e2.1.2 (by
          rcases e2.2 with r | r
          · exact Or.inl r.1
          · exact Or.inr r.2)
        rwa [show 24 + (x - 24) = x by omega] at this
  constructor
  · apply tt
    constructor
    · intro e
      have := A k (by omega) e
      rwa [if_pos hk] at this
    · intro e
      rcases Bool.or_eq_true _ _ |>.mp e with e | e
      · have := B k (by omega) e
        rwa [if_pos hk] at this
      · have := B (24 + k) (by omega) e
        rw [if_neg (by omega), Bool.and_eq_true, show 24 + k - 24 = k by omega] at this
        exact this.2
  · apply tt
    constructor
    · intro e
      have := A (24 + k) (by omega) e
      rwa [if_neg (by omega)] at this
    · intro e
      have := B (24 + k) (by omega) e
      rw [if_neg (by omega), Bool.and_eq_true] at this
      exact this.1
end XK
