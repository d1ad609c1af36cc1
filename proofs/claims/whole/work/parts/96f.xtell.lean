def BX (P : Pg) (s : sh_S) : Prop := ∀ r, r < 4 * pn P → s 30 r = mkb (EB P (r / 4) (r % 4))
theorem mul4 (k : Nat) : nI k * (4 : Int32) = nI (4 * k) := by
  rw [show nI k * (4 : Int32) = nI (k * 4) from pk_mul k 4, Nat.mul_comm]
section XT
variable {P : Pg} {s : sh_S}
theorem x_findClashes (hX : LX P s) (hO : OY P s) (hK : KX P s) (ho : pOK P) (hS : ∀ k, k < pn P → s 22 k = mkb (sSc P k) ∧ s 23 k = mkb (sAc P k)) : ∃ s', f_X1_findClashes s = some s' ∧ Fx [30] s s' ∧ ∀ k, k < pn P → s' 30 (4 * k) = mkb (EB P k 0) := by
  have hn := ho.1
  unfold f_X1_findClashes
  have hh := lp_for (body := fun q : Int32 × sh_S => f_X1_findClashes_L2 q.1 q.2) (fun k (t : sh_S) => (nI k, t)) (pn P)
    (fun k t => Fx [30] s t ∧ ∀ j, j < k → t 30 (4 * j) = mkb (EB P j 0))
    (fun e => Fx [30] s e ∧ ∀ j, j < pn P → e 30 (4 * j) = mkb (EB P j 0))
    (fun k t hk ⟨i1, i2⟩ => by
      have hX' := hX.fx i1 (by simp)
      refine ⟨ur t 30 (upd (t 30) (4 * k) (mkb (EB P k 0))), ?_, i1.ur (by simp) _, fun j hj => ?_⟩
      · show f_X1_findClashes_L2 (nI k) t = _
        unfold f_X1_findClashes_L2
        rw [hX'.1, if_neg (nI_ge hk (by omega)), gu_t (inb_n (show k < 24 by omega) (by omega)), ix_n (by omega), lb_e, i1 22 (by simp), (hS k hk).1]
        have e : (if mkb (sSc P k) = 0 then some (0 : Int32) else ob (f_X1_clashes (nI k) t) (fun v7 => some v7)) = some (mkb (EB P k 0)) := by
          by_cases q : mkb (sSc P k) = 0
          · rw [if_pos q, mkb_0]
            refine congrArg some (mkb_ext (fun l hl => ?_))
            show false = clh P k l
            cases e : clh P k l with
            | false => rfl
            | true => have := clh_sc e; rw [mkb_z.mp q l hl] at this; cases this
          · rw [if_neg q, x_clashes hX' ⟨fun c hc => by rw [i1 19 (by simp)]; exact hO.1 c hc, fun v hv => by rw [i1 27 (by simp)]; exact hO.2.1 v hv, fun v hv => by rw [i1 28 (by simp)]; exact hO.2.2 v hv⟩ (fun k hk => by rw [i1 24 (by simp), i1 25 (by simp), i1 26 (by simp)]; exact hK k hk) ho hk (by rw [i1 22 (by simp)]; exact (hS k hk).1) (by rw [i1 23 (by simp)]; exact (hS k hk).2), ob_e]
            rfl
        rw [e, ob_e, mul4, show nI (4 * k) + (0 : Int32) = nI (4 * k) from nI_add (4 * k) 0, gu_t (inb_n (show 4 * k < 96 by omega) (by omega)), lb_e, lb_e, ix_n (by omega), nI_1]
      · rw [ur_s]
        by_cases e : j = k
        · subst e; rw [upd_s]
        · rw [upd_n _ _ (by omega)]; exact i2 j (by omega))
    (fun t hi => ⟨t, by
      show f_X1_findClashes_L2 (nI (pn P)) t = _
      unfold f_X1_findClashes_L2
      rw [(hX.fx hi.1 (by simp)).1, if_pos (nI_le (Nat.le_refl _) (by omega))], hi⟩)
    FU 0 s (Nat.zero_le _) ⟨Fx.rf, fun j hj => by omega⟩ (FU_gt (by omega))
  obtain ⟨e, h1, h2⟩ := hh
  have h1' : lp (fun q : Int32 × sh_S => f_X1_findClashes_L2 q.1 q.2) FU ((0 : Int32), s) = some e := h1
  rw [h1', ob_e]
  exact ⟨e, rfl, h2⟩
theorem x_findMisuses (hX : LX P s) (hO : OY P s) (hH : ∀ i, i < 8 * pn P → s 20 i = mkb (Ho P i)) (ho : pOK P) (h0 : ∀ k, k < pn P → s 30 (4 * k) = mkb (EB P k 0)) : ∃ s', f_X1_findMisuses s = some s' ∧ Fx [30] s s' ∧ BX P s' := by
  have hn := ho.1
  unfold f_X1_findMisuses
  have hh := lp_for (body := fun q : Int32 × sh_S => f_X1_findMisuses_L2 q.1 q.2) (fun k (t : sh_S) => (nI k, t)) (pn P)
    (fun k t => Fx [30] s t ∧ ∀ j, j < pn P → t 30 (4 * j) = mkb (EB P j 0) ∧ (j < k → t 30 (4 * j + 1) = mkb (EB P j 1) ∧ t 30 (4 * j + 2) = mkb (EB P j 2) ∧ t 30 (4 * j + 3) = mkb (EB P j 3)))
    (fun e => Fx [30] s e ∧ BX P e)
    (fun k t hk ⟨i1, i2⟩ => by
      have hX' := hX.fx i1 (by simp)
      have hH' : ∀ i, i < 8 * pn P → t 20 i = mkb (Ho P i) := fun i hi => by rw [i1 20 (by simp)]; exact hH i hi
      obtain ⟨-, x2, -, -, x5, x6, -, x8, x9⟩ := hX'.2 k (by omega)
      have ik : inb (nI k) 24 := inb_n (by omega) (by omega)
      have ha := ak_lt ho k
      have hpv := pv_lt ho k
      have hS1 : ∀ t' : sh_S, t' 19 = s 19 → t' 19 1 = mkb (fun l => Lo P l && decide (ak P l = 3)) := fun t' e => by rw [e]; exact hO.1 1 (by omega)
      refine ⟨ur t 30 (upd (upd (upd (t 30) (4 * k + 1) (mkb (EB P k 1))) (4 * k + 2) (mkb (EB P k 2))) (4 * k + 3) (mkb (EB P k 3))), ?_, i1.ur (by simp) _, fun j hj => ?_⟩
      · show f_X1_findMisuses_L2 (nI k) t = _
        unfold f_X1_findMisuses_L2
        rw [hX'.1, if_neg (nI_ge hk (by omega)), x_heldThrough hX' ho hk hH']
        simp only [gu_t ik, ix_n (show k < 2 ^ 31 by omega), lb_e, x5, x6, x8, x9, ob_e, c2 ha, c4 ha, c5 ha, bi_z0, mul8, mul4, nI_add, gu_t (inb_n (show 8 * k + pv P k < 192 by omega) (show 192 < 2 ^ 31 by omega)), ix_n (show 8 * k + pv P k < 2 ^ 31 by omega), hH' _ (show 8 * k + pv P k < 8 * pn P by omega), mkb_nV, mkb_one (show pv P k < 25 by omega), nI_1]
        have d1 : (if ak P k = 2 then some (1 : Int32) else if ak P k = 4 then some 1 else if ak P k = 5 then some 1 else some 0) = some (bi (decide (ak P k = 2) || decide (ak P k = 4) || decide (ak P k = 5))) := by
          rcases lt10 ha with e | e | e | e | e | e | e | e | e | e <;> simp [e, bi]
        have d2 : (if lnd P k = false then some (0 : Int32) else if gt P k = false then some 1 else some 0) = some (bi (lnd P k && !gt P k)) := by
          cases lnd P k <;> cases gt P k <;> simp [bi]
        rw [d1, ob_e, d2, ob_e]
        simp only [bi_z0]
        rw [bsel, ob_e]
        have z1 : (mkb (fun l => gt P k && Ho P (8 * k + pv P k) l) &&& 16777216 = 0) = ((gt P k && Ho P (8 * k + pv P k) 24) = false) := by
          rw [mkb_V, mkb_and, mkb_z]
          apply propext
          constructor
          · intro h
            have := h 24 (by omega)
            simpa using this
          · intro h i hi
            by_cases q : i = 24
            · subst q; simp [h]
            · simp [q]
        have z3 : (mkb (fun i => (lnd P k && !gt P k) && (Ho P (8 * k + pv P k) i && !decide (i = 24))) = 0) = ((lnd P k && !gt P k && ex 24 (fun q => Ho P (8 * k + pv P k) q)) = false) := by
          rw [mkb_z]
          apply propext
          constructor
          · intro h
            cases c : (lnd P k && !gt P k) with
            | false => rfl
            | true =>
              rw [Bool.true_and]
              cases e : ex 24 (fun q => Ho P (8 * k + pv P k) q) with
              | false => rfl
              | true =>
                obtain ⟨q, hq, e⟩ := ex_iff.mp e
                have := h q (by omega)
                rw [c, e] at this
                simp at this
                omega
          · intro h i hi
            cases c : (lnd P k && !gt P k) with
            | false => rfl
            | true =>
              rw [c, Bool.true_and] at h
              by_cases q : i = 24
              · simp [q]
              · cases e : Ho P (8 * k + pv P k) i with
                | false => simp
                | true => rw [ex_iff.mpr ⟨i, by omega, e⟩] at h; cases h
        simp only [z1, z3]
        rw [bsel, ob_e]
        simp only [show nI (4 * k) + (2 : Int32) = nI (4 * k + 2) from nI_add _ 2, show nI (4 * k) + (3 : Int32) = nI (4 * k + 3) from nI_add _ 3, gu_t (inb_n (show 4 * k + 1 < 96 by omega) (show 96 < 2 ^ 31 by omega)), gu_t (inb_n (show 4 * k + 2 < 96 by omega) (show 96 < 2 ^ 31 by omega)), gu_t (inb_n (show 4 * k + 3 < 96 by omega) (show 96 < 2 ^ 31 by omega)), ix_n (show 4 * k + 1 < 2 ^ 31 by omega), ix_n (show 4 * k + 2 < 2 ^ 31 by omega), ix_n (show 4 * k + 3 < 2 ^ 31 by omega)]
        simp only [ur_n _ _ (show 19 ≠ 30 by omega), i1 19 (by simp)]
        rw [hS1 s rfl, mkb_and, bsel, ob_e, bsel, ob_e]
        simp only [ur_ur, ur_s]
        have e2 : mkb (fun i => (decide (ak P k = 2) || decide (ak P k = 4) || decide (ak P k = 5)) && (gt P k && Ho P (8 * k + pv P k) i && (Lo P i && decide (ak P i = 3)))) = mkb (EB P k 2) := by
          refine mkb_ext (fun b hb => ?_)
          show _ = ((gt P k && (decide (ak P k = 2) || decide (ak P k = 4))) && (decide (b < pn P) && (Ho P (8 * k + pv P k) b && decide (ak P b = 3))))
          have h5 : gt P k = true → decide (ak P k = 5) = false := fun hg => by
            simp only [gt, Bool.and_eq_true] at hg
            unfold ak
            rw [hg.2]
            by_cases q : pk P k = 5 <;> simp [q]
          cases hg : gt P k with
          | false => simp
          | true =>
            rw [h5 hg]
            cases hh : Ho P (8 * k + pv P k) b with
            | false => simp
            | true =>
              have hL : Lo P b = decide (b < pn P) := by
                by_cases q : b = 24
                · subst q
                  have : Lo P 24 = false := by
                    cases e : Lo P 24 with
                    | false => rfl
                    | true => have := Lo_lt e; omega
                  rw [this, decide_eq_false (by omega)]
                · have := Ho_lo ho (show 8 * k + pv P k < 8 * pn P by omega) q hh
                  rw [this, decide_eq_true (Lo_lt this)]
              rw [hL]
              simp
        rw [e2]
        rfl
      · rw [ur_s]
        refine ⟨by rw [upd_n _ _ (by omega), upd_n _ _ (by omega), upd_n _ _ (by omega)]; exact (i2 j hj).1, fun hjk => ?_⟩
        by_cases e : j = k
        · subst e
          rw [upd_s, upd_n _ _ (show 4 * j + 2 ≠ 4 * j + 3 by omega), upd_s, upd_n _ _ (show 4 * j + 1 ≠ 4 * j + 3 by omega), upd_n _ _ (show 4 * j + 1 ≠ 4 * j + 2 by omega), upd_s]
          exact ⟨rfl, rfl, rfl⟩
        · rw [upd_n _ _ (by omega), upd_n _ _ (by omega), upd_n _ _ (by omega), upd_n _ _ (by omega), upd_n _ _ (by omega), upd_n _ _ (by omega), upd_n _ _ (by omega), upd_n _ _ (by omega), upd_n _ _ (by omega)]
          exact (i2 j hj).2 (by omega))
    (fun t hi => ⟨t, by
      show f_X1_findMisuses_L2 (nI (pn P)) t = _
      unfold f_X1_findMisuses_L2
      rw [(hX.fx hi.1 (by simp)).1, if_pos (nI_le (Nat.le_refl _) (by omega))], hi.1, fun r hr => by
      obtain ⟨a0, a1⟩ := hi.2 (r / 4) (by omega)
      obtain ⟨a1, a2, a3⟩ := a1 (by omega)
      have : r % 4 = 0 ∨ r % 4 = 1 ∨ r % 4 = 2 ∨ r % 4 = 3 := by omega
      rcases this with e | e | e | e
      · rw [e, ← a0]; congr 1; omega
      · rw [e, ← a1]; congr 1; omega
      · rw [e, ← a2]; congr 1; omega
      · rw [e, ← a3]; congr 1; omega⟩)
    FU 0 s (Nat.zero_le _) ⟨Fx.rf, fun j hj => ⟨h0 j hj, fun q => by omega⟩⟩ (FU_gt (by omega))
  obtain ⟨e, h1, h2⟩ := hh
  have h1' : lp (fun q : Int32 × sh_S => f_X1_findMisuses_L2 q.1 q.2) FU ((0 : Int32), s) = some e := h1
  rw [h1', ob_e]
  exact ⟨e, rfl, h2⟩
/-- the errors, row by row -/
def eR (P : Pg) (n : Nat) : List Er3 := match n with
  | 0 => []
  | n + 1 => eR P n ++ sg (n / 4) (n % 4) (EB P (n / 4) (n % 4)) 24
theorem eR_eA (ho : pOK P) : ∀ n, n ≤ pn P → eR P (4 * n) = eA P n
  | 0, _ => rfl
  | n + 1, h => by
    have e : 4 * (n + 1) = (((4 * n + 1) + 1) + 1) + 1 := by omega
    rw [e]
    show (((eR P (4 * n) ++ _) ++ _) ++ _) ++ _ = eA P n ++ (if Rc P n then erAt P n else [])
    rw [eR_eA ho n (by omega)]
    have d0 : 4 * n / 4 = n := by omega
    have d1 : (4 * n + 1) / 4 = n := by omega
    have d2 : (4 * n + 1 + 1) / 4 = n := by omega
    have d3 : (4 * n + 1 + 1 + 1) / 4 = n := by omega
    have m0 : 4 * n % 4 = 0 := by omega
    have m1 : (4 * n + 1) % 4 = 1 := by omega
    have m2 : (4 * n + 1 + 1) % 4 = 2 := by omega
    have m3 : (4 * n + 1 + 1 + 1) % 4 = 3 := by omega
    rw [d0, d1, d2, d3, m0, m1, m2, m3]
    cases hr : Rc P n with
    | true => simp [erAt, List.append_assoc]
    | false =>
      have z : ∀ c, sg n c (EB P n c) 24 = [] := fun c => sg_none n c (fun x _ => EB_rc ho (by omega) hr c x)
      simp [z]
theorem EB_lt (ho : pOK P) {k c b : Nat} (h : EB P k c b = true) : b < 24 := by
  have hn := ho.1
  have hpv := pv_lt ho k
  match c with
  | 0 => have := clh_lt (show clh P k b = true from h); omega
  | 1 =>
    simp only [EB, Bool.and_eq_true, decide_eq_true_eq] at h
    omega
  | 2 =>
    simp only [EB, Bool.and_eq_true, decide_eq_true_eq] at h
    omega
  | n + 3 =>
    simp only [EB, Bool.and_eq_true, decide_eq_true_eq] at h
    omega
theorem cnt24 {f : Bf} (h : ∀ b, f b = true → b < 24) : cnt f 25 = cnt f 24 := by
  show cnt f 24 + (if f 24 then 1 else 0) = cnt f 24
  cases e : f 24 with
  | false => rfl
  | true => have := h 24 e; omega
theorem x_rowCount (ho : pOK P) (h : BX P s) {r : Nat} (hr : r < 4 * pn P) : f_J6_bitCount_0f7a4 (s 30 r) = some (nI (cnt (EB P (r / 4) (r % 4)) 24)) := by
  rw [h r hr, x_bitCount, cnt24 (fun b hb => EB_lt ho hb)]
theorem eR_len : ∀ n, (eR P (n + 1)).length = (eR P n).length + cnt (EB P (n / 4) (n % 4)) 24 := fun n => by
  show (eR P n ++ _).length = _
  rw [List.length_append, sg_len]
theorem eR_mono {a b : Nat} (h : a ≤ b) : ∃ l, eR P b = eR P a ++ l := by
  induction b with
  | zero => have : a = 0 := by omega
            subst this; exact ⟨[], rfl⟩
  | succ b ih =>
    by_cases e : a = b + 1
    · subst e; exact ⟨[], (List.append_nil _).symm⟩
    · obtain ⟨l, hl⟩ := ih (by omega)
      exact ⟨l ++ sg (b / 4) (b % 4) (EB P (b / 4) (b % 4)) 24, by show eR P b ++ _ = _; rw [hl, List.append_assoc]⟩
theorem eR_le (ho : pOK P) {r : Nat} (h : r ≤ 4 * pn P) : (eR P r).length ≤ 1200 := by
  obtain ⟨l, hl⟩ := eR_mono (P := P) h
  have h1 := eA_len ho (pn P)
  rw [← eR_eA ho (pn P) (Nat.le_refl _), hl, List.length_append] at h1
  have := ho.1
  omega
theorem x_addUp (ho : pOK P) (h : BX P s) : ∃ s', f_X1_addUp (nI (pn P)) s = some s' ∧ Fx [29] s s' ∧ s' 29 1 = nI (pn P) ∧ s' 29 2 = nI (TE P) := by
  have hn := ho.1
  unfold f_X1_addUp
  simp only [lb_e, ur_ur, ur_s]
  have hh := lp_for (body := fun q : Int32 × sh_S => f_X1_addUp_L12 q.1 q.2) (fun r (t : sh_S) => (nI r, t)) (4 * pn P)
    (fun r t => Fx [29] s t ∧ t 29 1 = nI (pn P) ∧ t 29 2 = nI (eR P r).length)
    (fun e => Fx [29] s e ∧ e 29 1 = nI (pn P) ∧ e 29 2 = nI (eR P (4 * pn P)).length)
    (fun r t hr ⟨i1, i2, i3⟩ => by
      refine ⟨ur t 29 (upd (t 29) 2 (nI (eR P (r + 1)).length)), ?_, i1.ur (by simp) _, by rw [ur_s, upd_n _ _ (by omega)]; exact i2, by rw [ur_s, upd_s]⟩
      show f_X1_addUp_L12 (nI r) t = _
      unfold f_X1_addUp_L12
      rw [i2, mul4, if_neg (nI_ge hr (by omega)), gu_t (inb_n (show r < 96 by omega) (by omega)), ix_n (by omega), x_rowCount ho (s := t) (fun r hr => by rw [i1 30 (by simp)]; exact h r hr) hr, ob_e, i3, nI_add, ← eR_len, lb_e, lb_e, nI_1])
    (fun t hi => ⟨t, by
      show f_X1_addUp_L12 (nI (4 * pn P)) t = _
      unfold f_X1_addUp_L12
      rw [hi.2.1, mul4, if_pos (nI_le (Nat.le_refl _) (by omega))], hi⟩)
    FU 0 (ur s 29 (upd (upd (s 29) 1 (nI (pn P))) 2 0)) (Nat.zero_le _) ⟨Fx.rf.ur (by simp) _, by rw [ur_s, upd_n _ _ (by omega), upd_s], by rw [ur_s, upd_s]; rfl⟩ (FU_gt (by omega))
  obtain ⟨e, h1, h2⟩ := hh
  have h1' : lp (fun q : Int32 × sh_S => f_X1_addUp_L12 q.1 q.2) FU ((0 : Int32), ur s 29 (upd (upd (s 29) 1 (nI (pn P))) 2 0)) = some e := h1
  rw [h1', ob_e]
  refine ⟨e, rfl, h2.1, h2.2.1, ?_⟩
  rw [h2.2.2, eR_eA ho _ (Nat.le_refl _)]; rfl
theorem sg_at (k c : Nat) (f : Bf) : ∀ {n j : Nat}, j < n → f j = true → (sg k c f n)[cnt f j]? = some (k, c, j)
  | 0, j, h, _ => by omega
  | n + 1, j, h, hf => by
    show (sg k c f n ++ (if f n then [(k, c, n)] else []))[cnt f j]? = _
    by_cases e : j = n
    · subst e
      rw [List.getElem?_append_right (by rw [sg_len]; exact Nat.le_refl _), sg_len, Nat.sub_self, hf]
      rfl
    · have h1 := sg_at k c f (show j < n by omega) hf
      rw [List.getElem?_append_left (List.getElem?_eq_some_iff.mp h1).1]
      exact h1
theorem x_numberOfBit {f : Bf} (k c : Nat) {i : Nat} (hi : i < cnt f 24) : ∃ b, f_X1_numberOfBit (mkb f) (nI i) = some (nI b) ∧ (sg k c f 24)[i]? = some (k, c, b) := by
  unfold f_X1_numberOfBit
  have hc := cnt_le f 24
  have hh := lp_fx (body := fun q : Int32 × Int32 => f_X1_numberOfBit_L4 (mkb f) q.1 q.2) (fun j (v : Nat) => (nI v, nI j)) 24
    (fun j v => i = cnt f j + v)
    (fun e => ∃ b, e = .inr (nI b) ∧ (sg k c f 24)[i]? = some (k, c, b))
    (fun j v hj hv => by
      have hcj := cnt_le f j
      cases hf : f j with
      | false =>
        refine Or.inl ⟨v, ?_, by show i = (cnt f j + (if f j then 1 else 0)) + v; rw [hf]; exact hv⟩
        show f_X1_numberOfBit_L4 (mkb f) (nI v) (nI j) = _
        unfold f_X1_numberOfBit_L4
        rw [if_neg (show ¬ (24 : Int32) ≤ nI j from nI_ge (b := 24) hj (by omega)), x_hasBit (by omega), ob_e, hf, if_pos (show bi false = 0 from rfl), lb_e, nI_1]
      | true =>
        by_cases e : v = 0
        · refine Or.inr ⟨.inr (nI j), ?_, j, rfl, ?_⟩
          · show f_X1_numberOfBit_L4 (mkb f) (nI v) (nI j) = _
            unfold f_X1_numberOfBit_L4
            rw [if_neg (show ¬ (24 : Int32) ≤ nI j from nI_ge (b := 24) hj (by omega)), x_hasBit (by omega), ob_e, hf, if_neg (by decide), e, if_pos (show nI 0 = 0 from rfl)]
          · rw [hv, e]; exact sg_at k c f hj hf
        · refine Or.inl ⟨v - 1, ?_, by show i = (cnt f j + (if f j then 1 else 0)) + (v - 1); rw [hf]; simp; omega⟩
          show f_X1_numberOfBit_L4 (mkb f) (nI v) (nI j) = _
          unfold f_X1_numberOfBit_L4
          have e1 : ¬ nI v = (0 : Int32) := fun q => e ((nI_eq (b := 0) (by omega) (by omega)).mp q)
          have e2 : nI v + (-1) = nI (v - 1) := by
            obtain ⟨w, rfl⟩ : ∃ w, v = w + 1 := ⟨v - 1, by omega⟩
            show nI (w + 1) + (-1) = nI w
            rw [← nI_1, Int32.add_assoc]
            show nI w + 0 = nI w
            exact Int32.add_zero _
          rw [if_neg (show ¬ (24 : Int32) ≤ nI j from nI_ge (b := 24) hj (by omega)), x_hasBit (by omega), ob_e, hf, if_neg (by decide), if_neg e1, lb_e, lb_e, e2, nI_1])
    (fun v hv => by omega)
    FU 0 i (Nat.zero_le _) (by show i = 0 + i; omega) (FU_gt (by omega))
  obtain ⟨e, h1, b, rfl, h2⟩ := hh
  have h1' : lp (fun q : Int32 × Int32 => f_X1_numberOfBit_L4 (mkb f) q.1 q.2) FU (nI i, (0 : Int32)) = some (.inr (nI b)) := h1
  rw [h1', ob_e]
  exact ⟨b, rfl, h2⟩
def tl (P : Pg) (i what : Nat) : Int32 := match (eA P (pn P))[i]? with
  | none => -1
  | some e => if what = 0 then nI e.1 else if what = 1 then nI e.2.1 else nI e.2.2
theorem x_tell (ho : pOK P) (h : BX P s) (h1 : s 29 1 = nI (pn P)) {i what : Nat} (hi : i < 1000) (hw : what < 3) : f_X1_tell (nI i) (nI what) s = some (tl P i what) := by
  have hn := ho.1
  unfold f_X1_tell
  have hh := lp_fx (body := fun q : Int32 × Int32 => f_X1_tell_L5 (nI what) s q.1 q.2) (fun r (v : Nat) => (nI v, nI r)) (4 * pn P)
    (fun r v => i = (eR P r).length + v)
    (fun e => sm e (fun _ => some (-1 : Int32)) (fun q => some q) = some (tl P i what))
    (fun r v hr hv => by
      have hc := cnt_le (EB P (r / 4) (r % 4)) 24
      by_cases e : v < cnt (EB P (r / 4) (r % 4)) 24
      · obtain ⟨b, b1, b2⟩ := x_numberOfBit (f := EB P (r / 4) (r % 4)) (r / 4) (r % 4) e
        have hE : (eA P (pn P))[i]? = some (r / 4, r % 4, b) := by
          rw [← eR_eA ho (pn P) (Nat.le_refl _)]
          obtain ⟨l, hl⟩ := eR_mono (P := P) (show r + 1 ≤ 4 * pn P by omega)
          rw [hl]
          have hb2 := (List.getElem?_eq_some_iff.mp b2).1
          show ((eR P r ++ sg (r / 4) (r % 4) (EB P (r / 4) (r % 4)) 24) ++ l)[i]? = _
          rw [List.getElem?_append_left (by rw [List.length_append]; omega), List.getElem?_append_right (by omega), show i - (eR P r).length = v by omega]
          exact b2
        refine Or.inr ⟨.inr (tl P i what), ?_, rfl⟩
        show f_X1_tell_L5 (nI what) s (nI v) (nI r) = _
        unfold f_X1_tell_L5
        rw [h1, mul4, if_neg (nI_ge hr (by omega)), gu_t (inb_n (show r < 96 by omega) (by omega)), ix_n (by omega), x_rowCount ho h hr, ob_e, if_neg (nI_ge e (by omega)), h r hr, b1, show nI r - nI r / 4 * 4 = nI (r % 4) from pk_rem (d := 4) (by omega) (by omega) (by omega), show nI r / 4 = nI (r / 4) from pk_div (d := 4) (by omega) (by omega) (by omega)]
        unfold tl
        rw [hE]
        simp only [ob_e, gu_t (inb_n (show r < 96 by omega) (show 96 < 2 ^ 31 by omega)), show (nI what = (0 : Int32)) = (what = 0) from nI_eqb (b := 0) (by omega) (by omega), show (nI what = (1 : Int32)) = (what = 1) from nI_eqb (b := 1) (by omega) (by omega)]
        by_cases w0 : what = 0
        · simp [w0]
        · by_cases w1 : what = 1
          · simp [w1, ob]
          · simp [w0, w1, ob]
      · refine Or.inl ⟨v - cnt (EB P (r / 4) (r % 4)) 24, ?_, by rw [eR_len]; omega⟩
        show f_X1_tell_L5 (nI what) s (nI v) (nI r) = _
        unfold f_X1_tell_L5
        have e2 : nI v - nI (cnt (EB P (r / 4) (r % 4)) 24) = nI (v - cnt (EB P (r / 4) (r % 4)) 24) := by
          obtain ⟨w, hw⟩ : ∃ w, v = cnt (EB P (r / 4) (r % 4)) 24 + w := ⟨v - cnt (EB P (r / 4) (r % 4)) 24, by omega⟩
          rw [hw, Nat.add_sub_cancel_left, ← nI_add, Int32.add_comm]
          exact Int32.add_sub_cancel _ _
        rw [h1, mul4, if_neg (nI_ge hr (by omega)), gu_t (inb_n (show r < 96 by omega) (by omega)), ix_n (by omega), x_rowCount ho h hr, ob_e, if_pos (nI_le (by omega) (by omega)), lb_e, lb_e, e2, nI_1])
    (fun v hv => ⟨.inl (), by
      show f_X1_tell_L5 (nI what) s (nI v) (nI (4 * pn P)) = _
      unfold f_X1_tell_L5
      rw [h1, mul4, if_pos (nI_le (Nat.le_refl _) (by omega))], by
      show some (-1 : Int32) = some (tl P i what)
      unfold tl
      rw [← eR_eA ho (pn P) (Nat.le_refl _), List.getElem?_eq_none (by omega)]⟩)
    FU 0 i (Nat.zero_le _) (by show i = 0 + i; omega) (FU_gt (by omega))
  obtain ⟨e, g1, g2⟩ := hh
  have g1' : lp (fun q : Int32 × Int32 => f_X1_tell_L5 (nI what) s q.1 q.2) FU (nI i, (0 : Int32)) = some e := g1
  rw [g1', ob_e]
  exact g2
def kc (P : Pg) (c n : Nat) : Nat := match n with
  | 0 => 0
  | n + 1 => kc P c n + cnt (EB P n c) 24
theorem kc_le (c : Nat) : ∀ n, kc P c n ≤ 24 * n
  | 0 => Nat.le_refl _
  | n + 1 => by
    have := kc_le c n
    have := cnt_le (EB P n c) 24
    show kc P c n + _ ≤ _
    omega
theorem x_totalOf (ho : pOK P) (h : BX P s) (h1 : s 29 1 = nI (pn P)) {c : Nat} (hc : c < 4) : f_X1_totalOf (nI c) s = some (nI (kc P c (pn P))) := by
  have hn := ho.1
  unfold f_X1_totalOf
  have key := lp_fn (body := fun q : Int32 × Int32 => f_X1_totalOf_L4 (nI c) s q.1 q.2) (fun j (v : Nat) => (nI v, nI j)) (pn P) (fun j => kc P c j) (nI (kc P c (pn P)))
    (fun j hj => by
      show f_X1_totalOf_L4 (nI c) s (nI (kc P c j)) (nI j) = _
      unfold f_X1_totalOf_L4
      rw [h1, if_neg (nI_ge hj (by omega)), mul4, nI_add, gu_t (inb_n (show 4 * j + c < 96 by omega) (by omega)), ix_n (by omega), x_rowCount ho h (show 4 * j + c < 4 * pn P by omega), ob_e, nI_add, lb_e, lb_e, nI_1, show (4 * j + c) / 4 = j by omega, show (4 * j + c) % 4 = c by omega]
      rfl)
    (by
      show f_X1_totalOf_L4 (nI c) s (nI (kc P c (pn P))) (nI (pn P)) = _
      unfold f_X1_totalOf_L4
      rw [h1, if_pos (nI_le (Nat.le_refl _) (by omega))])
    (FU_gt (show pn P < 6000 by omega))
  have key' : lp (fun q : Int32 × Int32 => f_X1_totalOf_L4 (nI c) s q.1 q.2) FU ((0 : Int32), (0 : Int32)) = some (nI (kc P c (pn P))) := key
  rw [key', ob_e]
end XT
