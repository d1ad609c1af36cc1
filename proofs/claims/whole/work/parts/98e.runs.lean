def flt (P : Pg) (A : RS) (k : Nat) : Option Nat :=
  if gt P k = true then (if qH A (pv P k) = none then some 1 else if cc (qF A) (qS A) (qH A (pv P k)) = true then some 2 else if (ak P k = 2 ∨ ak P k = 4) ∧ cc (qF A) (fun r => decide (qK A r = 3)) (qH A (pv P k)) = true then some 3 else none)
  else if lnd P k = true ∧ qH A (pv P k) ≠ none then some 4 else none
section FL
variable {P : Pg} {A : RS} {c : Nat} {s m : sh_S}
theorem gt_ak {k : Nat} (hg : gt P k = true) : ak P k ≠ 5 := by
  intro e
  simp only [gt, Bool.and_eq_true] at hg
  unfold ak at e
  by_cases h : pk P k = 5 ∧ thr P k = true
  · rw [if_pos h] at e; omega
  · rw [if_neg h] at e; exact h ⟨e, hg.2⟩
theorem x_fault (hX : LX P s) (ho : pOK P) (hA : RK A) (hn : qN A ≤ 300) (h : XW A c s) {k : Nat} (hk : k < 24) : f_X8_fault (nI k) s = some (oe (flt P A k)) := by
  obtain ⟨g1, g2, g3, g4, g5, g6, g7, g8, g9⟩ := hX.2 k hk
  have i1 : inb (nI k) 24 := inb_n hk (by omega)
  have hp := pv_lt ho k
  have ha := ak_lt ho k
  have hq : ∀ j, qH A (pv P k) = some j → j < qN A := fun j e => hA.2.2.2 _ _ e
  have em : (oe (qH A (pv P k)) = (-1 : Int32)) = (qH A (pv P k) = none) := oe_m1 (fun j hj => by have := hq j hj; omega)
  unfold f_X8_fault
  rw [gu_t i1, ix_n (by omega), g6, gu_t (inb_n hp (by omega)), lb_e, ix_n (by omega), h.2.2.2 _ hp, gu_t i1, g9, gu_t i1, g8, x_hasStale hA hn h hq, ob_e, gu_t i1, lb_e, g5, x_hasShared hA hn h hq]
  simp only [em, c2 ha, c4 ha, c5 ha]
  unfold flt
  cases hg : gt P k with
  | false =>
    rw [if_pos (show bi false = (0 : Int32) from rfl), if_neg (show ¬ false = true by decide)]
    cases hl : lnd P k with
    | false => rw [if_pos (show bi false = (0 : Int32) from rfl), ob_e, if_neg (by simp)]; rfl
    | true =>
      rw [if_neg (show ¬ bi true = (0 : Int32) by decide)]
      by_cases e : qH A (pv P k) = none
      · rw [if_pos e, ob_e, if_neg (by simp [e])]; rfl
      · rw [if_neg e, ob_e, if_pos ⟨rfl, e⟩]; rfl
  | true =>
    have h5 := gt_ak hg
    rw [if_neg (show ¬ bi true = (0 : Int32) by decide), if_pos rfl]
    by_cases e : qH A (pv P k) = none
    · rw [if_pos e, if_pos e]; rfl
    · rw [if_neg e, if_neg e]
      cases hs : cc (qF A) (qS A) (qH A (pv P k)) with
      | true => rw [if_neg (show ¬ bi true = (0 : Int32) by decide), if_pos rfl]; rfl
      | false =>
        rw [if_pos (show bi false = (0 : Int32) from rfl), if_neg (show ¬ false = true by decide), if_neg h5]
        have ew : (if ak P k = 2 then some (1 : Int32) else (if ak P k = 4 then some (1 : Int32) else some (0 : Int32))) = some (bi (decide (ak P k = 2) || decide (ak P k = 4))) := by
          by_cases x2 : ak P k = 2
          · simp [x2, bi]
          · by_cases x4 : ak P k = 4
            · simp [x4, bi]
            · simp [x2, x4, bi]
        rw [ew, ob_e]
        by_cases x : ak P k = 2 ∨ ak P k = 4
        · have hb : bi (decide (ak P k = 2) || decide (ak P k = 4)) = 1 := by simp [x, bi]
          rw [hb, if_neg (by decide), ob_e]
          cases hsh : cc (qF A) (fun r => decide (qK A r = 3)) (qH A (pv P k)) with
          | true => rw [if_neg (show ¬ bi true = (0 : Int32) by decide), ob_e, if_pos ⟨x, rfl⟩]; rfl
          | false => rw [if_pos (show bi false = (0 : Int32) from rfl), ob_e, if_neg (by simp)]; rfl
        · have hb : bi (decide (ak P k = 2) || decide (ak P k = 4)) = 0 := by
            rw [bi_z0]
            simp only [not_or] at x
            simp [x.1, x.2]
          rw [hb, if_pos rfl, ob_e, if_neg (fun z => x z.1)]; rfl
theorem m_whyBad (hM : PM P m) (ho : pOK P) (hA : RK A) (hn : qN A ≤ 300) (h : MW A m) {k : Nat} (hk : k < 24) : f_X10_whyBad (nI k) m = some (oe (flt P A k)) := by
  obtain ⟨g1, g2, g3, g4⟩ := hM.2 k hk
  have i1 : inb (nI k) 24 := inb_n hk (by omega)
  have hp := pv_lt ho k
  have ha := ak_lt ho k
  have hp48 := (ho.2 k).2.2.1
  have hq : ∀ j, qH A (pv P k) = some j → j < qN A := fun j e => hA.2.2.2 _ _ e
  have em : (oe (qH A (pv P k)) = (-1 : Int32)) = (qH A (pv P k) = none) := oe_m1 (fun j hj => by have := hq j hj; omega)
  have h21 : m 21 (pp P k / 6) = oe (qH A (pv P k)) := h.2.2 _ hp
  unfold f_X10_whyBad
  rw [gu_t i1, ix_n (by omega), g3, m_variable _ hp48, ob_e, gu_t (inb_n (show pp P k / 6 < 8 from hp) (by omega)), lb_e, ix_n (by have : pp P k / 6 < 8 := hp; omega), h21, m_goesBy hM ho hk, ob_e, m_lends hM ho hk, ob_e, m_kind hM ho hk, ob_e, m_isStale hA hn h hq, ob_e, m_isShared hA hn h hq, ob_e]
  simp only [em, c2 ha, c4 ha]
  unfold flt
  cases hg : gt P k with
  | false =>
    rw [if_neg (show ¬ false = true by decide), if_pos rfl, if_neg (show ¬ false = true by decide)]
    cases hl : lnd P k with
    | false => rw [if_pos (show bi false = (0 : Int32) from rfl), ob_e, if_neg (by simp)]; rfl
    | true =>
      rw [if_neg (show ¬ bi true = (0 : Int32) by decide)]
      by_cases e : qH A (pv P k) = none
      · rw [if_pos e, ob_e, if_neg (by simp [e])]; rfl
      · rw [if_neg e, ob_e, if_pos ⟨rfl, e⟩]; rfl
  | true =>
    rw [if_pos rfl, if_neg (neg1 (by omega)), if_pos rfl]
    by_cases e : qH A (pv P k) = none
    · rw [if_pos e, if_pos e]; rfl
    · rw [if_neg e, if_neg e]
      cases hs : cc (qF A) (qS A) (qH A (pv P k)) with
      | true => rw [if_neg (show ¬ bi true = (0 : Int32) by decide), if_pos rfl]; rfl
      | false =>
        rw [if_pos (show bi false = (0 : Int32) from rfl), if_neg (show ¬ false = true by decide)]
        cases hsh : cc (qF A) (fun r => decide (qK A r = 3)) (qH A (pv P k)) with
        | true =>
          rw [if_neg (show ¬ bi true = (0 : Int32) by decide)]
          by_cases x2 : ak P k = 2
          · rw [if_pos x2, ob_e, if_pos ⟨Or.inl x2, rfl⟩]; rfl
          · rw [if_neg x2]
            by_cases x4 : ak P k = 4
            · rw [if_pos x4, ob_e, if_pos ⟨Or.inr x4, rfl⟩]; rfl
            · rw [if_neg x4, ob_e, if_neg (fun z => z.1.elim x2 x4)]; rfl
        | false =>
          rw [if_pos (show bi false = (0 : Int32) from rfl), if_neg (show ¬ ((ak P k = 2 ∨ ak P k = 4) ∧ false = true) by simp)]
          by_cases x2 : ak P k = 2
          · rw [if_pos x2, ob_e]; rfl
          · rw [if_neg x2]
            by_cases x4 : ak P k = 4
            · rw [if_pos x4, ob_e]; rfl
            · rw [if_neg x4, ob_e]; rfl
theorem flt_none {k : Nat} (h : flt P A k = none) : gt P k = true → qH A (pv P k) ≠ none := by
  intro hg e
  unfold flt at h
  rw [if_pos hg, if_pos e] at h
  cases h
theorem flt_lt {k j : Nat} (h : flt P A k = some j) : j < 5 := by
  unfold flt at h
  split at h
  · split at h
    · cases h; omega
    · split at h
      · cases h; omega
      · split at h
        · cases h; omega
        · cases h
  · split at h
    · cases h; omega
    · cases h
def Xr (s t : sh_S) : Prop := (∀ k, (k < 56 ∨ 63 < k) → t k = s k) ∧ ∀ j, (j < 7 ∨ (8 < j ∧ j < 13) ∨ 15 < j) → t 56 j = s 56 j
def Mr (m t : sh_S) : Prop := (∀ k, k ≠ 0 → (k < 15 ∨ 21 < k) → t k = m k) ∧ ∀ j, j ≠ 19 → (j < 27 ∨ 29 < j) → t 0 j = m 0 j
theorem Xr.tr {a b c : sh_S} (h1 : Xr a b) (h2 : Xr b c) : Xr a c := ⟨fun k hk => (h2.1 k hk).trans (h1.1 k hk), fun j x => (h2.2 j x).trans (h1.2 j x)⟩
theorem Mr.tr {a b c : sh_S} (h1 : Mr a b) (h2 : Mr b c) : Mr a c := ⟨fun k x hk => (h2.1 k x hk).trans (h1.1 k x hk), fun j x y => (h2.2 j x y).trans (h1.2 j x y)⟩
theorem Xr.rf : Xr s s := ⟨fun _ _ => rfl, fun _ _ => rfl⟩
theorem Mr.rf : Mr m m := ⟨fun _ _ _ => rfl, fun _ _ _ => rfl⟩
theorem Wx.xr {t : sh_S} (h : Wx s t) : Xr s t := ⟨h.1, fun j hj => h.2 j (by omega) (by omega)⟩
theorem Mx.mr {t : sh_S} (h : Mx m t) : Mr m t := ⟨h.1, fun j hj _ => h.2 j hj⟩
theorem Xr.u56 {j : Nat} (h : 13 ≤ j ∧ j ≤ 15) (v : Int32) : Xr s (ur s 56 (upd (s 56) j v)) := ⟨fun k hk => ur_n _ _ (by omega), fun i hi => by rw [ur_s, upd_n _ _ (by omega)]⟩
theorem Mr.u0 {j : Nat} (h : 27 ≤ j ∧ j ≤ 29) (v : Int32) : Mr m (ur m 0 (upd (m 0) j v)) := ⟨fun k h0 hk => ur_n _ _ h0, fun i hi _ => by rw [ur_s, upd_n _ _ (by omega)]⟩
theorem XW.u56 (h : XW A c s) {j : Nat} (hj : 13 ≤ j) (v : Int32) : XW A c (ur s 56 (upd (s 56) j v)) := by
  refine ⟨by rw [ur_s, upd_n _ _ (by omega)]; exact h.1, by rw [ur_s, upd_n _ _ (by omega)]; exact h.2.1, fun r hr => ?_, fun x hx => by rw [ur_n _ _ (by omega)]; exact h.2.2.2 x hx⟩
  rw [ur_n _ _ (by omega), ur_n _ _ (by omega), ur_n _ _ (by omega), ur_n _ _ (by omega), ur_n _ _ (by omega), ur_n _ _ (by omega)]
  exact h.2.2.1 r hr
theorem MW.u0 (h : MW A m) {j : Nat} (hj : 27 ≤ j) (v : Int32) : MW A (ur m 0 (upd (m 0) j v)) := by
  refine ⟨by rw [ur_s, upd_n _ _ (by omega)]; exact h.1, fun r hr => ?_, fun x hx => by rw [ur_n _ _ (by omega)]; exact h.2.2 x hx⟩
  rw [ur_n _ _ (by omega), ur_n _ _ (by omega), ur_n _ _ (by omega), ur_n _ _ (by omega), ur_n _ _ (by omega), ur_n _ _ (by omega)]
  exact h.2.1 r hr
theorem PM.mr {t : sh_S} (h : PM P m) (e : Mr m t) : PM P t := by
  refine ⟨by rw [e.2 0 (by omega) (by omega)]; exact h.1, fun k hk => ?_⟩
  rw [e.1 1 (by omega) (by omega), e.1 2 (by omega) (by omega), e.1 3 (by omega) (by omega), e.1 4 (by omega) (by omega)]
  exact h.2 k hk
theorem LX.xr {t : sh_S} (h : LX P s) (e : Xr s t) : LX P t := h.of (fun k hk => e.1 k (by omega))
def sel (p : Int32) (v : Int32) : Bool := decide ((p >>> ((v - v / (31 : Int32) * (31 : Int32)) &&& 31)) &&& (1 : Int32) = (1 : Int32))
theorem m_sel (p v : Int32) : f_X10_isIn p (v - v / (31 : Int32) * (31 : Int32)) = some (bi (sel p v)) := by
  unfold f_X10_isIn sel
  by_cases e : (p >>> ((v - v / (31 : Int32) * (31 : Int32)) &&& 31)) &&& (1 : Int32) = (1 : Int32)
  · simp [e, ob, gu, bi]
  · simp [e, ob, gu, bi]
def nxt (P : Pg) (k : Nat) (b : Bool) : Int32 := if pk P k = 7 then (if b = true then nI (pt P k) else nI (k + 1)) else if pk P k = 8 then nI (pt P k) else if pk P k = 9 then -1 else nI (k + 1)
theorem run_sim (ho : pOK P) (p : Int32) {st : Nat} (hst : st ≤ 300) : ∀ (t d mb fu c : Nat) (x : Int32) (A : RS) (s m : sh_S), t + d = st → t + 1 < fu → mb ≤ d → c ≤ 3 * d → qN A ≤ d → RK A → LX P s → PM P m → XW A c s → MW A m → s 56 13 = -1 → s 56 14 = -1 → s 56 15 = nI d → m 0 27 = -1 → m 0 28 = -1 → m 0 29 = nI d →
    ∃ s' m', lp (fun q : Int32 × Int32 × sh_S => f_X8_go_L48 p (nI st) q.1 q.2.1 q.2.2) fu (x, nI mb, s) = some s' ∧ lp (fun q : Int32 × Int32 × sh_S => f_X10_runs_L49 p (nI st) q.1 q.2.1 q.2.2) fu (x, nI mb, m) = some m' ∧ s' 56 13 = m' 0 27 ∧ s' 56 14 = m' 0 28 ∧ s' 56 15 = m' 0 29 ∧ Xr s s' ∧ Mr m m' := by
  intro t
  induction t with
  | zero =>
    intro d mb fu c x A s m htd hfu hmb hc hn hA hX hM h1 h2 e13 e14 e15 e27 e28 e29
    cases fu with
    | zero => omega
    | succ fu =>
      have hd : d = st := by omega
      subst hd
      refine ⟨s, m, ?_, ?_, by rw [e13, e27], by rw [e14, e28], by rw [e15, e29], Xr.rf, Mr.rf⟩
      · unfold lp
        have : f_X8_go_L48 p (nI d) x (nI mb) s = some (.inr s) := by
          unfold f_X8_go_L48
          rw [e15, if_pos (nI_le (Nat.le_refl _) (by omega))]
        rw [this]
      · unfold lp
        have : f_X10_runs_L49 p (nI d) x (nI mb) m = some (.inr m) := by
          unfold f_X10_runs_L49
          rw [m_isPoint hM ho.1, ob_e, e29, if_pos (nI_le (Nat.le_refl _) (by omega))]
          by_cases z : bi (isPt (pn P) x) = 0
          · rw [if_pos z]
          · rw [if_neg z]
        rw [this]
  | succ t ih =>
    intro d mb fu c x A s m htd hfu hmb hc hn hA hX hM h1 h2 e13 e14 e15 e27 e28 e29
    cases fu with
    | zero => omega
    | succ fu =>
      have hLI : f_X4_has x (rs em_LI s) = some (bi (isPt (pn P) x)) := x_has (by rw [LI_rs s (by omega)]; exact hX.1) x
      have g15 : ¬ nI st ≤ nI d := nI_ge (by omega) (by omega)
      cases hz : isPt (pn P) x with
      | false =>
        refine ⟨s, m, ?_, ?_, by rw [e13, e27], by rw [e14, e28], by rw [e15, e29], Xr.rf, Mr.rf⟩
        · unfold lp
          have : f_X8_go_L48 p (nI st) x (nI mb) s = some (.inr s) := by
            unfold f_X8_go_L48
            rw [e15, if_neg g15, hLI, hz, ob_e, if_pos (show bi false = (0 : Int32) from rfl)]
          rw [this]
        · unfold lp
          have : f_X10_runs_L49 p (nI st) x (nI mb) m = some (.inr m) := by
            unfold f_X10_runs_L49
            rw [m_isPoint hM ho.1, hz, ob_e, if_pos (show bi false = (0 : Int32) from rfl)]
          rw [this]
      | true =>
        obtain ⟨k, hk, rfl⟩ := isPt_of ho.1 hz
        have hn24 := ho.1
        have i1 : inb (nI k) 24 := inb_n (by omega) (by omega)
        have b1 : ¬ bi true = (0 : Int32) := by decide
        -- class, one step
        have hX10 : LX P (ur s 56 (upd (s 56) 15 (nI (d + 1)))) := hX.ur (by omega) _
        have hW10 := h1.u56 (j := 15) (by omega) (nI (d + 1))
        have hM17 : PM P (ur m 0 (upd (m 0) 29 (nI (d + 1)))) := hM.slot (by omega) _
        have hW17 := h2.u0 (j := 29) (by omega) (nI (d + 1))
        cases hf : flt P A k with
        | some w =>
          have hw := flt_lt hf
          have hwn : ¬ nI w = (-1 : Int32) := neg1 (by omega)
          have stepX : f_X8_go_L48 p (nI st) (nI k) (nI mb) s = some (.inl (nI k, nI mb, ur s 56 (upd (upd (upd (s 56) 15 (nI (d + 1))) 14 (nI w)) 13 (nI k)))) := by
            unfold f_X8_go_L48
            rw [e15, if_neg g15, hLI, hz, ob_e, if_neg b1, e14, if_pos rfl, lb_e, nI_1, x_fault hX10 ho hA (by omega) hW10 (by omega), hf, ob_e, lb_e]
            simp only [ur_s, ur_ur, upd_s]
            rw [show oe (some w) = nI w from rfl, if_neg hwn, lb_e]
          have stepM : f_X10_runs_L49 p (nI st) (nI k) (nI mb) m = some (.inl (nI k, nI mb, ur m 0 (upd (upd (upd (m 0) 29 (nI (d + 1))) 27 (nI k)) 28 (nI w)))) := by
            unfold f_X10_runs_L49
            rw [m_isPoint hM ho.1, hz, ob_e, if_neg b1, e29, if_neg g15, e27, if_pos rfl, m_whyBad hM ho hA (by omega) h2 (by omega), hf, ob_e, lb_e, nI_1, show oe (some w) = nI w from rfl, if_neg hwn, lb_e, lb_e, ob3_e]
            simp only [ur_s, ur_ur]
          have stopX : ∀ fu' y, lp (fun q : Int32 × Int32 × sh_S => f_X8_go_L48 p (nI st) q.1 q.2.1 q.2.2) (fu' + 1) (nI k, nI mb, y) = some y ∨ ¬ (y 0 9 = nI (pn P) ∧ y 56 14 = nI w) := fun fu' y => by
            by_cases cy : y 0 9 = nI (pn P) ∧ y 56 14 = nI w
            · refine Or.inl ?_
              unfold lp
              have : f_X8_go_L48 p (nI st) (nI k) (nI mb) y = some (.inr y) := by
                unfold f_X8_go_L48
                by_cases c1 : nI st ≤ y 56 15
                · rw [if_pos c1]
                · rw [if_neg c1, x_has (P := P) (by rw [LI_rs y (by omega)]; exact cy.1) (nI k), hz, ob_e, if_neg b1, cy.2, if_neg hwn]
              rw [this]
            · exact Or.inr cy
          have stopM : ∀ fu' y, lp (fun q : Int32 × Int32 × sh_S => f_X10_runs_L49 p (nI st) q.1 q.2.1 q.2.2) (fu' + 1) (nI k, nI mb, y) = some y ∨ ¬ (PM P y ∧ y 0 27 = nI k) := fun fu' y => by
            by_cases cy : PM P y ∧ y 0 27 = nI k
            · refine Or.inl ?_
              unfold lp
              have : f_X10_runs_L49 p (nI st) (nI k) (nI mb) y = some (.inr y) := by
                unfold f_X10_runs_L49
                rw [m_isPoint cy.1 ho.1, hz, ob_e, if_neg b1]
                by_cases c1 : nI st ≤ y 0 29
                · rw [if_pos c1]
                · rw [if_neg c1, cy.2, if_neg (neg1 (by omega))]
              rw [this]
            · exact Or.inr cy
          obtain ⟨fu2, rfl⟩ : ∃ fu2, fu = fu2 + 1 := ⟨fu - 1, by omega⟩
          refine ⟨ur s 56 (upd (upd (upd (s 56) 15 (nI (d + 1))) 14 (nI w)) 13 (nI k)), ur m 0 (upd (upd (upd (m 0) 29 (nI (d + 1))) 27 (nI k)) 28 (nI w)), ?_, ?_, ?_, ?_, ?_, ⟨fun j hj => ur_n _ _ (by omega), fun j hj => ?_⟩, ⟨fun j h0 hj => ur_n _ _ h0, fun j hj hj2 => ?_⟩⟩
          · unfold lp
            rw [stepX]
            show lp _ (fu2 + 1) _ = _
            rcases stopX fu2 (ur s 56 (upd (upd (upd (s 56) 15 (nI (d + 1))) 14 (nI w)) 13 (nI k))) with z | z
            · exact z
            · exact absurd ⟨by rw [ur_n _ _ (by omega)]; exact hX.1, by rw [ur_s, upd_n _ _ (by omega), upd_s]⟩ z
          · unfold lp
            rw [stepM]
            show lp _ (fu2 + 1) _ = _
            rcases stopM fu2 (ur m 0 (upd (upd (upd (m 0) 29 (nI (d + 1))) 27 (nI k)) 28 (nI w))) with z | z
            · exact z
            · refine absurd ⟨hM.mr ⟨fun j h0 hj => ur_n _ _ h0, fun j hj hj2 => ?_⟩, by rw [ur_s, upd_n _ _ (by omega), upd_s]⟩ z
              rw [ur_s, upd_n _ _ (by omega), upd_n _ _ (by omega), upd_n _ _ (by omega)]
          · rw [ur_s, ur_s, upd_s, upd_n _ _ (by omega), upd_s]
          · rw [ur_s, ur_s, upd_n _ _ (by omega), upd_s, upd_s]
          · rw [ur_s, ur_s, upd_n _ _ (by omega), upd_n _ _ (by omega), upd_s, upd_n _ _ (by omega), upd_n _ _ (by omega), upd_s]
          · rw [ur_s, upd_n _ _ (by omega), upd_n _ _ (by omega), upd_n _ _ (by omega)]
          · rw [ur_s, upd_n _ _ (by omega), upd_n _ _ (by omega), upd_n _ _ (by omega)]
        | none =>
          have hX12 : LX P (ur s 56 (upd (upd (s 56) 15 (nI (d + 1))) 14 (-1))) := hX.ur (by omega) _
          have hW12 : XW A c (ur s 56 (upd (upd (s 56) 15 (nI (d + 1))) 14 (-1))) := by
            have := hW10.u56 (j := 14) (by omega) (-1)
            rw [ur_s, ur_ur] at this
            exact this
          obtain ⟨s1, c1', a1, a2, a3, a4⟩ := x_perform hX12 ho hA (by omega) hW12 (by omega) (k := k) (by omega)
          obtain ⟨m1, b1', b2, b3⟩ := m_does hM17 ho hA (by omega) hW17 (k := k) (by omega) (flt_none hf)
          obtain ⟨r1, r2⟩ := prf_RK ho hA k
          have hX1 : LX P s1 := hX12.of (fun j hj => a4.1 j (by omega))
          have hM1 : PM P m1 := hM17.mx b3
          obtain ⟨g1, g2, g3, g4, g5, g6, g7, g8, g9⟩ := hX1.2 k (by omega)
          obtain ⟨y1, y2, y3, y4⟩ := hM1.2 k (by omega)
          have hk10 := (ho.2 k).1
          have ht24 := (ho.2 k).2.2.2
          have em : nI mb + bi (decide (pk P k = 7)) = nI (mb + (if pk P k = 7 then 1 else 0)) := by
            by_cases e : pk P k = 7
            · simp only [e, decide_true, if_true]; exact nI_1 mb
            · simp only [e, decide_false, if_false]
              show nI mb + nI 0 = _
              rw [nI_add]
          have k7 : (if pk P k = 7 then some (1 : Int32) else some (0 : Int32)) = some (bi (decide (pk P k = 7))) := by
            by_cases e : pk P k = 7
            · simp [e, bi]
            · simp [e, bi]
          have stepX : f_X8_go_L48 p (nI st) (nI k) (nI mb) s = some (.inl (nxt P k (sel p (nI mb)), nI (mb + (if pk P k = 7 then 1 else 0)), s1)) := by
            unfold f_X8_go_L48
            rw [e15, if_neg g15, hLI, hz, ob_e, if_neg b1, e14, if_pos rfl, lb_e, nI_1, x_fault hX10 ho hA (by omega) hW10 (by omega), hf, ob_e, lb_e]
            simp only [ur_s, ur_ur, upd_s]
            rw [show oe none = (-1 : Int32) from rfl, if_pos rfl, a1, ob_e]
            have esel : (if (p >>> ((nI mb - nI mb / (31 : Int32) * (31 : Int32)) &&& 31)) &&& (1 : Int32) = (1 : Int32) then some (1 : Int32) else some (0 : Int32)) = some (bi (sel p (nI mb))) := by
              unfold sel
              by_cases e : (p >>> ((nI mb - nI mb / (31 : Int32) * (31 : Int32)) &&& 31)) &&& (1 : Int32) = (1 : Int32)
              · simp [e, bi]
              · simp [e, bi]
            rw [esel, ob_e, gu_t i1, ix_n (by omega), g1]
            simp only [c7 hk10]
            rw [k7, ob_e, lb_e, em]
            have efo : f_X8_following (nI k) (bi (sel p (nI mb))) s1 = some (nxt P k (sel p (nI mb))) := by
              unfold f_X8_following nxt
              rw [gu_t i1, lb_e, ix_n (by omega), g1, gu_t i1, g4, nI_1]
              simp only [c7 hk10, c8 hk10, c9 hk10]
              by_cases e7 : pk P k = 7
              · rw [if_pos e7, if_pos e7]
                cases sel p (nI mb) <;> rfl
              · rw [if_neg e7, if_neg e7]
                by_cases e8 : pk P k = 8
                · rw [if_pos e8, if_pos e8]
                · rw [if_neg e8, if_neg e8]
                  by_cases e9 : pk P k = 9
                  · rw [if_pos e9, if_pos e9]
                  · rw [if_neg e9, if_neg e9]
            rw [efo, ob_e]
          have stepM : f_X10_runs_L49 p (nI st) (nI k) (nI mb) m = some (.inl (nxt P k (sel p (nI mb)), nI (mb + (if pk P k = 7 then 1 else 0)), m1)) := by
            unfold f_X10_runs_L49
            rw [m_isPoint hM ho.1, hz, ob_e, if_neg b1, e29, if_neg g15, e27, if_pos rfl, m_whyBad hM ho hA (by omega) h2 (by omega), hf, ob_e, lb_e, nI_1, show oe none = (-1 : Int32) from rfl, if_pos rfl, b1', ob_e, gu_t i1, ix_n (by omega), y1, gu_t i1, m_sel, ob_e]
            simp only [c7 hk10, c8 hk10, c9 hk10, gu_t i1, k7, ob_e, lb_e, em, y4, nI_1]
            unfold nxt
            by_cases e8 : pk P k = 8
            · have e7 : ¬ pk P k = 7 := by omega
              have e9 : ¬ pk P k = 9 := by omega
              simp [e8, ob, ob3]
            · by_cases e7 : pk P k = 7
              · have e9 : ¬ pk P k = 9 := by omega
                cases sel p (nI mb) <;> simp [e7, ob, ob3, bi]
              · by_cases e9 : pk P k = 9
                · simp [e9, ob, ob3]
                · simp [e7, e8, e9, ob, ob3]
          obtain ⟨s', m', z1, z2, z3, z4, z5, z6, z7⟩ := ih (d + 1) (mb + (if pk P k = 7 then 1 else 0)) fu c1' (nxt P k (sel p (nI mb))) (prf P A k) s1 m1 (by omega) (by omega) (by split <;> omega) (by omega) (by omega) r1 hX1 hM1 a2 b2
            (by rw [a4.2 13 (by omega) (by omega), ur_s, upd_n _ _ (by omega), upd_n _ _ (by omega)]; exact e13)
            (by rw [a4.2 14 (by omega) (by omega), ur_s, upd_s])
            (by rw [a4.2 15 (by omega) (by omega), ur_s, upd_n _ _ (by omega), upd_s])
            (by rw [b3.2 27 (by omega), ur_s, upd_n _ _ (by omega)]; exact e27)
            (by rw [b3.2 28 (by omega), ur_s, upd_n _ _ (by omega)]; exact e28)
            (by rw [b3.2 29 (by omega), ur_s, upd_s])
          refine ⟨s', m', ?_, ?_, z3, z4, z5, ?_, ?_⟩
          · unfold lp
            rw [stepX]
            exact z1
          · unfold lp
            rw [stepM]
            exact z2
          · refine Xr.tr (Xr.tr ⟨fun j hj => ur_n _ _ (by omega), fun j hj => ?_⟩ a4.xr) z6
            rw [ur_s, upd_n _ _ (by omega), upd_n _ _ (by omega)]
          · exact ((Mr.u0 (by omega) _).tr b3.mr).tr z7
def RunOK (P : Pg) (p st r0 r1 r2 : Int32) : Prop := ∀ m, PM P m → ∃ m', f_X10_runs p st m = some m' ∧ m' 0 27 = r0 ∧ m' 0 28 = r1 ∧ m' 0 29 = r2 ∧ Mr m m'
def A0 : RS := (0, fun _ => (0, 0, 0, none), fun _ => false, fun _ => false, fun _ => none)
theorem A0_RK : RK A0 := ⟨fun _ => ⟨by show 0 < 10; omega, by show 0 < 8; omega, by show 0 < 3; omega⟩, fun k q e => (by cases e), fun r q e => (by cases e), fun x q e => (by cases e)⟩
theorem x_begin (hX : LX P s) : ∃ t, f_X8_begin s = some t ∧ XW A0 0 t ∧ t 56 13 = -1 ∧ t 56 14 = -1 ∧ t 56 15 = 0 ∧ (∀ k, (k < 56 ∨ 63 < k) → t k = s k) ∧ ∀ j, (9 ≤ j ∧ j ≤ 12) → t 56 j = s 56 j := by
  unfold f_X8_begin
  rw [lb_e, lb_e, lb_e, lb_e, lb_e]
  simp only [ur_s, ur_ur]
  generalize hu : ur s 56 (upd (upd (upd (upd (upd (s 56) 7 0) 8 0) 13 (-1)) 14 (-1)) 15 0) = u
  have hh := lp_fn (body := fun q : Int32 × sh_S => f_X8_begin_L27 q.1 q.2) (fun j (t : sh_S) => (nI j, t)) 8 (fun j => ur u 63 (fun x => if x < j then -1 else u 63 x)) (ur u 63 (fun x => if x < 8 then -1 else u 63 x))
    (fun j hj => by
      show f_X8_begin_L27 (nI j) _ = some (.inl (nI (j + 1), _))
      unfold f_X8_begin_L27
      dsimp only
      rw [if_neg (show ¬ (8 : Int32) ≤ nI j from nI_ge (b := 8) hj (by omega)), gu_t (inb_n hj (by omega)), lb_e, lb_e, ix_n (by omega), nI_1, ur_ur, ur_s]
      congr 4
      funext x
      by_cases e : x = j
      · subst e; rw [upd_s, if_pos (by omega)]
      · rw [upd_n _ _ e]
        by_cases e2 : x < j
        · rw [if_pos e2, if_pos (by omega)]
        · rw [if_neg e2, if_neg (by omega)])
    (by
      show f_X8_begin_L27 (nI 8) _ = _
      unfold f_X8_begin_L27
      rw [if_pos (show (8 : Int32) ≤ nI 8 by decide)]) (FU_gt (by omega))
  have e0 : ur u 63 (fun x => if x < 0 then -1 else u 63 x) = u := by
    have : (fun x => if x < 0 then (-1 : Int32) else u 63 x) = u 63 := by funext x; rw [if_neg (by omega)]
    rw [this, ur_id]
  have hh' : lp (fun q : Int32 × sh_S => f_X8_begin_L27 q.1 q.2) FU (nI 0, ur u 63 (fun x => if x < 0 then -1 else u 63 x)) = _ := hh
  rw [e0] at hh'
  have hh2 : lp (fun q : Int32 × sh_S => f_X8_begin_L27 q.1 q.2) FU ((0 : Int32), u) = _ := hh'
  rw [hh2, ob_e]
  have u56 : u 56 = upd (upd (upd (upd (upd (s 56) 7 0) 8 0) 13 (-1)) 14 (-1)) 15 0 := by rw [← hu, ur_s]
  refine ⟨_, rfl, ⟨?_, ?_, fun r hr => absurd hr (Nat.not_lt_zero r), fun x hx => ?_⟩, ?_, ?_, ?_, fun k hk => ?_, fun j hj => ?_⟩
  · rw [ur_n _ _ (by omega), u56]; simp [upd]; rfl
  · rw [ur_n _ _ (by omega), u56]; simp [upd]; rfl
  · rw [ur_s]
    show (if x < 8 then _ else _) = _
    rw [if_pos hx]; rfl
  · rw [ur_n _ _ (by omega), u56]; simp [upd]
  · rw [ur_n _ _ (by omega), u56]; simp [upd]
  · rw [ur_n _ _ (by omega), u56]; simp [upd]
  · rw [ur_n _ _ (by omega), ← hu, ur_n _ _ (by omega)]
  · rw [ur_n _ _ (by omega), u56, upd_n _ _ (by omega), upd_n _ _ (by omega), upd_n _ _ (by omega), upd_n _ _ (by omega), upd_n _ _ (by omega)]
theorem m_begin (u : sh_S) : lp (fun q : Int32 × sh_S => f_X10_runs_L28 q.1 q.2) FU ((0 : Int32), u) = some (ur u 21 (fun x => if x < 8 then -1 else u 21 x)) := by
  have hh := lp_fn (body := fun q : Int32 × sh_S => f_X10_runs_L28 q.1 q.2) (fun j (t : sh_S) => (nI j, t)) 8 (fun j => ur u 21 (fun x => if x < j then -1 else u 21 x)) (ur u 21 (fun x => if x < 8 then -1 else u 21 x))
    (fun j hj => by
      show f_X10_runs_L28 (nI j) _ = some (.inl (nI (j + 1), _))
      unfold f_X10_runs_L28
      dsimp only
      rw [if_neg (show ¬ (8 : Int32) ≤ nI j from nI_ge (b := 8) hj (by omega)), gu_t (inb_n hj (by omega)), lb_e, lb_e, ix_n (by omega), nI_1, ur_ur, ur_s]
      congr 4
      funext x
      by_cases e : x = j
      · subst e; rw [upd_s, if_pos (by omega)]
      · rw [upd_n _ _ e]
        by_cases e2 : x < j
        · rw [if_pos e2, if_pos (by omega)]
        · rw [if_neg e2, if_neg (by omega)])
    (by
      show f_X10_runs_L28 (nI 8) _ = _
      unfold f_X10_runs_L28
      rw [if_pos (show (8 : Int32) ≤ nI 8 by decide)]) (FU_gt (by omega))
  have e0 : ur u 21 (fun x => if x < 0 then -1 else u 21 x) = u := by
    have : (fun x => if x < 0 then (-1 : Int32) else u 21 x) = u 21 := by funext x; rw [if_neg (by omega)]
    rw [this, ur_id]
  have hh' : lp (fun q : Int32 × sh_S => f_X10_runs_L28 q.1 q.2) FU (nI 0, ur u 21 (fun x => if x < 0 then -1 else u 21 x)) = _ := hh
  rw [e0] at hh'
  exact hh'
theorem x_go1 (hX : LX P s) (ho : pOK P) (p : Int32) {st : Nat} (hst : st ≤ 300) : ∃ s', f_X8_go_B24_1 p (nI st) s = some s' ∧ s' 56 10 = 1 ∧ s' 56 11 = p ∧ s' 56 12 = nI st ∧ RunOK P p (nI st) (s' 56 13) (s' 56 14) (s' 56 15) ∧ ∀ k, (k < 56 ∨ 63 < k) → s' k = s k := by
  unfold f_X8_go_B24_1
  rw [lb_e, lb_e, lb_e]
  simp only [ur_s, ur_ur]
  have hX3 : LX P (ur s 56 (upd (upd (upd (s 56) 10 1) 11 p) 12 (nI st))) := hX.ur (by omega) _
  obtain ⟨t, a1, a2, a3, a4, a5, a6, a7⟩ := x_begin hX3
  rw [a1, ob_e]
  have hXt : LX P t := hX3.of (fun k hk => a6 k (by omega))
  have sim : ∀ m, PM P m → ∃ s' m', lp (fun q : Int32 × Int32 × sh_S => f_X8_go_L48 p (nI st) q.1 q.2.1 q.2.2) FU ((0 : Int32), (0 : Int32), t) = some s' ∧ f_X10_runs p (nI st) m = some m' ∧ s' 56 13 = m' 0 27 ∧ s' 56 14 = m' 0 28 ∧ s' 56 15 = m' 0 29 ∧ Xr t s' ∧ Mr m m' := by
    intro m hM
    unfold f_X10_runs
    rw [lb_e, lb_e, lb_e, lb_e]
    simp only [ur_s, ur_ur]
    rw [m_begin, ob_e]
    generalize hu : ur m 0 (upd (upd (upd (upd (m 0) 19 0) 27 (-1)) 28 (-1)) 29 0) = u
    have fu : Mr m u := by
      rw [← hu]
      refine ⟨fun k h0 _ => ur_n _ _ h0, fun j hj hj2 => ?_⟩
      rw [ur_s, upd_n _ _ (by omega), upd_n _ _ (by omega), upd_n _ _ (by omega), upd_n _ _ (by omega)]
    have u0 : u 0 = upd (upd (upd (upd (m 0) 19 0) 27 (-1)) 28 (-1)) 29 0 := by rw [← hu, ur_s]
    have fv : Mr u (ur u 21 (fun x => if x < 8 then -1 else u 21 x)) := ⟨fun k _ hk => ur_n _ _ (by omega), fun j _ _ => by rw [ur_n _ _ (by omega)]⟩
    have hMv := hM.mr (fu.tr fv)
    have hWv : MW A0 (ur u 21 (fun x => if x < 8 then -1 else u 21 x)) := by
      refine ⟨by rw [ur_n _ _ (by omega), u0]; simp [upd]; rfl, fun r hr => absurd hr (Nat.not_lt_zero r), fun x hx => ?_⟩
      rw [ur_s]
      show (if x < 8 then _ else _) = _
      rw [if_pos hx]; rfl
    obtain ⟨s', m', z1, z2, z3, z4, z5, z6, z7⟩ := run_sim ho p hst st 0 0 FU 0 0 A0 t (ur u 21 (fun x => if x < 8 then -1 else u 21 x)) (by omega) (FU_gt (by omega)) (Nat.le_refl _) (Nat.zero_le _) (Nat.le_refl _) A0_RK hXt hMv a2 hWv a3 a4 a5
      (by rw [ur_n _ _ (by omega), u0]; simp [upd]) (by rw [ur_n _ _ (by omega), u0]; simp [upd]) (by rw [ur_n _ _ (by omega), u0]; simp [upd]; rfl)
    have z2' : lp (fun q : Int32 × Int32 × sh_S => f_X10_runs_L49 p (nI st) q.1 q.2.1 q.2.2) FU ((0 : Int32), (0 : Int32), ur u 21 (fun x => if x < 8 then -1 else u 21 x)) = some m' := z2
    rw [z2', ob_e]
    exact ⟨s', m', z1, rfl, z3, z4, z5, z6, (fu.tr fv).tr z7⟩
  have hM0 : ∃ m, PM P m := ⟨fun k => match k with
    | 0 => fun _ => nI (pn P)
    | 1 => fun j => nI (pk P j)
    | 2 => fun j => nI (px P j)
    | 3 => fun j => nI (pp P j)
    | _ => fun j => nI (pt P j), rfl, fun _ _ => ⟨rfl, rfl, rfl, rfl⟩⟩
  obtain ⟨m0, hm0⟩ := hM0
  obtain ⟨s', m', z1, -, -, -, -, z6, -⟩ := sim m0 hm0
  rw [z1, ob_e]
  refine ⟨s', rfl, ?_, ?_, ?_, fun m hm => ?_, fun k hk => ?_⟩
  · rw [z6.2 10 (by omega), a7 10 (by omega), ur_s, upd_n _ _ (by omega), upd_n _ _ (by omega), upd_s]
  · rw [z6.2 11 (by omega), a7 11 (by omega), ur_s, upd_n _ _ (by omega), upd_s]
  · rw [z6.2 12 (by omega), a7 12 (by omega), ur_s, upd_s]
  · obtain ⟨s2, m2, y1, y2, y3, y4, y5, y6, y7⟩ := sim m hm
    rw [z1] at y1
    cases y1
    exact ⟨m2, y2, y3.symm, y4.symm, y5.symm, y7⟩
  · rw [z6.1 k hk, a6 k hk, ur_n _ _ (by omega)]
theorem x_go (hX : LX P s) (ho : pOK P) (p : Int32) {st : Nat} (hst : st ≤ 300) (hw : s 56 10 = 0 ∨ (s 56 10 = 1 ∧ RunOK P (s 56 11) (s 56 12) (s 56 13) (s 56 14) (s 56 15))) : ∃ s', f_X8_go p (nI st) s = some s' ∧ s' 56 10 = 1 ∧ s' 56 11 = p ∧ s' 56 12 = nI st ∧ RunOK P p (nI st) (s' 56 13) (s' 56 14) (s' 56 15) ∧ ∀ k, (k < 56 ∨ 63 < k) → s' k = s k := by
  unfold f_X8_go
  rcases hw with hw | ⟨hw, hr⟩
  · rw [if_pos hw]; exact x_go1 hX ho p hst
  · rw [if_neg (by rw [hw]; decide)]
    by_cases e1 : s 56 11 = p
    · rw [if_pos e1]
      by_cases e2 : s 56 12 = nI st
      · rw [if_pos e2]
        rw [e1, e2] at hr
        exact ⟨s, rfl, hw, e1, e2, hr, fun _ _ => rfl⟩
      · rw [if_neg e2]; exact x_go1 hX ho p hst
    · rw [if_neg e1]; exact x_go1 hX ho p hst
end FL
