theorem lnd_ak {P : Pg} {k : Nat} : lnd P k = (decide (3 ≤ ak P k) && decide (ak P k ≤ 5)) := by
  unfold lnd ak
  by_cases e : pk P k = 5 ∧ thr P k = true
  · rw [if_pos e, e.1]; decide
  · rw [if_neg e]
theorem ak_15 {P : Pg} {k : Nat} (h : 1 ≤ ak P k ∧ ak P k ≤ 5) : 1 ≤ pk P k ∧ pk P k ≤ 5 := by
  unfold ak at h
  by_cases e : pk P k = 5 ∧ thr P k = true
  · omega
  · rw [if_neg e] at h; exact h
def mpp (P : Pg) (A : RS) (k : Nat) (q : Option Nat) : Nat := match q with
  | none => pp P k % 6
  | some r => if qP A r = 0 then pp P k % 6 - 3 else qP A r
theorem mpp_eq {P : Pg} {A : RS} {k : Nat} (hb : gt P k = true → qH A (pv P k) ≠ none) (h : 1 ≤ ak P k ∧ ak P k ≤ 5) : mpp P A k (byq P A k) = spp P A k (byq P A k) := by
  have h' := ak_15 h
  cases hq : byq P A k with
  | some r => rfl
  | none =>
    have hg : gt P k = false := by
      cases hg : gt P k with
      | false => rfl
      | true =>
        unfold byq at hq
        rw [if_pos hg] at hq
        exact absurd hq (hb hg)
    simp only [gt, thr, h'.1, h'.2, decide_true, Bool.true_and, decide_eq_false_iff_not] at hg
    show pp P k % 6 = pp P k % 6 % 3
    rw [Nat.mod_eq_of_lt (a := pp P k % 6) (by omega)]
theorem mpp_lt {P : Pg} {A : RS} (h : RK A) (k : Nat) (q : Option Nat) : mpp P A k q < 6 := by
  cases q with
  | none => exact Nat.mod_lt _ (by omega)
  | some r =>
    have := (h.1 r).2.2
    show (if qP A r = 0 then pp P k % 6 - 3 else qP A r) < 6
    split <;> omega
section DO
variable {P : Pg} {A : RS} {m : sh_S}
theorem PM.mx {t : sh_S} (h : PM P m) (e : Mx m t) : PM P t := by
  refine ⟨by rw [e.2 0 (by omega)]; exact h.1, fun k hk => ?_⟩
  rw [e.1 1 (by omega) (by omega), e.1 2 (by omega) (by omega), e.1 3 (by omega) (by omega), e.1 4 (by omega) (by omega)]
  exact h.2 k hk
theorem MW_21 (h : MW A m) {x : Nat} {q : Option Nat} : MW (sth A x q) (ur m 21 (upd (m 21) x (oe q))) ∧ Mx m (ur m 21 (upd (m 21) x (oe q))) := by
  refine ⟨⟨by rw [ur_n _ _ (by omega)]; exact h.1, fun r hr => ?_, fun y hy => ?_⟩, fun k _ hk => ur_n _ _ (by omega), fun j _ => by rw [ur_n _ _ (by omega)]⟩
  · rw [ur_n _ _ (by omega), ur_n _ _ (by omega), ur_n _ _ (by omega), ur_n _ _ (by omega), ur_n _ _ (by omega), ur_n _ _ (by omega)]
    exact h.2.1 r hr
  · rw [ur_s]
    show _ = oe (if y = x then q else qH A y)
    by_cases e : y = x
    · subst e; rw [upd_s, if_pos rfl]
    · rw [upd_n _ _ e, if_neg e]; exact h.2.2 y hy
theorem m_wake (hA : RK A) (hn : qN A ≤ 300) (h : MW A m) {q : Option Nat} (hq : ∀ k, q = some k → k < qN A) : ∃ m', (if oe q = (-1 : Int32) then some m else gu (inb (oe q) 301) ((if (m 15 (ix (oe q))) = (5 : Int32) then gu (inb (oe q) 301) ((if (m 20 (ix (oe q))) = 0 then gu (inb (oe q) 301) (gu (inb (oe q) 301) (ob (f_X10_accesses (m 16 (ix (oe q))) (m 17 (ix (oe q))) (1 : Int32) (oe q) m) (fun s21 => gu (inb (oe q) 301) (lb (ur s21 20 (upd (s21 20) (ix (oe q)) (1 : Int32))) (fun s23 => some s23))))) else some m)) else some m))) = some m' ∧ MW (wke A q) m' ∧ Mx m m' := by
  cases q with
  | none => exact ⟨m, by rw [if_pos (show oe none = (-1 : Int32) from rfl)], h, Mx.rf⟩
  | some k =>
    have hk := hq k rfl
    obtain ⟨h1, h2, h3, h4, h5, h6⟩ := h.2.1 k hk
    have i1 : inb (nI k) 301 := inb_n (by omega) (by omega)
    show ∃ m', (if nI k = (-1 : Int32) then some m else gu (inb (nI k) 301) ((if (m 15 (ix (nI k))) = (5 : Int32) then gu (inb (nI k) 301) ((if (m 20 (ix (nI k))) = 0 then gu (inb (nI k) 301) (gu (inb (nI k) 301) (ob (f_X10_accesses (m 16 (ix (nI k))) (m 17 (ix (nI k))) (1 : Int32) (nI k) m) (fun s21 => gu (inb (nI k) 301) (lb (ur s21 20 (upd (s21 20) (ix (nI k)) (1 : Int32))) (fun s23 => some s23))))) else some m)) else some m))) = some m' ∧ _
    have hr3 := (hA.1 k).2.2
    obtain ⟨t, a1, a2, a3⟩ := m_accesses hA hn h (hA.1 k).2.1 (show qP A k < 6 by omega) true (q := some k) hq
    have a1' : f_X10_accesses (nI (qV A k)) (nI (qP A k)) (1 : Int32) (nI k) m = some t := a1
    rw [if_neg (neg1 (by omega)), gu_t i1, gu_t i1, gu_t i1, gu_t i1, ix_n (by omega), h1, h2, h3, h6, a1', ob_e, gu_t i1, lb_e]
    simp only [c5 (hA.1 k).1]
    by_cases e : qK A k = 5
    · rw [if_pos e]
      cases hw : qA A k with
      | true =>
        have ew : wke A (some k) = A := by
          show (if qK A k = 5 ∧ qA A k = false then _ else A) = A
          rw [if_neg (by rw [hw]; simp)]
        rw [if_neg (show ¬ bi true = (0 : Int32) by decide), ew]
        exact ⟨m, rfl, h, Mx.rf⟩
      | false =>
        have ew : wke A (some k) = (qN A, A.2.1, qS (tch A (qV A k) (qP A k) true (some k)), fun r => if r = k then true else qA A r, qH A) := by
          show (if qK A k = 5 ∧ qA A k = false then _ else A) = _
          rw [if_pos ⟨e, hw⟩]
        rw [if_pos (show bi false = (0 : Int32) from rfl), ew]
        refine ⟨_, rfl, ⟨?_, fun r hr => ?_, fun x hx => ?_⟩, fun j h0 hj => ?_, fun j x => ?_⟩
        · rw [ur_n _ _ (by omega)]; exact a2.1
        · obtain ⟨g1, g2, g3, g4, g5, g6⟩ := a2.2.1 r hr
          refine ⟨by rw [ur_n _ _ (by omega)]; exact g1, by rw [ur_n _ _ (by omega)]; exact g2, by rw [ur_n _ _ (by omega)]; exact g3, by rw [ur_n _ _ (by omega)]; exact g4, by rw [ur_n _ _ (by omega)]; exact g5, ?_⟩
          rw [ur_s]
          show upd (t 20) k 1 r = bi (if r = k then true else qA A r)
          by_cases c1 : r = k
          · subst c1; rw [upd_s, if_pos rfl]; rfl
          · rw [upd_n _ _ c1, if_neg c1]; exact g6
        · rw [ur_n _ _ (by omega)]; exact a2.2.2 x hx
        · rw [ur_n _ _ (by omega)]; exact a3.1 j h0 hj
        · rw [ur_n _ _ (by omega)]; exact a3.2 j x
    · have ew : wke A (some k) = A := by
        show (if qK A k = 5 ∧ qA A k = false then _ else A) = A
        rw [if_neg (fun z => e z.1)]
      rw [if_neg e, ew]
      exact ⟨m, rfl, h, Mx.rf⟩
theorem m_makes (hM : PM P m) (ho : pOK P) (h : MW A m) (hn : qN A < 300) {k : Nat} (hk : k < 24) (v p : Nat) (q : Option Nat) : ∃ m', f_X10_makes (nI k) (nI v) (nI p) (oe q) m = some m' ∧ MW (mke A (px P k) (ak P k) v p q) m' ∧ Mx m m' := by
  have i1 : inb (nI (qN A)) 301 := inb_n (by omega) (by omega)
  have i2 : inb (nI k) 24 := inb_n hk (by omega)
  have hx := (ho.2 k).2.1
  unfold f_X10_makes
  rw [m_kind hM ho hk, ob_e]
  have n0 : ∀ (x : sh_S) (j : Nat) (g : Nat → Int32), j ≠ 0 → ur x j g 0 = x 0 := fun _ _ _ hj => ur_n _ _ (fun e => hj e.symm)
  have n2 : ∀ (x : sh_S) (j : Nat) (g : Nat → Int32), j ≠ 2 → ur x j g 2 = x 2 := fun _ _ _ hj => ur_n _ _ (fun e => hj e.symm)
  simp only [lb_e, n0 _ 15 _ (by omega), n0 _ 16 _ (by omega), n0 _ 17 _ (by omega), n0 _ 18 _ (by omega), n0 _ 19 _ (by omega), n0 _ 20 _ (by omega), n0 _ 21 _ (by omega), n2 _ 15 _ (by omega), n2 _ 16 _ (by omega), n2 _ 17 _ (by omega), n2 _ 18 _ (by omega), n2 _ 19 _ (by omega), n2 _ 20 _ (by omega), h.1, ix_n (show qN A < 2 ^ 31 by omega), ix_n (show k < 2 ^ 31 by omega), (hM.2 k hk).2.1, gu_t i1, gu_t i2, gu_t (inb_n hx (show 8 < 2 ^ 31 by omega)), ix_n (show px P k < 2 ^ 31 by omega), nI_1]
  refine ⟨_, rfl, ⟨?_, fun r hr => ?_, fun y hy => ?_⟩, fun j h0 hj => ?_, fun j h19 => ?_⟩
  · simp [ur, upd]; rfl
  · by_cases e : r = qN A
    · subst e
      simp [ur, upd, mke, qK, qV, qP, qF, qS, qA, bi]
    · have hr' : r < qN A := by
        have : r < qN A + 1 := hr
        omega
      obtain ⟨g1, g2, g3, g4, g5, g6⟩ := h.2.1 r hr'
      have e' : ¬ r = A.1 := e
      simp [ur, upd, mke, qK, qV, qP, qF, qS, qA, e']
      exact ⟨g1, g2, g3, g4, g5, g6⟩
  · by_cases e : y = px P k
    · subst e
      simp [ur, upd, mke, qH]; rfl
    · have e' : ¬ y = P.2.2.1 k := e
      simp [ur, upd, mke, qH, e']
      exact h.2.2 y hy
  · have : j ≠ 15 ∧ j ≠ 16 ∧ j ≠ 17 ∧ j ≠ 18 ∧ j ≠ 19 ∧ j ≠ 20 ∧ j ≠ 21 := by omega
    simp [ur, this, h0]
  · simp [ur, upd, h19]
theorem m_does (hM : PM P m) (ho : pOK P) (hA : RK A) (hn : qN A < 300) (h : MW A m) {k : Nat} (hk : k < 24) (hb : gt P k = true → qH A (pv P k) ≠ none) : ∃ m', f_X10_does (nI k) m = some m' ∧ MW (prf P A k) m' ∧ Mx m m' := by
  obtain ⟨g1, g2, g3, g4⟩ := hM.2 k hk
  have i1 : inb (nI k) 24 := inb_n hk (by omega)
  have hp := pv_lt ho k
  have hx := (ho.2 k).2.1
  have ha := ak_lt ho k
  have hp48 := (ho.2 k).2.2.1
  have iv : inb (nI (pv P k)) 8 := inb_n hp (by omega)
  unfold f_X10_does
  rw [gu_t i1, ix_n (by omega), g3, m_variable _ hp48, ob_e, gu_t i1, lb_e, lb_e, rem6 (by omega), m_kind hM ho hk, ob_e, m_goesBy hM ho hk, ob_e]
  show ∃ m', ob (if (if gt P k = true then nI (pv P k) else -1) = (-1 : Int32) then some (-1 : Int32) else gu (inb (nI (pv P k)) 8) (some (m 21 (ix (nI (pv P k)))))) _ = some m' ∧ _
  have eq : (if (if gt P k = true then nI (pv P k) else -1) = (-1 : Int32) then some (-1 : Int32) else gu (inb (nI (pv P k)) 8) (some (m 21 (ix (nI (pv P k)))))) = some (oe (byq P A k)) := by
    rw [gu_t iv, ix_n (by omega), h.2.2 _ hp]
    unfold byq
    cases gt P k with
    | false => rfl
    | true =>
      rw [if_pos rfl, if_pos rfl, if_neg (neg1 (by omega))]
  rw [eq, ob_e]
  have hq : ∀ j, byq P A k = some j → j < qN A := fun j e => byq_lt hA e
  have hmp := mpp_eq (P := P) (A := A) (k := k) hb
  have ml := mpp_lt (P := P) hA k (byq P A k)
  have hg : ∀ r, byq P A k = some r → 3 ≤ pp P k % 6 := fun r e => by
    unfold byq at e
    split at e
    · rename_i hgt
      simp only [gt, Bool.and_eq_true, thr, decide_eq_true_eq] at hgt
      exact hgt.2
    · cases e
  unfold prf
  generalize byq P A k = q at hq hmp ml hg ⊢
  have em : (oe q = (-1 : Int32)) = (q = none) := oe_m1 (fun j hj => by have := hq j hj; omega)
  have ev : (if oe q = (-1 : Int32) then some (nI (pp P k / 6)) else gu (inb (oe q) 301) (some (m 16 (ix (oe q))))) = some (nI (spv P A k q)) := by
    simp only [em]
    cases q with
    | none => rw [if_pos rfl]; rfl
    | some r =>
      have hr := hq r rfl
      rw [if_neg (by simp)]
      show gu (inb (nI r) 301) (some (m 16 (ix (nI r)))) = _
      rw [gu_t (inb_n (by omega) (by omega)), ix_n (by omega), (h.2.1 r hr).2.1]
      rfl
  have ep : (if oe q = (-1 : Int32) then some (nI (pp P k % 6)) else (if nI (pp P k % 6) = (3 : Int32) then gu (inb (oe q) 301) (some (m 17 (ix (oe q)))) else gu (inb (oe q) 301) ((if (m 17 (ix (oe q))) = 0 then some (nI (pp P k % 6) - (3 : Int32)) else gu (inb (oe q) 301) (some (m 17 (ix (oe q)))))))) = some (nI (mpp P A k q)) := by
    simp only [em]
    cases q with
    | none => rw [if_pos rfl]; rfl
    | some r =>
      have hr := hq r rfl
      have h3 := hg r rfl
      have i2 : inb (nI r) 301 := inb_n (by omega) (by omega)
      have hr3 := (hA.1 r).2.2
      rw [if_neg (by simp)]
      show (if nI (pp P k % 6) = (3 : Int32) then gu (inb (nI r) 301) (some (m 17 (ix (nI r)))) else gu (inb (nI r) 301) ((if (m 17 (ix (nI r))) = 0 then some (nI (pp P k % 6) - (3 : Int32)) else gu (inb (nI r) 301) (some (m 17 (ix (nI r))))))) = some (nI (if qP A r = 0 then pp P k % 6 - 3 else qP A r))
      have e0 : (nI (qP A r) = (0 : Int32)) = (qP A r = 0) := nI_eqb (b := 0) (by omega) (by omega)
      have e3 : (nI (pp P k % 6) = (3 : Int32)) = (pp P k % 6 = 3) := nI_eqb (b := 3) (by omega) (by omega)
      have e4 : nI (pp P k % 6) - (3 : Int32) = nI (pp P k % 6 - 3) := pk_sub (b := 3) h3
      simp only [gu_t i2]
      rw [ix_n (by omega), (h.2.1 r hr).2.2.1, e4]
      simp only [e0, e3]
      by_cases c1 : pp P k % 6 = 3
      · rw [if_pos c1]
        by_cases c2 : qP A r = 0
        · rw [if_pos c2, c2, c1]
        · rw [if_neg c2]
      · rw [if_neg c1]
        by_cases c2 : qP A r = 0
        · rw [if_pos c2, if_pos c2]
        · rw [if_neg c2, if_neg c2]
  rw [ev, ob_e, ep, ob_e]
  obtain ⟨s1, a1, a2, a4⟩ := m_wake hA (by omega) h hq
  rw [a1, ob_e]
  obtain ⟨n1, n2, n3⟩ := wke_1 A q
  have R1 := wke_RK hA q
  have hv := spv_lt ho hA k q
  have M1 := hM.mx a4
  have in15 : f_X10_in (nI (ak P k)) (1 : Int32) (5 : Int32) = some (bi (decide (1 ≤ ak P k) && decide (ak P k ≤ 5))) := m_inN (lo := 1) (hi := 5) (by omega) (by omega) (by omega)
  have in36 : f_X10_in (nI (ak P k)) (3 : Int32) (6 : Int32) = some (bi (decide (3 ≤ ak P k) && decide (ak P k ≤ 6))) := m_inN (lo := 3) (hi := 6) (by omega) (by omega) (by omega)
  rw [in15, ob_e, in36]
  have p3 : ∃ s2, ob (if bi (decide (1 ≤ ak P k) && decide (ak P k ≤ 5)) = 0 then some s1 else ob (if nI (ak P k) = (2 : Int32) then some (1 : Int32) else (if nI (ak P k) = (4 : Int32) then some (1 : Int32) else some (0 : Int32))) (fun v26 => ob (f_X10_accesses (nI (spv P A k q)) (nI (mpp P A k q)) v26 (oe q) s1) (fun s27 => some s27))) (fun s25 => (if nI (ak P k) = (6 : Int32) then ob (f_X10_accesses (nI (pp P k / 6)) (0 : Int32) (1 : Int32) (-1 : Int32) s25) (fun s29 => some s29) else some s25)) = some s2 ∧ MW (acs (wke A q) (ak P k) (spv P A k q) (spp P A k q) q (pv P k)) s2 ∧ Mx s1 s2 := by
    unfold acs
    simp only [c2 ha, c4 ha, c6 ha]
    by_cases e : 1 ≤ ak P k ∧ ak P k ≤ 5
    · obtain ⟨t, b1, b2, b3⟩ := m_accesses R1 (by rw [n1]; omega) a2 hv ml (decide (ak P k = 2) || decide (ak P k = 4)) (q := q) (fun j e => by rw [n1]; exact hq j e)
      have ew : (if ak P k = 2 then some (1 : Int32) else (if ak P k = 4 then some (1 : Int32) else some (0 : Int32))) = some (bi (decide (ak P k = 2) || decide (ak P k = 4))) := by
        by_cases x2 : ak P k = 2
        · simp [x2, bi]
        · by_cases x4 : ak P k = 4
          · simp [x4, bi]
          · simp [x2, x4, bi]
      have hb1 : bi (decide (1 ≤ ak P k) && decide (ak P k ≤ 5)) = 1 := by simp [e, bi]
      rw [if_pos e, hb1, if_neg (by decide), ew, ob_e, b1, ob_e, ob_e, if_neg (by omega)]
      rw [hmp e] at b2
      exact ⟨t, rfl, b2, b3⟩
    · have hb1 : bi (decide (1 ≤ ak P k) && decide (ak P k ≤ 5)) = 0 := by
        rw [bi_z0]
        by_cases x1 : 1 ≤ ak P k
        · have : ¬ ak P k ≤ 5 := fun y => e ⟨x1, y⟩
          simp [this]
        · simp [x1]
      rw [if_neg e, hb1, if_pos rfl, ob_e]
      by_cases e6 : ak P k = 6
      · obtain ⟨t, b1, b2, b3⟩ := m_accesses R1 (by rw [n1]; omega) a2 hp (show 0 < 6 by omega) true (q := none) (fun j e => by cases e)
        have b1' : f_X10_accesses (nI (pp P k / 6)) (0 : Int32) (1 : Int32) (-1 : Int32) s1 = some t := b1
        rw [if_pos e6, if_pos e6, b1', ob_e]
        exact ⟨t, rfl, b2, b3⟩
      · rw [if_neg e6, if_neg e6]
        exact ⟨s1, rfl, a2, Mx.rf⟩
  obtain ⟨s2, b1, b2, b4⟩ := p3
  obtain ⟨s2a, b0, b1⟩ := ob_s b1
  rw [b0, ob_e, b1, ob_e, ob_e]
  have R2 := acs_RK R1 (ak P k) (spv P A k q) (spp P A k q) q (pv P k)
  have N2 := (acs_1 (wke A q) (ak P k) (spv P A k q) (spp P A k q) q (pv P k)).1
  have M2 := M1.mx b4
  generalize acs (wke A q) (ak P k) (spv P A k q) (spp P A k q) q (pv P k) = B at b2 R2 N2 ⊢
  have p4 : ∃ s3, (if bi (decide (3 ≤ ak P k) && decide (ak P k ≤ 6)) = 0 then some s2 else gu (inb (nI k) 24) (ob (f_X10_accesses (s2 2 k) (0 : Int32) (1 : Int32) (-1 : Int32) s2) (fun s33 => some s33))) = some s3 ∧ MW (wrs B (lnd P k) (ak P k) (px P k)) s3 ∧ Mx s2 s3 := by
    obtain ⟨t, d1, d2, d3⟩ := m_accesses R2 (by rw [N2, n1]; omega) b2 hx (show 0 < 6 by omega) true (q := none) (fun j e => by cases e)
    have d1' : f_X10_accesses (nI (px P k)) (0 : Int32) (1 : Int32) (-1 : Int32) s2 = some t := d1
    rw [gu_t i1, (M2.2 k hk).2.1, d1', ob_e]
    unfold wrs
    rw [lnd_ak]
    by_cases e : 3 ≤ ak P k ∧ ak P k ≤ 6
    · have hb1 : bi (decide (3 ≤ ak P k) && decide (ak P k ≤ 6)) = 1 := by simp [e, bi]
      rw [hb1, if_neg (by decide), if_pos (by
        by_cases e6 : ak P k = 6
        · exact Or.inr e6
        · refine Or.inl ?_
          rw [Bool.and_eq_true, decide_eq_true_eq, decide_eq_true_eq]; omega)]
      exact ⟨t, rfl, d2, d3⟩
    · have hb1 : bi (decide (3 ≤ ak P k) && decide (ak P k ≤ 6)) = 0 := by
        rw [bi_z0]
        by_cases x1 : 3 ≤ ak P k
        · have : ¬ ak P k ≤ 6 := fun y => e ⟨x1, y⟩
          simp [this]
        · simp [x1]
      rw [hb1, if_pos rfl, if_neg (by
        rw [Bool.and_eq_true, decide_eq_true_eq, decide_eq_true_eq]
        omega)]
      exact ⟨s2, rfl, b2, Mx.rf⟩
  obtain ⟨s3, d1, d2, d4⟩ := p4
  rw [d1, ob_e]
  have R3 := wrs_RK R2 (lnd P k) (ak P k) (px P k)
  have N3 := (wrs_1 B (lnd P k) (ak P k) (px P k)).1
  have M3 := M2.mx d4
  generalize wrs B (lnd P k) (ak P k) (px P k) = D at d2 R3 N3 ⊢
  rw [m_lends M3 ho hk, ob_e]
  have fr : Mx m s3 := ((a4.tr b4).tr d4)
  unfold asg
  simp only [c2 ha, c6 ha, em]
  cases hl : lnd P k with
  | true =>
    have ha5 : 3 ≤ ak P k ∧ ak P k ≤ 5 := by rw [lnd_ak, Bool.and_eq_true, decide_eq_true_eq, decide_eq_true_eq] at hl; exact hl
    obtain ⟨t, e1, e2, e3⟩ := m_makes M3 ho d2 (by rw [N3, N2, n1]; exact hn) hk (spv P A k q) (mpp P A k q) q
    rw [hmp ⟨by omega, ha5.2⟩] at e1 e2
    rw [if_neg (show ¬ bi true = (0 : Int32) by decide), if_pos rfl, hmp ⟨by omega, ha5.2⟩, e1, ob_e, ob_e, if_neg (by omega), ob_e, if_neg (by omega), ob_e]
    exact ⟨t, rfl, e2, fr.tr e3⟩
  | false =>
    rw [if_pos (show bi false = (0 : Int32) from rfl), ob_e, if_neg (show ¬ false = true by decide)]
    by_cases e2 : ak P k = 2
    · by_cases eq0 : q = none
      · have z := MW_21 d2 (x := pv P k) (q := none)
        rw [if_pos e2, if_pos eq0, if_pos ⟨e2, eq0⟩]
        show ∃ m', ob (gu (inb (nI (pv P k)) 8) (lb (ur s3 21 (upd (s3 21) (ix (nI (pv P k))) (-1 : Int32))) (fun s39 => some s39))) _ = some m' ∧ _
        rw [gu_t iv, lb_e, ix_n (by omega), ob_e, if_neg (by omega), ob_e]
        exact ⟨_, rfl, z.1, fr.tr z.2⟩
      · rw [if_pos e2, if_neg eq0, if_neg (fun z => eq0 z.2), ob_e, if_neg (by omega), if_neg (fun z => by omega), ob_e]
        exact ⟨s3, rfl, d2, fr⟩
    · rw [if_neg e2, if_neg (fun z => e2 z.1), ob_e]
      by_cases e6 : ak P k = 6
      · rw [if_pos e6]
        show ∃ m', ob (gu (inb (nI k) 24) (if nI (pv P k) = s3 2 k then some s3 else gu (inb (nI k) 24) (gu (inb (nI (pv P k)) 8) (gu (inb (s3 2 k) 8) (lb (ur s3 21 (upd (s3 21) (ix (s3 2 k)) (s3 21 (ix (nI (pv P k)))))) (fun s45 => gu (inb (nI (pv P k)) 8) (lb (ur s45 21 (upd (s45 21) (ix (nI (pv P k))) (-1 : Int32))) (fun s47 => some s47)))))))) _ = some m' ∧ _
        rw [gu_t i1, gu_t i1, gu_t iv, (M3.2 k hk).2.1]
        simp only [nI_eqb (show pv P k < 2 ^ 31 by omega) (show px P k < 2 ^ 31 by omega)]
        by_cases e3 : pv P k = px P k
        · rw [if_pos e3, if_neg (fun z => z.2 e3), ob_e]
          exact ⟨s3, rfl, d2, fr⟩
        · have z1 := MW_21 d2 (x := px P k) (q := qH D (pv P k))
          have z2 := MW_21 z1.1 (x := pv P k) (q := none)
          rw [if_neg e3, if_pos ⟨e6, e3⟩, gu_t (inb_n hx (by omega)), lb_e, gu_t iv, lb_e, ix_n (by omega), ix_n (by omega), d2.2.2 _ hp, ob_e]
          exact ⟨_, rfl, z2.1, (fr.tr z1.2).tr z2.2⟩
      · rw [if_neg e6, if_neg (fun z => e6 z.1), ob_e]
        exact ⟨s3, rfl, d2, fr⟩
end DO
