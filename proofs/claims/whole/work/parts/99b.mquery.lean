theorem m_many {f : Bf} (hf : ∀ b, f b = true → b < 24) : f_X10_many (mkb f) = some (nI (cnt f 25)) := by
  unfold f_X10_many
  have hh := lp_fn (body := fun q : Int32 × Int32 => f_X10_many_L4 (mkb f) q.1 q.2) (fun j (v : Int32) => (v, nI j)) 24 (fun j => nI (cnt f j)) (nI (cnt f 24))
    (fun j hj => by
      show f_X10_many_L4 (mkb f) (nI (cnt f j)) (nI j) = some (.inl (nI (cnt f (j + 1)), nI (j + 1)))
      unfold f_X10_many_L4
      rw [if_neg (show ¬ (24 : Int32) ≤ nI j from nI_ge (b := 24) hj (by omega)), m_isIn (by omega), ob_e]
      have e : cnt f (j + 1) = cnt f j + (if f j then 1 else 0) := rfl
      rw [e]
      cases f j with
      | false => rw [if_pos (show bi false = (0 : Int32) from rfl), ob_e, lb_e, lb_e, nI_1]; simp
      | true =>
        rw [if_neg (show ¬ bi true = (0 : Int32) by decide), ob_e, lb_e, lb_e, nI_1, nI_1]; simp)
    (by
      show f_X10_many_L4 _ _ (nI 24) = _
      unfold f_X10_many_L4
      rw [if_pos (show (24 : Int32) ≤ nI 24 by decide)]) (FU_gt (by omega))
  have hh' : lp (fun q : Int32 × Int32 => f_X10_many_L4 (mkb f) q.1 q.2) FU ((0 : Int32), (0 : Int32)) = some (nI (cnt f 24)) := hh
  rw [hh', ob_e, cnt24 hf]
def gkc (c : Nat) (E : List Er3) : Bf := fun i => match E[i]? with
  | some e => decide (e.2.1 = c)
  | none => false
theorem gkc_app (c : Nat) (l1 l2 : List Er3) : cnt (gkc c (l1 ++ l2)) (l1 ++ l2).length = cnt (gkc c l1) l1.length + cnt (gkc c l2) l2.length := by
  rw [List.length_append, cnt_add]
  have e1 : cnt (gkc c (l1 ++ l2)) l1.length = cnt (gkc c l1) l1.length := cnt_congr (fun x hx => by
    unfold gkc
    rw [List.getElem?_append_left hx])
  have e2 : cnt (fun i => gkc c (l1 ++ l2) (l1.length + i)) l2.length = cnt (gkc c l2) l2.length := cnt_congr (fun x hx => by
    unfold gkc
    rw [List.getElem?_append_right (by omega), Nat.add_sub_cancel_left])
  rw [e1, e2]
theorem gkc_sg (c k c' : Nat) (f : Bf) : ∀ n, cnt (gkc c (sg k c' f n)) (sg k c' f n).length = if c' = c then cnt f n else 0
  | 0 => by
    show cnt _ 0 = _
    split <;> rfl
  | n + 1 => by
    have e : sg k c' f (n + 1) = sg k c' f n ++ (if f n then [(k, c', n)] else []) := rfl
    rw [e, gkc_app, gkc_sg c k c' f n]
    have e2 : cnt f (n + 1) = cnt f n + (if f n then 1 else 0) := rfl
    rw [e2]
    cases f n with
    | false =>
      have z : cnt (gkc c ([] : List Er3)) 0 = 0 := rfl
      by_cases h : c' = c
      · simp [h, cnt]
      · simp [h, cnt]
    | true =>
      by_cases h : c' = c
      · simp [h, cnt, gkc]
      · simp [h, cnt, gkc]
theorem cnt_z {f : Bf} : ∀ {n : Nat}, (∀ x, x < n → f x = false) → cnt f n = 0
  | 0, _ => rfl
  | n + 1, h => by
    have e2 : cnt f (n + 1) = cnt f n + (if f n then 1 else 0) := rfl
    rw [e2, cnt_z (fun x hx => h x (by omega)), h n (by omega)]
    rfl
section MQs
variable {P : Pg} {T : SH}
theorem gkc_eA (ho : pOK P) {c : Nat} (hc : c < 4) (n : Nat) (h : n ≤ pn P) : cnt (gkc c (eA P n)) (eA P n).length = kc P c n := by
  induction n with
  | zero => rfl
  | succ n ih =>
    have e2 : kc P c (n + 1) = kc P c n + cnt (EB P n c) 24 := rfl
    rw [eA_s, gkc_app, ih (by omega), e2]
    cases hr : Rc P n with
    | false =>
      rw [cnt_z (f := EB P n c) (fun x _ => EB_rc ho (by omega) hr c x)]
      simp only [Bool.false_eq_true, if_false]
      rfl
    | true =>
      simp only [if_true]
      unfold erAt
      rw [gkc_app, gkc_app, gkc_app, gkc_sg, gkc_sg, gkc_sg, gkc_sg]
      rcases lt4 hc with rfl | rfl | rfl | rfl <;> simp
theorem m_all {m : sh_S} (h : MI P T m) (ho : pOK P) : ∃ m', f_X10_findsAll m = some m' ∧ MI P T m' ∧ MF P m' := by
  obtain ⟨m', a1, a2, a3⟩ := m_findsAll h.1 ho
  exact ⟨m', a1, h.mp a3.mp, a2⟩
theorem m_err {m : sh_S} (h : MI P T m) (ho : pOK P) : ∃ m', f_X10_errsAll m = some m' ∧ MI P T m' ∧ MF P m' ∧ EM (eA P (pn P)) m' := by
  obtain ⟨m', a1, a2, a3, a4⟩ := m_errsAll h.1 ho
  exact ⟨m', a1, h.mp a4.mp, a2, a3⟩
theorem qm_reachedOf (ho : pOK P) : QM P T f_X10_reachedOf (mkb (Rc P)) := by
  intro m h
  obtain ⟨m', a1, a2, a3⟩ := m_all h ho
  unfold f_X10_reachedOf
  rw [a1, ob_e, a3.2.1]
  exact ⟨_, rfl, a2⟩
theorem qm_loansOf (ho : pOK P) : QM P T f_X10_loansOf (mkb (Lo P)) := by
  intro m h
  obtain ⟨m', a1, a2, a3⟩ := m_all h ho
  unfold f_X10_loansOf
  rw [a1, ob_e, a3.2.2.1]
  exact ⟨_, rfl, a2⟩
theorem qm_liveOf (ho : pOK P) {v : Nat} (hv : v < 8) : QM P T (f_X10_liveOf (nI v)) (mkb (Lv P v)) := by
  intro m h
  obtain ⟨m', a1, a2, a3⟩ := m_all h ho
  unfold f_X10_liveOf
  rw [a1, ob_e, gu_t (inb_n hv (by omega)), ix_n (by omega), a3.2.2.2.1 v hv]
  exact ⟨_, rfl, a2⟩
theorem qm_regionOf (ho : pOK P) {v : Nat} (hv : v < 8) : QM P T (f_X10_regionOf (nI v)) (mkb (Rg P v)) := by
  intro m h
  obtain ⟨m', a1, a2, a3⟩ := m_all h ho
  unfold f_X10_regionOf
  rw [a1, ob_e, gu_t (inb_n hv (by omega)), ix_n (by omega), a3.2.2.2.2.1 v hv]
  exact ⟨_, rfl, a2⟩
theorem qm_holdsOf (ho : pOK P) {k v : Nat} (hk : k < pn P) (hv : v < 8) : QM P T (f_X10_holdsOf (nI k) (nI v)) (mkb (Ho P (8 * k + v))) := by
  intro m h
  have hn := ho.1
  obtain ⟨m', a1, a2, a3⟩ := m_all h ho
  unfold f_X10_holdsOf
  rw [a1, ob_e, a3.2.1, m_isIn (by omega), ob_e, ix8, gu_t (inb_n (by omega) (by omega)), ix_n (by omega), a3.2.2.2.2.2.1 _ (by omega)]
  cases hr : Rc P k with
  | true => rw [if_neg (show ¬ bi true = (0 : Int32) by decide), ob_e]; exact ⟨_, rfl, a2⟩
  | false =>
    have z : mkb (Ho P (8 * k + v)) = 0 := by
      rw [mkb_z]
      intro b _
      cases hb : Ho P (8 * k + v) b with
      | false => rfl
      | true => rw [Ho_rc ho hk hv hb] at hr; cases hr
    rw [if_pos (show bi false = (0 : Int32) from rfl), ob_e, z]; exact ⟨_, rfl, a2⟩
theorem qm_scopeOf (ho : pOK P) {k : Nat} (hk : k < pn P) : QM P T (f_X10_scopeOf (nI k)) (mkb (sSc P k)) := by
  intro m h
  have hn := ho.1
  obtain ⟨m', a1, a2, a3⟩ := m_all h ho
  unfold f_X10_scopeOf
  rw [a1, ob_e, gu_t (inb_n (by omega) (by omega)), ix_n (by omega), a3.2.2.2.2.2.2.1 k (by omega)]
  exact ⟨_, rfl, a2⟩
theorem qm_activeOf (ho : pOK P) {k : Nat} (hk : k < pn P) : QM P T (f_X10_activeOf (nI k)) (mkb (sAc P k)) := by
  intro m h
  have hn := ho.1
  obtain ⟨m', a1, a2, a3⟩ := m_all h ho
  unfold f_X10_activeOf
  rw [a1, ob_e, gu_t (inb_n (by omega) (by omega)), ix_n (by omega), a3.2.2.2.2.2.2.2 k (by omega)]
  exact ⟨_, rfl, a2⟩
theorem qm_bearsOf (ho : pOK P) {k : Nat} (hk : k < pn P) : QM P T (f_X10_bearsOf (nI k)) (if Lo P k = true then mkb (Br P k) else -3) := by
  intro m h
  have hn := ho.1
  obtain ⟨m', a1, a2, a3⟩ := m_all h ho
  unfold f_X10_bearsOf
  rw [a1, ob_e, a3.2.2.1, m_isIn (by omega), ob_e, m_bearing a3.1 ho a3.2.1 (by omega), ob_e]
  cases hl : Lo P k with
  | false => rw [if_pos (show bi false = (0 : Int32) from rfl), ob_e, if_neg (by decide)]; exact ⟨_, rfl, a2⟩
  | true => rw [if_neg (show ¬ bi true = (0 : Int32) by decide), ob_e, if_pos rfl]; exact ⟨_, rfl, a2⟩
theorem qm_errorsOf (ho : pOK P) : QM P T f_X10_errorsOf (nI (TE P)) := by
  intro m h
  obtain ⟨m', a1, a2, a3, a4⟩ := m_err h ho
  unfold f_X10_errorsOf
  rw [a1, ob_e, a4.1]
  exact ⟨_, rfl, a2⟩
theorem qm_errorOf (ho : pOK P) {i w : Nat} (hi : i < 1000) (hw : w < 3) : QM P T (f_X10_errorOf (nI i) (nI w)) (tl P i w) := by
  intro m h
  obtain ⟨m', a1, a2, a3, a4⟩ := m_err h ho
  have hl := TE_le ho
  have hl' : (eA P (pn P)).length ≤ 1200 := hl
  have z0 : (nI w = (0 : Int32)) = (w = 0) := nI_eqb (b := 0) (by omega) (by omega)
  have z1 : (nI w = (1 : Int32)) = (w = 1) := nI_eqb (b := 1) (by omega) (by omega)
  have zl : (nI i < nI (eA P (pn P)).length) = (i < (eA P (pn P)).length) := propext (nI_ltI (by omega) (by omega))
  have i1 : inb (nI i) 1300 := inb_n (by omega) (by omega)
  unfold f_X10_errorOf
  rw [a1, ob_e, a4.1, gu_t i1, gu_t i1, gu_t i1, ix_n (by omega)]
  simp only [zl, z0, z1]
  unfold tl
  cases he : (eA P (pn P))[i]? with
  | none =>
    rw [if_neg (by have := List.getElem?_eq_none_iff.mp he; omega), ob_e]
    exact ⟨_, rfl, a2⟩
  | some e =>
    obtain ⟨g1, g2, g3⟩ := a4.2 i e he
    rw [if_pos (List.getElem?_eq_some_iff.mp he).1, g1, g2, g3]
    have hw3 : w = 0 ∨ w = 1 ∨ w = 2 := by omega
    rcases hw3 with rfl | rfl | rfl
    · exact ⟨m', rfl, a2⟩
    · exact ⟨m', rfl, a2⟩
    · exact ⟨m', rfl, a2⟩
theorem qm_witnessOf (ho : pOK P) {i : Nat} (hi : i < 1000) {j : Option Nat} (hj : ∀ x, j = some x → x < 60) : QM P T (f_X10_witnessOf (nI i) (oe j)) (witv P i j) := by
  intro m h
  obtain ⟨m', a1, a2, a3, a4⟩ := m_err h ho
  have hl' : (eA P (pn P)).length ≤ 1200 := TE_le ho
  have i1 : inb (nI i) 1300 := inb_n (by omega) (by omega)
  have hn := ho.1
  unfold f_X10_witnessOf
  rw [a1, ob_e, a4.1, gu_t i1, gu_t i1, gu_t i1, ix_n (by omega)]
  unfold witv
  cases he : (eA P (pn P))[i]? with
  | none =>
    rw [if_pos (nI_le (List.getElem?_eq_none_iff.mp he) (by omega))]
    exact ⟨_, rfl, a2⟩
  | some e =>
    obtain ⟨g1, g2, g3⟩ := a4.2 i e he
    have hm := eA_mem (List.mem_of_getElem? he)
    have e0 : (nI e.2.1 = (0 : Int32)) = (e.2.1 = 0) := nI_eqb (b := 0) (by omega) (by omega)
    have hlt := (List.getElem?_eq_some_iff.mp he).1
    rw [if_neg (nI_ge hlt (by omega)), g1, g2, g3]
    simp only [e0]
    by_cases h0 : e.2.1 = 0
    · simp only [if_pos h0]
      have m3 := hm.2.2.1
      rw [h0] at m3
      have hll : e.2.2 < pn P := clh_lt (show clh P e.1 e.2.2 = true from m3)
      obtain ⟨t, z1, z2, z3⟩ := m_findsWay a3 ho hll hm.1
      rw [z1, ob_e, z2.1]
      have hMI : MI P T t := a2.mp z3.mp
      have hwl := way_len (P := P) e.2.2 e.1
      cases j with
      | none => exact ⟨t, rfl, hMI⟩
      | some x =>
        have hx := hj x rfl
        show ∃ m', ob (if nI x = (-1 : Int32) then some (nI (way P e.2.2 e.1).length) else (if nI (way P e.2.2 e.1).length ≤ nI x then some (-1 : Int32) else gu (inb (nI x) 60) (some (t 14 (ix (nI x)))))) (fun v6 => some (v6, t)) = some (_, m') ∧ _
        rw [if_neg (neg1 (by omega)), gu_t (inb_n hx (by omega)), ix_n (by omega)]
        by_cases hc : (way P e.2.2 e.1).length ≤ x
        · rw [if_pos (nI_le hc (by omega)), ob_e]
          show ∃ m', some (-1, t) = some (oe ((way P e.2.2 e.1)[x]?), m') ∧ MI P T m'
          rw [List.getElem?_eq_none hc]
          exact ⟨t, rfl, hMI⟩
        · rw [if_neg (nI_ge (by omega) (by omega)), ob_e]
          show ∃ m', some (t 14 x, t) = some (oe ((way P e.2.2 e.1)[x]?), m') ∧ MI P T m'
          cases hg : (way P e.2.2 e.1)[x]? with
          | none => exact absurd (List.getElem?_eq_none_iff.mp hg) hc
          | some y => rw [z2.2 x y hg]; exact ⟨t, rfl, hMI⟩
    · simp only [if_neg h0]
      exact ⟨_, rfl, a2⟩
theorem qm_mendOf (ho : pOK P) {w : Nat} (hw : w < 2) : QM P T (f_X10_mendOf (nI w)) (if w = 0 then mdb (md P (pn P)) else mdl (md P (pn P))) := by
  intro m h
  obtain ⟨m', a1, a2⟩ := m_mendOf h.1 ho (nI w)
  have ew : (nI w = (0 : Int32)) = (w = 0) := nI_eqb (b := 0) (by omega) (by omega)
  rw [a1]
  refine ⟨m', ?_, h.mp a2⟩
  simp only [ew]
theorem qm_softOf (ho : pOK P) : QM P T f_X10_softOf (mkb (sf P)) := by
  intro m h
  obtain ⟨m', a1, a2⟩ := m_softOf h.1 ho
  exact ⟨m', a1, h.mp a2⟩
def s0x (P : Pg) : sh_S := fun k => match k with
    | 0 => fun _ => nI (pn P)
    | 1 => fun j => nI (pk P j)
    | 2 => fun j => nI (px P j)
    | 3 => fun j => nI (pp P j)
    | 4 => fun j => nI (pt P j)
    | 5 => fun j => nI (ak P j)
    | 6 => fun j => nI (pv P j)
    | 7 => fun j => nI (pp P j % 6)
    | 8 => fun j => bi (lnd P j)
    | _ => fun j => bi (gt P j)
theorem run_ok (ho : pOK P) (p : Int32) {st : Nat} (hst : st ≤ 300) : RunOK P p (nI st) (runv P p (nI st) 0) (runv P p (nI st) 1) (runv P p (nI st) 2) := by
  have hX : LX P (s0x P) := ⟨rfl, fun k _ => ⟨rfl, rfl, rfl, rfl, rfl, rfl, rfl, rfl, rfl⟩⟩
  obtain ⟨s', -, -, -, -, a5, -⟩ := x_go1 hX ho p hst
  obtain ⟨r0, r1, r2⟩ := a5.v
  rw [r0, r1, r2] at a5
  exact a5
theorem qm_runOf (ho : pOK P) (p : Int32) {st w : Nat} (hst : st ≤ 300) (hw : w < 3) : QM P T (f_X10_runOf p (nI st) (nI w)) (runv P p (nI st) w) := by
  intro m h
  obtain ⟨m', a1, a2, a3, a4, a5⟩ := run_ok ho p hst m h.1
  have z0 : (nI w = (0 : Int32)) = (w = 0) := nI_eqb (b := 0) (by omega) (by omega)
  have z1 : (nI w = (1 : Int32)) = (w = 1) := nI_eqb (b := 1) (by omega) (by omega)
  unfold f_X10_runOf
  rw [a1, ob_e, a2, a3, a4]
  simp only [z0, z1]
  have hw3 : w = 0 ∨ w = 1 ∨ w = 2 := by omega
  rcases hw3 with rfl | rfl | rfl
  · exact ⟨m', rfl, h.mp a5.mp⟩
  · exact ⟨m', rfl, h.mp a5.mp⟩
  · exact ⟨m', rfl, h.mp a5.mp⟩
theorem qm_manyOf (ho : pOK P) {c : Nat} (hc : c < 4) : QM P T (f_X10_manyOf (nI c)) (nI (kc P c (pn P))) := by
  intro m h
  obtain ⟨m', a1, a2, a3, a4⟩ := m_err h ho
  have hl' : (eA P (pn P)).length ≤ 1200 := TE_le ho
  unfold f_X10_manyOf
  rw [a1, ob_e]
  have hh := lp_fn (body := fun q : Int32 × Int32 => f_X10_manyOf_L8 (nI c) m' q.1 q.2) (fun j (v : Int32) => (v, nI j)) (eA P (pn P)).length (fun j => nI (cnt (gkc c (eA P (pn P))) j)) (nI (cnt (gkc c (eA P (pn P))) (eA P (pn P)).length))
    (fun j hj => by
      show f_X10_manyOf_L8 (nI c) m' (nI (cnt (gkc c (eA P (pn P))) j)) (nI j) = some (.inl (nI (cnt (gkc c (eA P (pn P))) (j + 1)), nI (j + 1)))
      unfold f_X10_manyOf_L8
      have he : (eA P (pn P))[j]? = some (eA P (pn P))[j] := List.getElem?_eq_getElem hj
      have hm := eA_mem (List.mem_of_getElem? he)
      obtain ⟨g1, g2, g3⟩ := a4.2 j _ he
      rw [a4.1, if_neg (nI_ge hj (by omega)), gu_t (inb_n (by omega) (by omega)), ix_n (by omega), g2]
      simp only [nI_eqb (show (eA P (pn P))[j].2.1 < 2 ^ 31 by omega) (show c < 2 ^ 31 by omega)]
      have e : cnt (gkc c (eA P (pn P))) (j + 1) = cnt (gkc c (eA P (pn P))) j + (if gkc c (eA P (pn P)) j then 1 else 0) := rfl
      have eg : gkc c (eA P (pn P)) j = decide ((eA P (pn P))[j].2.1 = c) := by unfold gkc; rw [he]
      rw [e, eg]
      by_cases q : (eA P (pn P))[j].2.1 = c
      · rw [if_pos q, ob_e, lb_e, lb_e, nI_1, nI_1]; simp [q]
      · rw [if_neg q, ob_e, lb_e, lb_e, nI_1]; simp [q])
    (by
      show f_X10_manyOf_L8 _ _ _ (nI (eA P (pn P)).length) = _
      unfold f_X10_manyOf_L8
      rw [a4.1, if_pos (nI_le (Nat.le_refl _) (by omega))]) (FU_gt (by omega))
  have hh' : lp (fun q : Int32 × Int32 => f_X10_manyOf_L8 (nI c) m' q.1 q.2) FU ((0 : Int32), (0 : Int32)) = some (nI (cnt (gkc c (eA P (pn P))) (eA P (pn P)).length)) := hh
  rw [hh', ob_e, gkc_eA ho hc _ (Nat.le_refl _)]
  exact ⟨m', rfl, a2⟩
theorem qm_count (ho : pOK P) {w : Nat} (hw : w < 8) : QM P T (f_X10_count (nI w)) (cntv P w) := by
  intro m h
  have h10 : w < 10 := by omega
  have hn := ho.1
  have z0 : (nI w = (0 : Int32)) = (w = 0) := nI_eqb (b := 0) (by omega) (by omega)
  unfold f_X10_count
  simp only [z0, c1 h10, c2 h10, c3 h10, c4 h10, c5 h10, c6 h10, c7 h10, c8 h10]
  have e4 : ∀ j, nI (j + 4) - (4 : Int32) = nI j := fun j => by
    have : nI (j + 4) - nI 4 = nI (j + 4 - 4) := pk_sub (by omega)
    rw [Nat.add_sub_cancel] at this
    exact this
  have R : ∀ b, Rc P b = true → b < 24 := fun b hb => by have := Rc_lt hb; omega
  have L : ∀ b, Lo P b = true → b < 24 := fun b hb => by have := Lo_lt hb; omega
  rcases lt9 (show w < 9 by omega) with rfl | rfl | rfl | rfl | rfl | rfl | rfl | rfl | rfl
  · exact ⟨m, by rw [if_pos rfl, h.1.1]; rfl, h⟩
  · obtain ⟨m', a1, a2⟩ := qm_reachedOf (T := T) ho m h
    refine ⟨m', ?_, a2⟩
    rw [if_neg (by omega), if_pos rfl, a1, ob2_e, m_many R, ob_e]; rfl
  · obtain ⟨m', a1, a2⟩ := qm_loansOf (T := T) ho m h
    refine ⟨m', ?_, a2⟩
    rw [if_neg (by omega), if_neg (by omega), if_pos rfl, a1, ob2_e, m_many L, ob_e]; rfl
  · obtain ⟨m', a1, a2⟩ := qm_errorsOf (T := T) ho m h
    refine ⟨m', ?_, a2⟩
    rw [if_neg (by omega), if_neg (by omega), if_neg (by omega), if_pos rfl, a1, ob2_e]; rfl
  · obtain ⟨m', a1, a2⟩ := qm_manyOf (T := T) ho (c := 0) (by omega) m h
    refine ⟨m', ?_, a2⟩
    rw [if_neg (by omega), if_neg (by omega), if_neg (by omega), if_neg (by omega), if_pos rfl, show nI 4 - (4 : Int32) = nI 0 from e4 0, a1, ob2_e]; rfl
  · obtain ⟨m', a1, a2⟩ := qm_manyOf (T := T) ho (c := 1) (by omega) m h
    refine ⟨m', ?_, a2⟩
    rw [if_neg (by omega), if_neg (by omega), if_neg (by omega), if_neg (by omega), if_neg (by omega), if_pos rfl, show nI 5 - (4 : Int32) = nI 1 from e4 1, a1, ob2_e]; rfl
  · obtain ⟨m', a1, a2⟩ := qm_manyOf (T := T) ho (c := 2) (by omega) m h
    refine ⟨m', ?_, a2⟩
    rw [if_neg (by omega), if_neg (by omega), if_neg (by omega), if_neg (by omega), if_neg (by omega), if_neg (by omega), if_pos rfl, show nI 6 - (4 : Int32) = nI 2 from e4 2, a1, ob2_e]; rfl
  · obtain ⟨m', a1, a2⟩ := qm_manyOf (T := T) ho (c := 3) (by omega) m h
    refine ⟨m', ?_, a2⟩
    rw [if_neg (by omega), if_neg (by omega), if_neg (by omega), if_neg (by omega), if_neg (by omega), if_neg (by omega), if_neg (by omega), if_pos rfl, show nI 7 - (4 : Int32) = nI 3 from e4 3, a1, ob2_e]; rfl
  · omega
end MQs
