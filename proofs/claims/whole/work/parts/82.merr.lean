abbrev Er3 : Type := Nat × Nat × Nat
def sg (k c : Nat) (f : Bf) (n : Nat) : List Er3 := match n with
  | 0 => []
  | n + 1 => sg k c f n ++ (if f n then [(k, c, n)] else [])
theorem sg_len (k c : Nat) (f : Bf) : ∀ n, (sg k c f n).length = cnt f n
  | 0 => rfl
  | n + 1 => by
    show (sg k c f n ++ (if f n then [(k, c, n)] else [])).length = cnt f n + (if f n then 1 else 0)
    rw [List.length_append, sg_len k c f n]
    cases f n <;> rfl
theorem sg_ext (k c : Nat) {f g : Bf} : ∀ {n : Nat}, (∀ x, x < n → f x = g x) → sg k c f n = sg k c g n
  | 0, _ => rfl
  | n + 1, h => by
    show sg k c f n ++ _ = sg k c g n ++ _
    rw [sg_ext k c (fun x hx => h x (by omega)), h n (by omega)]
theorem sg_up (k c : Nat) (f : Bf) {n : Nat} : ∀ d, (∀ x, n ≤ x → f x = false) → sg k c f (n + d) = sg k c f n
  | 0, _ => rfl
  | d + 1, h => by
    show sg k c f (n + d) ++ (if f (n + d) then [(k, c, n + d)] else []) = _
    rw [sg_up k c f d h, h (n + d) (by omega)]
    simp
theorem sg_none (k c : Nat) {f : Bf} : ∀ {n : Nat}, (∀ x, x < n → f x = false) → sg k c f n = []
  | 0, _ => rfl
  | n + 1, h => by
    show sg k c f n ++ (if f n then _ else _) = []
    rw [sg_none k c (fun x hx => h x (by omega)), h n (by omega)]
    rfl
theorem sg_one (k c : Nat) {q : Nat} (z : Bool) : ∀ {n : Nat}, q < n → sg k c (fun b => z && decide (b = q)) n = if z then [(k, c, q)] else []
  | 0, h => by omega
  | n + 1, h => by
    show sg k c (fun b => z && decide (b = q)) n ++ (if (z && decide (n = q)) then [(k, c, n)] else []) = _
    by_cases e : n = q
    · subst e
      rw [sg_none k c (fun x hx => by simp; omega)]
      cases z <;> simp
    · rw [sg_one k c z (show q < n by omega)]
      simp [e]
def EB (P : Pg) (k c : Nat) : Bf := match c with
  | 0 => clh P k
  | 1 => fun b => (gt P k && Ho P (8 * k + pv P k) 24) && decide (b = pv P k)
  | 2 => fun b => (gt P k && (decide (ak P k = 2) || decide (ak P k = 4))) && (decide (b < pn P) && (Ho P (8 * k + pv P k) b && decide (ak P b = 3)))
  | _ => fun b => (lnd P k && !gt P k && ex 24 (fun q => Ho P (8 * k + pv P k) q)) && decide (b = pv P k)
def erAt (P : Pg) (k : Nat) : List Er3 := sg k 0 (EB P k 0) 24 ++ sg k 1 (EB P k 1) 24 ++ sg k 2 (EB P k 2) 24 ++ sg k 3 (EB P k 3) 24
def eA (P : Pg) (n : Nat) : List Er3 := match n with
  | 0 => []
  | n + 1 => eA P n ++ (if Rc P n then erAt P n else [])
theorem clh_lt {P : Pg} {k l : Nat} (h : clh P k l = true) : l < pn P := by
  unfold clh clg at h
  simp only [Bool.or_eq_true, Bool.and_eq_true] at h
  rcases h with ((((h | h) | h) | h) | h) | h
  · exact sSc_lt h.2.1
  · exact sSc_lt h.2.1.1
  · exact sSc_lt h.2.1
  · exact sSc_lt h.2.1
  · exact sSc_lt h.2.1
  · obtain ⟨q, -, hq⟩ := ex_iff.mp h.2
    simp only [Bool.and_eq_true] at hq
    exact sSc_lt hq.2.1.1
theorem erAt_len {P : Pg} (ho : pOK P) (k : Nat) : (erAt P k).length ≤ 50 := by
  have hp := pv_lt ho k
  unfold erAt
  rw [List.length_append, List.length_append, List.length_append, sg_len k 0, sg_len k 2]
  have a1 := cnt_le (EB P k 0) 24
  have a2 := cnt_le (EB P k 2) 24
  have e1 : sg k 1 (EB P k 1) 24 = _ := sg_one k 1 (q := pv P k) (gt P k && Ho P (8 * k + pv P k) 24) (by omega)
  have e3 : sg k 3 (EB P k 3) 24 = _ := sg_one k 3 (q := pv P k) (lnd P k && !gt P k && ex 24 (fun q => Ho P (8 * k + pv P k) q)) (by omega)
  rw [e1, e3]
  have b1 : (if (gt P k && Ho P (8 * k + pv P k) 24) = true then [(k, 1, pv P k)] else []).length ≤ 1 := by split <;> simp
  have b3 : (if (lnd P k && !gt P k && ex 24 (fun q => Ho P (8 * k + pv P k) q)) = true then [(k, 3, pv P k)] else []).length ≤ 1 := by split <;> simp
  omega
theorem eA_len {P : Pg} (ho : pOK P) : ∀ n, (eA P n).length ≤ 50 * n
  | 0 => Nat.le_refl _
  | n + 1 => by
    have h1 := eA_len ho n
    have h2 := erAt_len ho n
    show (eA P n ++ (if Rc P n then erAt P n else [])).length ≤ _
    rw [List.length_append]
    have : (if Rc P n = true then erAt P n else []).length ≤ 50 := by
      split
      · exact h2
      · simp
    omega
def EM (E : List Er3) (m : sh_S) : Prop := m 0 12 = nI E.length ∧ ∀ i e, E[i]? = some e → m 10 i = nI e.1 ∧ m 11 i = nI e.2.1 ∧ m 12 i = nI e.2.2
def Er (m m' : sh_S) : Prop := (∀ j, j ≠ 12 → m' 0 j = m 0 j) ∧ (∀ k, 1 ≤ k → k ≤ 9 → m' k = m k) ∧ ∀ k, 13 ≤ k → m' k = m k
theorem Er.rf {m : sh_S} : Er m m := ⟨fun _ _ => rfl, fun _ _ _ => rfl, fun _ _ => rfl⟩
theorem Er.tr {a b c : sh_S} (h1 : Er a b) (h2 : Er b c) : Er a c := ⟨fun j hj => (h2.1 j hj).trans (h1.1 j hj), fun k x y => (h2.2.1 k x y).trans (h1.2.1 k x y), fun k x => (h2.2.2 k x).trans (h1.2.2 k x)⟩
theorem PM.er {P : Pg} {m m' : sh_S} (h : PM P m) (e : Er m m') : PM P m' := by
  refine ⟨by rw [e.1 0 (by omega)]; exact h.1, fun k hk => ?_⟩
  rw [e.2.1 1 (by omega) (by omega), e.2.1 2 (by omega) (by omega), e.2.1 3 (by omega) (by omega), e.2.1 4 (by omega) (by omega)]
  exact h.2 k hk
theorem MF.er {P : Pg} {m m' : sh_S} (h : MF P m) (e : Er m m') : MF P m' := by
  obtain ⟨h0, h1, h2, h3, h4, h5, h6, h7⟩ := h
  refine ⟨h0.er e, by rw [e.1 5 (by omega)]; exact h1, by rw [e.1 6 (by omega)]; exact h2, ?_, ?_, ?_, ?_, ?_⟩
  · intro v hv; rw [e.2.1 5 (by omega) (by omega)]; exact h3 v hv
  · intro v hv; rw [e.2.1 6 (by omega) (by omega)]; exact h4 v hv
  · intro v hv; rw [e.2.1 7 (by omega) (by omega)]; exact h5 v hv
  · intro v hv; rw [e.2.1 8 (by omega) (by omega)]; exact h6 v hv
  · intro v hv; rw [e.2.1 9 (by omega) (by omega)]; exact h7 v hv
section ER
variable {P : Pg} {m : sh_S} {E : List Er3}
theorem m_errs (h : EM E m) (hl : E.length < 1300) (a b c : Nat) : ∃ m', f_X10_errs (nI a) (nI b) (nI c) m = some m' ∧ EM (E ++ [(a, b, c)]) m' ∧ Er m m' := by
  have hi : inb (nI E.length) 1300 := inb_n hl (by omega)
  unfold f_X10_errs
  rw [h.1, gu_t hi, lb_e, ur_n _ _ (show (0 : Nat) ≠ 10 by omega), h.1, gu_t hi, lb_e, ur_n _ _ (show (0 : Nat) ≠ 11 by omega), ur_n _ _ (show (0 : Nat) ≠ 10 by omega), h.1, gu_t hi, lb_e, lb_e, ix_n (by omega)]
  refine ⟨_, rfl, ⟨?_, ?_⟩, ?_, ?_, ?_⟩
  · rw [ur_s, upd_s, ur_n _ _ (by omega), ur_n _ _ (by omega), ur_n _ _ (by omega), h.1, nI_1, List.length_append]
    rfl
  · intro i e he
    rw [ur_n _ _ (show (10 : Nat) ≠ 0 by omega), ur_n _ _ (show (11 : Nat) ≠ 0 by omega), ur_n _ _ (show (12 : Nat) ≠ 0 by omega), ur_n _ _ (show (10 : Nat) ≠ 12 by omega), ur_n _ _ (show (11 : Nat) ≠ 12 by omega), ur_s, ur_n _ _ (show (10 : Nat) ≠ 11 by omega), ur_s, ur_s, ur_n _ _ (show (12 : Nat) ≠ 11 by omega), ur_n _ _ (show (11 : Nat) ≠ 10 by omega), ur_n _ _ (show (12 : Nat) ≠ 10 by omega)]
    by_cases e1 : i < E.length
    · rw [List.getElem?_append_left e1] at he
      rw [upd_n _ _ (by omega), upd_n _ _ (by omega), upd_n _ _ (by omega)]
      exact h.2 i e he
    · rw [List.getElem?_append_right (by omega)] at he
      have hz : i - E.length < 1 := (List.getElem?_eq_some_iff.mp he).1
      have e2 : i = E.length := by omega
      subst e2
      rw [Nat.sub_self] at he
      cases he
      rw [upd_s, upd_s, upd_s]
      exact ⟨rfl, rfl, rfl⟩
  · intro j hj
    rw [ur_s, upd_n _ _ hj, ur_n _ _ (by omega), ur_n _ _ (by omega), ur_n _ _ (by omega)]
  · intro k h1 h2
    rw [ur_n _ _ (by omega), ur_n _ _ (by omega), ur_n _ _ (by omega), ur_n _ _ (by omega)]
  · intro k h1
    rw [ur_n _ _ (by omega), ur_n _ _ (by omega), ur_n _ _ (by omega), ur_n _ _ (by omega)]
theorem mE_43 (h : MF P m) (ho : pOK P) (hE : EM E m) {k : Nat} (hl : E.length + 24 ≤ 1300) (f : Bf) : ∃ m', lp (fun q : Int32 × sh_S => f_X10_errsAt_L43 (nI k) (mkb f) q.1 q.2) FU ((0 : Int32), m) = some m' ∧ EM (E ++ sg k 0 f (pn P)) m' ∧ Er m m' := by
  have hn := ho.1
  have hh := lp_for (body := fun q : Int32 × sh_S => f_X10_errsAt_L43 (nI k) (mkb f) q.1 q.2) (fun j (s : sh_S) => (nI j, s)) (pn P)
    (fun j s => EM (E ++ sg k 0 f j) s ∧ Er m s)
    (fun e => EM (E ++ sg k 0 f (pn P)) e ∧ Er m e)
    (fun j s hj hi => by
      have h0 : s 0 0 = nI (pn P) := by rw [hi.2.1 0 (by omega)]; exact h.1.1
      have hlen : (E ++ sg k 0 f j).length < 1300 := by
        rw [List.length_append, sg_len]
        have := cnt_le f j
        omega
      cases hf : f j with
      | false =>
        refine ⟨s, ?_, ?_, hi.2⟩
        · show f_X10_errsAt_L43 (nI k) (mkb f) (nI j) s = _
          unfold f_X10_errsAt_L43
          rw [h0, if_neg (nI_ge hj (by omega)), m_isIn (by omega), ob_e, hf, if_pos (by decide), ob_e, lb_e, nI_1]
        · show EM (E ++ (sg k 0 f j ++ (if f j then [(k, 0, j)] else []))) s
          rw [hf]
          simpa using hi.1
      | true =>
        obtain ⟨s', e1, e2, e3⟩ := m_errs hi.1 hlen k 0 j
        refine ⟨s', ?_, ?_, hi.2.tr e3⟩
        · show f_X10_errsAt_L43 (nI k) (mkb f) (nI j) s = _
          unfold f_X10_errsAt_L43
          have e1' : f_X10_errs (nI k) (0 : Int32) (nI j) s = some s' := e1
          rw [h0, if_neg (nI_ge hj (by omega)), m_isIn (by omega), ob_e, hf, if_neg (by decide), e1', ob_e, ob_e, lb_e, nI_1]
        · show EM (E ++ (sg k 0 f j ++ (if f j then [(k, 0, j)] else []))) s'
          rw [hf, ← List.append_assoc]
          exact e2)
    (fun s hi => ⟨s, by
      have h0 : s 0 0 = nI (pn P) := by rw [hi.2.1 0 (by omega)]; exact h.1.1
      show f_X10_errsAt_L43 (nI k) (mkb f) (nI (pn P)) s = _
      unfold f_X10_errsAt_L43
      rw [h0, if_pos (nI_le (Nat.le_refl _) (by omega))], hi⟩)
    FU 0 m (Nat.zero_le _) ⟨by simpa [sg] using hE, Er.rf⟩ (FU_gt (by omega))
  obtain ⟨e, h1, h2⟩ := hh
  exact ⟨e, h1, h2⟩
theorem neg1 {a : Nat} (h : a < 2 ^ 31) : ¬ nI a = (-1 : Int32) := by
  intro e
  have := nI_pos' h
  rw [e] at this
  exact absurd this (by decide)
theorem mE_101 (h : MF P m) (ho : pOK P) (hE : EM E m) {k : Nat} (hk : k < pn P) (hl : E.length + 24 ≤ 1300) : ∃ m', lp (fun q : Int32 × sh_S => f_X10_errsAt_L101 (nI k) (nI (ak P k)) (if gt P k = true then nI (pv P k) else -1) (mkb (Ho P (8 * k + pv P k))) q.1 q.2) FU ((0 : Int32), m) = some m' ∧ EM (E ++ sg k 2 (EB P k 2) (pn P)) m' ∧ Er m m' := by
  have hn := ho.1
  have hp := pv_lt ho k
  have e2 : (nI (ak P k) = (2 : Int32)) = (ak P k = 2) := nI_lt10 (c := 2) (ak_lt ho k) (by omega)
  have e4 : (nI (ak P k) = (4 : Int32)) = (ak P k = 4) := nI_lt10 (c := 4) (ak_lt ho k) (by omega)
  cases hc : (gt P k && (decide (ak P k = 2) || decide (ak P k = 4))) with
  | false =>
    have none : sg k 2 (EB P k 2) (pn P) = [] := sg_none k 2 (fun x _ => by simp only [EB, hc, Bool.false_and])
    rw [none, List.append_nil]
    have stop : ∀ (j : Nat) (s : sh_S), f_X10_errsAt_L101 (nI k) (nI (ak P k)) (if gt P k = true then nI (pv P k) else -1) (mkb (Ho P (8 * k + pv P k))) (nI j) s = some (.inr s) := by
      intro j s
      unfold f_X10_errsAt_L101
      simp only [e2, e4]
      split
      · rfl
      · cases hg : gt P k
        · simp
        · rw [hg] at hc
          simp only [Bool.true_and, Bool.or_eq_false_iff, decide_eq_false_iff_not] at hc
          simp [hc.1, hc.2]
    have hx := lp_fx (body := fun q : Int32 × sh_S => f_X10_errsAt_L101 (nI k) (nI (ak P k)) (if gt P k = true then nI (pv P k) else -1) (mkb (Ho P (8 * k + pv P k))) q.1 q.2) (fun j (s : sh_S) => (nI j, s)) 1 (fun _ s => s = m) (fun e => e = m)
      (fun j s _ hs => Or.inr ⟨s, stop j s, hs⟩) (fun s hs => ⟨s, stop 1 s, hs⟩) FU 0 m (by omega) rfl (FU_gt (by omega))
    obtain ⟨e, h1, rfl⟩ := hx
    exact ⟨e, h1, hE, Er.rf⟩
  | true =>
    simp only [Bool.and_eq_true, Bool.or_eq_true, decide_eq_true_eq] at hc
    have hh := lp_for (body := fun q : Int32 × sh_S => f_X10_errsAt_L101 (nI k) (nI (ak P k)) (if gt P k = true then nI (pv P k) else -1) (mkb (Ho P (8 * k + pv P k))) q.1 q.2) (fun j (s : sh_S) => (nI j, s)) (pn P)
      (fun j s => EM (E ++ sg k 2 (EB P k 2) j) s ∧ Er m s)
      (fun e => EM (E ++ sg k 2 (EB P k 2) (pn P)) e ∧ Er m e)
      (fun j s hj hi => by
        have hS := h.er hi.2
        have hlen : (E ++ sg k 2 (EB P k 2) j).length < 1300 := by
          rw [List.length_append, sg_len]
          have := cnt_le (EB P k 2) j
          omega
        have eb : EB P k 2 j = (Ho P (8 * k + pv P k) j && decide (ak P j = 3)) := by
          simp only [EB, hc.1, hj, decide_true, Bool.true_and]
          rcases hc.2 with q | q <;> simp [q]
        have e3 : (nI (ak P j) = (3 : Int32)) = (ak P j = 3) := nI_lt10 (c := 3) (ak_lt ho j) (by omega)
        have red : f_X10_errsAt_L101 (nI k) (nI (ak P k)) (if gt P k = true then nI (pv P k) else -1) (mkb (Ho P (8 * k + pv P k))) (nI j) s = f_X10_errsAt_B125_1 (nI k) s (mkb (Ho P (8 * k + pv P k))) (nI j) := by
          unfold f_X10_errsAt_L101
          simp only [e2, e4]
          rw [hS.1.1, if_neg (nI_ge hj (by omega)), if_pos hc.1, if_neg (neg1 (by omega))]
          rcases hc.2 with q | q
          · rw [if_pos q]
          · rw [if_neg (by omega), if_pos q]
        cases hf : EB P k 2 j with
        | false =>
          refine ⟨s, ?_, ?_, hi.2⟩
          · refine red.trans ?_
            unfold f_X10_errsAt_B125_1
            rw [m_isIn (by omega), ob_e, m_kind hS.1 ho (by omega), ob_e]
            simp only [e3, bi_0]
            rw [eb] at hf
            cases q : Ho P (8 * k + pv P k) j
            · simp [ob, lb, nI_1]
            · rw [q] at hf
              simp at hf
              simp [hf, ob, lb, nI_1]
          · show EM (E ++ (sg k 2 (EB P k 2) j ++ (if EB P k 2 j then [(k, 2, j)] else []))) s
            rw [hf]
            simpa using hi.1
        | true =>
          obtain ⟨s', q1, q2, q3⟩ := m_errs hi.1 hlen k 2 j
          refine ⟨s', ?_, ?_, hi.2.tr q3⟩
          · refine red.trans ?_
            have q1' : f_X10_errs (nI k) (2 : Int32) (nI j) s = some s' := q1
            unfold f_X10_errsAt_B125_1
            rw [m_isIn (by omega), ob_e, m_kind hS.1 ho (by omega), ob_e, q1', ob_e]
            simp only [e3, bi_0]
            rw [eb] at hf
            simp only [Bool.and_eq_true, decide_eq_true_eq] at hf
            simp [hf.1, hf.2, ob, lb, nI_1]
          · show EM (E ++ (sg k 2 (EB P k 2) j ++ (if EB P k 2 j then [(k, 2, j)] else []))) s'
            rw [hf, ← List.append_assoc]
            exact q2)
      (fun s hi => ⟨s, by
        have hS := h.er hi.2
        show f_X10_errsAt_L101 (nI k) (nI (ak P k)) (if gt P k = true then nI (pv P k) else -1) (mkb (Ho P (8 * k + pv P k))) (nI (pn P)) s = _
        unfold f_X10_errsAt_L101
        rw [hS.1.1, if_pos (nI_le (Nat.le_refl _) (by omega))], hi⟩)
      FU 0 m (Nat.zero_le _) ⟨by simpa [sg] using hE, Er.rf⟩ (FU_gt (by omega))
    obtain ⟨e, h1, h2⟩ := hh
    exact ⟨e, h1, h2⟩
theorem m_errsAt (h : MF P m) (ho : pOK P) (hE : EM E m) {k : Nat} (hk : k < pn P) (hl : E.length + 50 ≤ 1300) : ∃ m', f_X10_errsAt (nI k) m = some m' ∧ EM (E ++ erAt P k) m' ∧ Er m m' := by
  have hn := ho.1
  have hp := pv_lt ho k
  obtain ⟨h1, h2, h3, h4⟩ := h.1.2 k (by omega)
  obtain ⟨o1, o2, o3, o4⟩ := ho.2 k
  have i1 : inb (nI k) 24 := inb_n (by omega) (by omega)
  have i8 : inb (nI (8 * k + pv P k)) 192 := inb_n (by omega) (by omega)
  have ev : f_X10_variable (nI (pp P k)) = some (nI (pv P k)) := m_variable _ o3
  unfold f_X10_errsAt
  rw [m_kind h.1 ho (by omega), ob_e, m_goesBy h.1 ho (by omega), ob_e, m_clashes h ho hk, ob_e, gu_t i1, ix_n (by omega), h3, ev, ob_e, ix8, gu_t i8, lb_e, ix_n (by omega), h.2.2.2.2.2.1 _ (by omega)]
  obtain ⟨m1, a1, a2, a3⟩ := mE_43 h ho hE (k := k) (by omega) (clh P k)
  rw [a1, ob_e]
  have lenA : (E ++ sg k 0 (clh P k) (pn P)).length + 26 ≤ 1300 := by
    rw [List.length_append, sg_len]
    have := cnt_le (clh P k) (pn P)
    omega
  have hm1 := h.er a3
  -- second
  have B : ∃ m2, (if (if gt P k = true then nI (pv P k) else -1) = (-1 : Int32) then some m1 else ob (f_X10_isIn (mkb (Ho P (8 * k + pv P k))) (24 : Int32)) (fun v16 => (if v16 = 0 then some m1 else ob (f_X10_errs (nI k) (1 : Int32) (if gt P k = true then nI (pv P k) else -1) m1) (fun s17 => some s17)))) = some m2 ∧ EM (E ++ sg k 0 (clh P k) (pn P) ++ sg k 1 (EB P k 1) 24) m2 ∧ Er m1 m2 := by
    have e1 : sg k 1 (EB P k 1) 24 = _ := sg_one k 1 (q := pv P k) (gt P k && Ho P (8 * k + pv P k) 24) (by omega)
    rw [e1]
    have ein : f_X10_isIn (mkb (Ho P (8 * k + pv P k))) (24 : Int32) = some (bi (Ho P (8 * k + pv P k) 24)) := m_isIn (k := 24) (by omega) _
    rw [ein, ob_e]
    simp only [bi_0]
    cases hg : gt P k
    · exact ⟨m1, by simp, by simpa using a2, Er.rf⟩
    · cases hq : Ho P (8 * k + pv P k) 24
      · exact ⟨m1, by simp [neg1 (show pv P k < 2 ^ 31 by omega)], by simpa using a2, Er.rf⟩
      · obtain ⟨m2, b1, b2, b3⟩ := m_errs a2 (by omega) k 1 (pv P k)
        have b1' : f_X10_errs (nI k) (1 : Int32) (nI (pv P k)) m1 = some m2 := b1
        exact ⟨m2, by simp [neg1 (show pv P k < 2 ^ 31 by omega), b1', ob], by simpa using b2, b3⟩
  obtain ⟨m2, b1, b2, b3⟩ := B
  refine (show ∃ m', ob (if (if gt P k = true then nI (pv P k) else -1) = (-1 : Int32) then some m1 else ob (f_X10_isIn (mkb (Ho P (8 * k + pv P k))) (24 : Int32)) (fun v16 => (if v16 = 0 then some m1 else ob (f_X10_errs (nI k) (1 : Int32) (if gt P k = true then nI (pv P k) else -1) m1) (fun s17 => some s17)))) _ = some m' ∧ _ from ?_)
  rw [b1, ob_e]
  have hm2 := hm1.er b3
  have len1 : (sg k 1 (EB P k 1) 24).length ≤ 1 := by
    have e1 : sg k 1 (EB P k 1) 24 = _ := sg_one k 1 (q := pv P k) (gt P k && Ho P (8 * k + pv P k) 24) (by omega)
    rw [e1]
    split <;> simp
  obtain ⟨m3, c1, c2, c3⟩ := mE_101 hm2 ho b2 hk (by rw [List.length_append]; omega)
  rw [c1, ob_e]
  have hm3 := hm2.er c3
  rw [m_lends hm3.1 ho (by omega), ob_e, (hm3.1.2 k (by omega)).2.2.1, ev, ob_e, gu_t i1, mkb_nV]
  have full : E ++ erAt P k = E ++ sg k 0 (clh P k) (pn P) ++ sg k 1 (EB P k 1) 24 ++ sg k 2 (EB P k 2) (pn P) ++ sg k 3 (EB P k 3) 24 := by
    have f0 : sg k 0 (EB P k 0) 24 = sg k 0 (clh P k) (pn P) := by
      have := sg_up k 0 (clh P k) (n := pn P) (24 - pn P) (fun x hx => by
        cases q : clh P k x with
        | false => rfl
        | true => exact absurd (clh_lt q) (by omega))
      rw [show pn P + (24 - pn P) = 24 by omega] at this
      exact this
    have f2 : sg k 2 (EB P k 2) 24 = sg k 2 (EB P k 2) (pn P) := by
      have := sg_up k 2 (EB P k 2) (n := pn P) (24 - pn P) (fun x hx => by simp only [EB, show ¬ x < pn P by omega, decide_false, Bool.false_and, Bool.and_false])
      rw [show pn P + (24 - pn P) = 24 by omega] at this
      exact this
    unfold erAt
    rw [f0, f2]
    simp only [List.append_assoc]
  rw [full]
  have e3 : sg k 3 (EB P k 3) 24 = _ := sg_one k 3 (q := pv P k) (lnd P k && !gt P k && ex 24 (fun q => Ho P (8 * k + pv P k) q)) (by omega)
  rw [e3]
  have ez : (mkb (fun i => Ho P (8 * k + pv P k) i && !decide (i = 24)) = 0) = (ex 24 (fun q => Ho P (8 * k + pv P k) q) = false) := by
    apply propext
    rw [mkb_z]
    constructor
    · intro hz
      cases q : ex 24 (fun q => Ho P (8 * k + pv P k) q) with
      | false => rfl
      | true =>
        obtain ⟨x, x1, x2⟩ := ex_iff.mp q
        have := hz x (by omega)
        rw [x2] at this
        simp at this
        omega
    · intro hz i hi
      by_cases e : i = 24
      · simp [e]
      · cases q : Ho P (8 * k + pv P k) i with
        | false => rfl
        | true =>
          have : ex 24 (fun q => Ho P (8 * k + pv P k) q) = true := ex_iff.mpr ⟨i, by omega, q⟩
          rw [this] at hz; cases hz
  simp only [bi_0, ez]
  have len2 : (sg k 2 (EB P k 2) (pn P)).length ≤ 24 := by
    rw [sg_len]
    have := cnt_le (EB P k 2) (pn P)
    omega
  have lenC : (E ++ sg k 0 (clh P k) (pn P) ++ sg k 1 (EB P k 1) 24 ++ sg k 2 (EB P k 2) (pn P)).length < 1300 := by
    have x0 : (sg k 0 (clh P k) (pn P)).length ≤ 24 := by
      rw [sg_len]
      have := cnt_le (clh P k) (pn P)
      omega
    simp only [List.length_append]
    omega
  cases hlk : lnd P k
  · exact ⟨m3, by simp [ob], by simpa using c2, a3.tr (b3.tr c3)⟩
  · cases hg : gt P k
    · cases hx : ex 24 (fun q => Ho P (8 * k + pv P k) q)
      · exact ⟨m3, by simp [ob], by simpa using c2, a3.tr (b3.tr c3)⟩
      · obtain ⟨m4, d1, d2, d3⟩ := m_errs c2 lenC k 3 (pv P k)
        have d1' : f_X10_errs (nI k) (3 : Int32) (nI (pv P k)) m3 = some m4 := d1
        exact ⟨m4, by simp [ob, d1'], by simpa using d2, a3.tr (b3.tr (c3.tr d3))⟩
    · exact ⟨m3, by simp [ob, neg1 (show pv P k < 2 ^ 31 by omega)], by simpa using c2, a3.tr (b3.tr c3)⟩
def Mk2 (m m' : sh_S) : Prop := (∀ j, j ≠ 5 → j ≠ 6 → j ≠ 12 → m' 0 j = m 0 j) ∧ (∀ k, 1 ≤ k → k ≤ 4 → m' k = m k) ∧ ∀ k, 13 ≤ k → m' k = m k
theorem m_errsAll (h : PM P m) (ho : pOK P) : ∃ m', f_X10_errsAll m = some m' ∧ MF P m' ∧ EM (eA P (pn P)) m' ∧ Mk2 m m' := by
  have hn := ho.1
  obtain ⟨m1, a1, a2, a3⟩ := m_findsAll h ho
  unfold f_X10_errsAll
  rw [a1, ob_e, lb_e]
  generalize hm2 : ur m1 0 (upd (m1 0) 12 0) = m2
  have e2 : Er m1 m2 := by
    rw [← hm2]
    exact ⟨fun j hj => by rw [ur_s, upd_n _ _ hj], fun k h1 h2 => by rw [ur_n _ _ (by omega)], fun k h1 => by rw [ur_n _ _ (by omega)]⟩
  have b2 := a2.er e2
  have hh := lp_for (body := fun q : Int32 × sh_S => f_X10_errsAll_L11 q.1 q.2) (fun j (s : sh_S) => (nI j, s)) (pn P)
    (fun j s => EM (eA P j) s ∧ Er m2 s)
    (fun e => EM (eA P (pn P)) e ∧ Er m2 e)
    (fun j s hj hi => by
      have hS := b2.er hi.2
      have hlen := eA_len ho j
      cases hr : Rc P j with
      | false =>
        refine ⟨s, ?_, ?_, hi.2⟩
        · show f_X10_errsAll_L11 (nI j) s = _
          unfold f_X10_errsAll_L11
          rw [hS.1.1, if_neg (nI_ge hj (by omega)), hS.2.1, m_isIn (by omega), ob_e, hr, if_pos (by decide), ob_e, lb_e, nI_1]
        · show EM (eA P j ++ (if Rc P j then erAt P j else [])) s
          rw [hr]
          simpa using hi.1
      | true =>
        obtain ⟨s', q1, q2, q3⟩ := m_errsAt hS ho hi.1 hj (by omega)
        refine ⟨s', ?_, ?_, hi.2.tr q3⟩
        · show f_X10_errsAll_L11 (nI j) s = _
          unfold f_X10_errsAll_L11
          rw [hS.1.1, if_neg (nI_ge hj (by omega)), hS.2.1, m_isIn (by omega), ob_e, hr, if_neg (by decide), q1, ob_e, ob_e, lb_e, nI_1]
        · show EM (eA P j ++ (if Rc P j then erAt P j else [])) s'
          rw [hr]
          exact q2)
    (fun s hi => ⟨s, by
      have hS := b2.er hi.2
      show f_X10_errsAll_L11 (nI (pn P)) s = _
      unfold f_X10_errsAll_L11
      rw [hS.1.1, if_pos (nI_le (Nat.le_refl _) (by omega))], hi⟩)
    FU 0 m2 (Nat.zero_le _) ⟨⟨by rw [← hm2, ur_s, upd_s]; rfl, fun i e he => by cases he⟩, Er.rf⟩ (FU_gt (by omega))
  obtain ⟨s, h1, h2, h3⟩ := hh
  have h1' : lp (fun q : Int32 × sh_S => f_X10_errsAll_L11 q.1 q.2) FU ((0 : Int32), m2) = some s := h1
  rw [h1', ob_e]
  have e4 := e2.tr h3
  exact ⟨s, rfl, a2.er e4, h2, fun j h5 h6 h12 => (e4.1 j h12).trans (a3.1 j h5 h6), fun k x y => (e4.2.1 k (by omega) (by omega)).trans (a3.2.1 k x y), fun k x => (e4.2.2 k x).trans (a3.2.2 k (by omega))⟩
end ER
