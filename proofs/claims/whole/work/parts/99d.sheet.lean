def upS (T : SH) (k : Nat) (f : Option Nat) (z : Nat) (it : Nat → Int32) : SH := (fun j => if j = k then f else tf T j, fun j => if j = k then z else tz T j, fun j => if j = k then it else ti T j, tg T)
def upG (T : SH) (v : Int32) : SH := (T.1, T.2.1, T.2.2.1, v)
theorem upS_ok {T : SH} (h : SOK T) {k z : Nat} {f : Option Nat} {it : Nat → Int32} (hf : ∀ x, f = some x → x < 3) (hz : z ≤ 60) : SOK (upS T k f z it) := by
  refine ⟨fun j x e => ?_, fun j => ?_⟩
  · have e' : (if j = k then f else tf T j) = some x := e
    by_cases c : j = k
    · rw [if_pos c] at e'; exact hf x e'
    · rw [if_neg c] at e'; exact h.1 j x e'
  · show (if j = k then z else tz T j) ≤ 60
    by_cases c : j = k
    · rw [if_pos c]; exact hz
    · rw [if_neg c]; exact h.2 j
theorem upG_ok {T : SH} (h : SOK T) (v : Int32) : SOK (upG T v) := h
theorem XS_up {T : SH} {s : sh_S} (h : XS T s) {k z : Nat} (hk : k < 4) {f : Option Nat} {it : Nat → Int32} {g0 g1 : Nat → Int32} (h1 : g0 1 = oe f) (h2 : f ≠ none → g0 2 = nI z ∧ ∀ i, i < 60 → g1 i = it i) : XS (upS T k f z it) (ur (ur s (64 + 2 * k + 1) g1) (64 + 2 * k) g0) := by
  refine ⟨fun j hj => ?_, by rw [ur_n _ _ (by omega), ur_n _ _ (by omega)]; exact h.2⟩
  show _ = oe (if j = k then f else tf T j) ∧ ((if j = k then f else tf T j) ≠ none → _ = nI (if j = k then z else tz T j) ∧ ∀ i, i < 60 → _ = (if j = k then it else ti T j) i)
  by_cases c : j = k
  · subst c
    simp only [if_true]
    rw [ur_s, ur_n _ _ (by omega), ur_s]
    exact ⟨h1, h2⟩
  · simp only [if_neg c]
    rw [ur_n _ _ (show 64 + 2 * j ≠ 64 + 2 * k by omega), ur_n _ _ (show 64 + 2 * j ≠ 64 + 2 * k + 1 by omega), ur_n _ _ (show 64 + 2 * j + 1 ≠ 64 + 2 * k by omega), ur_n _ _ (show 64 + 2 * j + 1 ≠ 64 + 2 * k + 1 by omega)]
    exact h.1 j hj
theorem MS_up {T : SH} {m t : sh_S} (h : MS T m) {k z : Nat} {f : Option Nat} {it : Nat → Int32} (h1 : t 22 k = bi f.isSome) (h2 : ∀ x, f = some x → t 23 k = nI x ∧ t 24 k = nI z ∧ ∀ i, i < 60 → t 25 (60 * k + i) = it i) (h3 : ∀ j, j < 4 → j ≠ k → t 22 j = m 22 j ∧ t 23 j = m 23 j ∧ t 24 j = m 24 j ∧ ∀ i, i < 60 → t 25 (60 * j + i) = m 25 (60 * j + i)) (h4 : t 0 35 = m 0 35) : MS (upS T k f z it) t := by
  refine ⟨fun j hj => ?_, by rw [h4]; exact h.2⟩
  show _ = bi (if j = k then f else tf T j).isSome ∧ ∀ x, (if j = k then f else tf T j) = some x → _ = nI x ∧ _ = nI (if j = k then z else tz T j) ∧ ∀ i, i < 60 → _ = (if j = k then it else ti T j) i
  by_cases c : j = k
  · subst c
    simp only [if_true]
    exact ⟨h1, h2⟩
  · simp only [if_neg c]
    obtain ⟨q1, q2, q3, q4⟩ := h3 j hj c
    obtain ⟨g1, g2⟩ := h.1 j hj
    refine ⟨by rw [q1]; exact g1, fun x hx => ?_⟩
    obtain ⟨g3, g4, g5⟩ := g2 x hx
    exact ⟨by rw [q2]; exact g3, by rw [q3]; exact g4, fun i hi => by rw [q4 i hi]; exact g5 i hi⟩
theorem XI.sh {P : Pg} {T T' : SH} {s t : sh_S} (h : XI P T s) (e : ∀ k, k < 64 → t k = s k) (h' : XS T' t) : XI P T' t := by
  obtain ⟨h1, h2, h3, h4, h5, h6⟩ := h
  refine ⟨h1.of (fun k hk => e k (by omega)), ?_, h3.of (e 52 (by omega)), h4.of (e 53 (by omega)) (e 55 (by omega)), h5.of (e 56 (by omega)), h'⟩
  rcases h2 with h2 | h2
  · exact Or.inl (by rw [e 10 (by omega)]; exact h2)
  · exact Or.inr ⟨by rw [e 10 (by omega)]; exact h2.1, h2.2.of (fun k q1 q2 => e k (by omega))⟩
theorem PM.sh {P : Pg} {m t : sh_S} (h : PM P m) (e0 : t 0 0 = m 0 0) (e : ∀ k, 1 ≤ k → k ≤ 4 → t k = m k) : PM P t := by
  refine ⟨by rw [e0]; exact h.1, fun k hk => ?_⟩
  rw [e 1 (by omega) (by omega), e 2 (by omega) (by omega), e 3 (by omega) (by omega), e 4 (by omega) (by omega)]
  exact h.2 k hk
theorem x_isSheet (x : Int32) : f_X9_isSheet x = some (bi (inr x 0 3)) := by
  unfold f_X9_isSheet
  rw [x_bw, ob_e, gu_t (bi_z _)]
  rfl
theorem x_isForm (x : Int32) : f_X9_isForm x = some (bi (inr x 0 2)) := by
  unfold f_X9_isForm
  rw [x_bw, ob_e, gu_t (bi_z _)]
  rfl
theorem m_isSheet (x : Int32) : f_X10_isSheet x = some (bi (inr x 0 3)) := by
  unfold f_X10_isSheet
  rw [m_in, ob_e, gu_t (bi_z _)]
  rfl
theorem m_inr (x lo hi : Int32) : f_X10_in x lo hi = some (bi (inr x lo hi)) := m_in x lo hi
def rsP (k : Nat) (s : sh_S) : sh_S := rs [64 + 2 * k, 64 + 2 * k + 1] s
theorem mg_P (k : Nat) (s u : sh_S) : mg [64 + 2 * k, 64 + 2 * k + 1] 0 s u = ur (ur s (64 + 2 * k + 1) (u 1)) (64 + 2 * k) (u 0) := rfl
theorem rs_P0 (k : Nat) (s : sh_S) : rs [64 + 2 * k, 64 + 2 * k + 1] s 0 = s (64 + 2 * k) := rfl
theorem rs_P1 (k : Nat) (s : sh_S) : rs [64 + 2 * k, 64 + 2 * k + 1] s 1 = s (64 + 2 * k + 1) := rfl
section SHs
variable {P : Pg} {T : SH} {s m : sh_S}
theorem x_isLost (h : XS T s) (hT : SOK T) {k : Nat} (hk : k < 4) : f_X6_isLost (rs [64 + 2 * k, 64 + 2 * k + 1] s) = some (bi (tf T k).isNone) := by
  unfold f_X6_isLost
  rw [rs_P0, (h.1 k hk).1]
  cases hf : tf T k with
  | none => rfl
  | some f =>
    have := hT.1 k f hf
    rw [show oe (some f) = nI f from rfl, if_neg (neg1 (by omega)), ob_e]
    rfl
theorem x_fi (h : XI P T s) (v : Int32) : f_X9_finding v s = some (-10 - v, ur s 73 (upd (s 73) 6 v)) ∧ XI P (upG T v) (ur s 73 (upd (s 73) 6 v)) := by
  refine ⟨rfl, h.sh (fun k hk => ur_n _ _ (by omega)) ⟨fun k hk => ?_, by rw [ur_s, upd_s]; rfl⟩⟩
  rw [ur_n _ _ (by omega), ur_n _ _ (by omega)]
  exact h.2.2.2.2.2.1 k hk
theorem m_fi (h : MI P T m) (v : Int32) : f_X10_meets v m = some (-10 - v, ur m 0 (upd (m 0) 35 v)) ∧ MI P (upG T v) (ur m 0 (upd (m 0) 35 v)) := by
  refine ⟨rfl, h.1.sh (by rw [ur_s, upd_n _ _ (by omega)]) (fun k k1 k2 => ur_n _ _ (by omega)), fun k hk => ?_, by rw [ur_s, upd_s]; rfl⟩
  rw [ur_n _ _ (by omega), ur_n _ _ (by omega), ur_n _ _ (by omega), ur_n _ _ (by omega)]
  exact h.2.1 k hk
theorem fi_sim (hP : pOK P) (hT : SOK T) (h1 : XI P T s) (h2 : MI P T m) (v : Int32) : ∃ a s' m', ob2 (f_X9_finding v s) (fun v6 s7 => some (v6, s7)) = some (a, s') ∧ ob2 (f_X10_meets v m) (fun v6 s7 => some (v6, s7)) = some (a, m') ∧ RLs s' m' := by
  obtain ⟨a1, a2⟩ := x_fi h1 v
  obtain ⟨b1, b2⟩ := m_fi h2 v
  rw [a1, b1]
  exact ⟨_, _, _, rfl, rfl, P, _, hP, upG_ok hT v, a2, b2⟩
end SHs
theorem x_renew (u : sh_S) (f z : Int32) : f_X6_renew f z u = some (ur (ur u 0 (upd (upd (u 0) 1 f) 2 z)) 1 (fun i => if i < 60 then 0 else u 1 i)) := by
  unfold f_X6_renew
  rw [lb_e, lb_e]
  simp only [ur_s, ur_ur]
  generalize hv : ur u 0 (upd (upd (u 0) 1 f) 2 z) = v
  have v1 : v 1 = u 1 := by rw [← hv, ur_n _ _ (by omega)]
  have hh := lp_fn (body := fun q : Int32 × sh_S => f_X6_renew_L12 q.1 q.2) (fun j (t : sh_S) => (nI j, t)) 60 (fun j => ur v 1 (fun i => if i < j then 0 else v 1 i)) (ur v 1 (fun i => if i < 60 then 0 else v 1 i))
    (fun j hj => by
      show f_X6_renew_L12 (nI j) (ur v 1 (fun i => if i < j then 0 else v 1 i)) = some (.inl (nI (j + 1), ur v 1 (fun i => if i < j + 1 then 0 else v 1 i)))
      unfold f_X6_renew_L12
      rw [if_neg (show ¬ (60 : Int32) ≤ nI j from nI_ge (b := 60) hj (by omega)), gu_t (inb_n hj (by omega)), lb_e, lb_e, ix_n (by omega), nI_1, ur_ur, ur_s]
      congr 4
      funext x
      by_cases e : x = j
      · subst e; rw [upd_s, if_pos (by omega)]
      · rw [upd_n _ _ e]
        by_cases e2 : x < j
        · rw [if_pos e2, if_pos (by omega)]
        · rw [if_neg e2, if_neg (by omega)])
    (by
      show f_X6_renew_L12 (nI 60) _ = _
      unfold f_X6_renew_L12
      rw [if_pos (show (60 : Int32) ≤ nI 60 by decide)]) (FU_gt (by omega))
  have e0 : ur v 1 (fun i => if i < 0 then 0 else v 1 i) = v := by
    have : (fun i => if i < 0 then (0 : Int32) else v 1 i) = v 1 := by funext x; rw [if_neg (by omega)]
    rw [this, ur_id]
  have hh' : lp (fun q : Int32 × sh_S => f_X6_renew_L12 q.1 q.2) FU (nI 0, ur v 1 (fun i => if i < 0 then 0 else v 1 i)) = _ := hh
  rw [e0] at hh'
  have hh2 : lp (fun q : Int32 × sh_S => f_X6_renew_L12 q.1 q.2) FU ((0 : Int32), v) = _ := hh'
  rw [hh2, ob_e, v1]
theorem m_renew (k : Nat) (hk : k < 4) (u : sh_S) : lp (fun q : Int32 × sh_S => f_X10_sheet_L59 (nI k) q.1 q.2) FU ((0 : Int32), u) = some (ur u 25 (fun i => if 60 * k ≤ i ∧ i < 60 * k + 60 then 0 else u 25 i)) := by
  have hh := lp_fn (body := fun q : Int32 × sh_S => f_X10_sheet_L59 (nI k) q.1 q.2) (fun j (t : sh_S) => (nI j, t)) 60 (fun j => ur u 25 (fun i => if 60 * k ≤ i ∧ i < 60 * k + j then 0 else u 25 i)) (ur u 25 (fun i => if 60 * k ≤ i ∧ i < 60 * k + 60 then 0 else u 25 i))
    (fun j hj => by
      show f_X10_sheet_L59 (nI k) (nI j) (ur u 25 (fun i => if 60 * k ≤ i ∧ i < 60 * k + j then 0 else u 25 i)) = some (.inl (nI (j + 1), ur u 25 (fun i => if 60 * k ≤ i ∧ i < 60 * k + (j + 1) then 0 else u 25 i)))
      have e60 : (60 : Int32) * nI k + nI j = nI (60 * k + j) := by
        have : nI 60 * nI k = nI (60 * k) := pk_mul 60 k
        rw [← nI_add, ← this]; rfl
      unfold f_X10_sheet_L59
      rw [if_neg (show ¬ (60 : Int32) ≤ nI j from nI_ge (b := 60) hj (by omega)), e60, gu_t (inb_n (by omega) (by omega)), lb_e, lb_e, ix_n (by omega), nI_1, ur_ur, ur_s]
      congr 4
      funext x
      by_cases e : x = 60 * k + j
      · subst e; rw [upd_s, if_pos (by omega)]
      · rw [upd_n _ _ e]
        by_cases e2 : 60 * k ≤ x ∧ x < 60 * k + j
        · rw [if_pos e2, if_pos (by omega)]
        · rw [if_neg e2, if_neg (by omega)])
    (by
      show f_X10_sheet_L59 _ (nI 60) _ = _
      unfold f_X10_sheet_L59
      rw [if_pos (show (60 : Int32) ≤ nI 60 by decide)]) (FU_gt (by omega))
  have e0 : ur u 25 (fun i => if 60 * k ≤ i ∧ i < 60 * k + 0 then 0 else u 25 i) = u := by
    have : (fun i => if 60 * k ≤ i ∧ i < 60 * k + 0 then (0 : Int32) else u 25 i) = u 25 := by funext x; rw [if_neg (by omega)]
    rw [this, ur_id]
  have hh' : lp (fun q : Int32 × sh_S => f_X10_sheet_L59 (nI k) q.1 q.2) FU (nI 0, ur u 25 (fun i => if 60 * k ≤ i ∧ i < 60 * k + 0 then 0 else u 25 i)) = _ := hh
  rw [e0] at hh'
  exact hh'
theorem sim_sheet (x y z : Int32) : Sim (f_X9_sheet x y z) (f_X10_sheet x y z) := by
  intro s m ⟨P, T, hP, hT, h1, h2⟩
  unfold f_X9_sheet f_X10_sheet
  rw [x_isSheet, m_isSheet, x_isForm, m_inr, ob_e, ob_e, ob_e, ob_e]
  cases hx : inr x 0 3 with
  | false =>
    rw [if_pos (show bi false = (0 : Int32) from rfl), if_pos (show bi false = (0 : Int32) from rfl)]
    exact ⟨-2, s, m, rfl, rfl, P, T, hP, hT, h1, h2⟩
  | true =>
    rw [if_neg (show ¬ bi true = (0 : Int32) by decide), if_neg (show ¬ bi true = (0 : Int32) by decide)]
    cases hy : inr y 0 2 with
    | false =>
      rw [if_pos (show bi false = (0 : Int32) from rfl), if_pos (show bi false = (0 : Int32) from rfl)]
      exact ⟨-2, s, m, rfl, rfl, P, T, hP, hT, h1, h2⟩
    | true =>
      rw [if_neg (show ¬ bi true = (0 : Int32) by decide), if_neg (show ¬ bi true = (0 : Int32) by decide)]
      obtain ⟨k, hk, rfl⟩ := inr_of (b := 3) (by omega) hx
      obtain ⟨f, hf, rfl⟩ := inr_of (b := 2) (by omega) hy
      by_cases hz : z ≤ (60 : Int32)
      · rw [if_pos hz, if_pos hz]
        by_cases h0 : 0 ≤ z
        · rw [if_pos h0, if_pos h0]
          obtain ⟨n, hn, rfl⟩ := nI_of2 (M := 60) (n := 60) (by decide) (by rw [i32_lt]; rw [i32_le] at h0; exact Int.not_lt.mpr h0) hz
          have i1 : inb (nI k) 4 := inb_n (by omega) (by omega)
          rw [gu_t i1, ix_n (by omega), x_renew, ob_e, lb_e, mg_P]
          simp only [gu_t i1, lb_e]
          rw [m_renew k (by omega), ob_e]
          refine ⟨nI n, _, _, rfl, rfl, P, upS T k (some f) n (fun _ => 0), hP, upS_ok hT (fun x e => by cases e; omega) hn, h1.sh (fun j hj => by rw [ur_n _ _ (by omega), ur_n _ _ (by omega)]) (XS_up h1.2.2.2.2.2 (by omega) ?_ (fun _ => ⟨?_, fun i hi => ?_⟩)), h2.1.sh ?_ (fun j j1 j2 => ?_), MS_up h2.2 ?_ (fun x e => ?_) (fun j hj hjk => ?_) ?_⟩
          · rw [ur_n _ _ (by omega), ur_s, upd_n _ _ (by omega), upd_s]; rfl
          · rw [ur_n _ _ (by omega), ur_s, upd_s]
          · rw [ur_s, if_pos hi]
          · rw [ur_n _ _ (by omega), ur_n _ _ (by omega), ur_n _ _ (by omega), ur_n _ _ (by omega)]
          · rw [ur_n _ _ (by omega), ur_n _ _ (by omega), ur_n _ _ (by omega), ur_n _ _ (by omega)]
          · rw [ur_n _ _ (by omega), ur_n _ _ (by omega), ur_n _ _ (by omega), ur_s, upd_s]
            exact (show nz 1 = bi true by decide)
          · cases e
            refine ⟨?_, ?_, fun i hi => ?_⟩
            · rw [ur_n _ _ (by omega), ur_n _ _ (by omega), ur_s, upd_s]
            · rw [ur_n _ _ (by omega), ur_s, upd_s]
            · rw [ur_s, if_pos (by omega)]
          · refine ⟨?_, ?_, ?_, fun i hi => ?_⟩
            · rw [ur_n _ _ (by omega), ur_n _ _ (by omega), ur_n _ _ (by omega), ur_s, upd_n _ _ hjk]
            · rw [ur_n _ _ (by omega), ur_n _ _ (by omega), ur_s, upd_n _ _ hjk, ur_n _ _ (by omega)]
            · rw [ur_n _ _ (by omega), ur_s, upd_n _ _ hjk, ur_n _ _ (by omega), ur_n _ _ (by omega)]
            · rw [ur_s, if_neg (by omega), ur_n _ _ (by omega), ur_n _ _ (by omega), ur_n _ _ (by omega)]
          · rw [ur_n _ _ (by omega), ur_n _ _ (by omega), ur_n _ _ (by omega), ur_n _ _ (by omega)]
        · rw [if_neg h0, if_neg h0]
          exact fi_sim hP hT h1 h2 5
      · rw [if_neg hz, if_neg hz]
        exact ⟨-2, s, m, rfl, rfl, P, T, hP, hT, h1, h2⟩
theorem sim_lose (x : Int32) : Sim (f_X9_lose x) (f_X10_lose x) := by
  intro s m ⟨P, T, hP, hT, h1, h2⟩
  unfold f_X9_lose f_X10_lose
  rw [x_isSheet, m_isSheet, ob_e, ob_e]
  cases hx : inr x 0 3 with
  | false =>
    rw [if_pos (show bi false = (0 : Int32) from rfl), if_pos (show bi false = (0 : Int32) from rfl)]
    exact ⟨-2, s, m, rfl, rfl, P, T, hP, hT, h1, h2⟩
  | true =>
    rw [if_neg (show ¬ bi true = (0 : Int32) by decide), if_neg (show ¬ bi true = (0 : Int32) by decide)]
    obtain ⟨k, hk, rfl⟩ := inr_of (b := 3) (by omega) hx
    have i1 : inb (nI k) 4 := inb_n (by omega) (by omega)
    obtain ⟨g1, g2⟩ := h1.2.2.2.2.2.1 k (by omega)
    obtain ⟨y1, y2⟩ := h2.2.1 k (by omega)
    simp only [gu_t i1]
    rw [ix_n (by omega), x_isLost h1.2.2.2.2.2 hT (by omega), ob_e, y1]
    cases hf : tf T k with
    | none =>
      rw [if_neg (show ¬ bi (none : Option Nat).isNone = (0 : Int32) by decide), if_pos (show bi (none : Option Nat).isSome = (0 : Int32) from rfl)]
      exact fi_sim hP hT h1 h2 1
    | some f =>
      rw [if_pos (show bi (some f).isNone = (0 : Int32) from rfl), if_neg (show ¬ bi (some f).isSome = (0 : Int32) from (show ¬ bi true = (0 : Int32) by decide))]
      obtain ⟨g3, g4⟩ := g2 (by rw [hf]; simp)
      obtain ⟨y3, y4, y5⟩ := y2 f hf
      unfold f_X6_drop
      rw [lb_e, lb_e, lb_e, ob_e, lb_e, mg_P, lb_e, g3, ur_n _ _ (show 24 ≠ 22 by omega), y4]
      refine ⟨nI (tz T k), _, _, rfl, rfl, P, upS T k none 0 (fun _ => 0), hP, upS_ok hT (fun x e => by cases e) (by omega), h1.sh (fun j hj => by rw [ur_n _ _ (by omega), ur_n _ _ (by omega)]) (XS_up h1.2.2.2.2.2 (by omega) ?_ (fun e => absurd rfl e)), h2.1.sh ?_ (fun j j1 j2 => ?_), MS_up h2.2 ?_ (fun x e => by cases e) (fun j hj hjk => ?_) ?_⟩
      · rw [ur_s, upd_n _ _ (by omega), ur_s, upd_s]; rfl
      · rw [ur_n _ _ (by omega)]
      · rw [ur_n _ _ (by omega)]
      · rw [ur_s, upd_s]; decide
      · refine ⟨?_, ?_, ?_, fun i hi => ?_⟩
        · rw [ur_s, upd_n _ _ hjk]
        · rw [ur_n _ _ (by omega)]
        · rw [ur_n _ _ (by omega)]
        · rw [ur_n _ _ (by omega)]
      · rw [ur_n _ _ (by omega)]
