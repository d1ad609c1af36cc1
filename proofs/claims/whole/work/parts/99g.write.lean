theorem SH_ext {A B : SH} (h1 : ∀ j, tf A j = tf B j) (h2 : ∀ j, tz A j = tz B j) (h3 : ∀ j i, ti A j i = ti B j i) (h4 : tg A = tg B) : A = B := by
  obtain ⟨a1, a2, a3, a4⟩ := A
  obtain ⟨b1, b2, b3, b4⟩ := B
  have e1 : a1 = b1 := funext h1
  have e2 : a2 = b2 := funext h2
  have e3 : a3 = b3 := funext (fun j => funext (h3 j))
  have e4 : a4 = b4 := h4
  rw [e1, e2, e3, e4]
theorem upI_upI (T : SH) (k : Nat) (a b : Nat → Int32) : upI (upI T k a) k b = upI T k b := by
  refine SH_ext (fun j => ?_) (fun j => ?_) (fun j i => ?_) rfl
  · show (if j = k then (if k = k then tf T k else tf T k) else (if j = k then tf T k else tf T j)) = (if j = k then tf T k else tf T j)
    by_cases e : j = k
    · rw [if_pos e, if_pos rfl, if_pos e]
    · rw [if_neg e, if_neg e]
  · show (if j = k then (if k = k then tz T k else tz T k) else (if j = k then tz T k else tz T j)) = (if j = k then tz T k else tz T j)
    by_cases e : j = k
    · rw [if_pos e, if_pos rfl, if_pos e]
    · rw [if_neg e, if_neg e]
  · show (if j = k then b else (if j = k then a else ti T j)) i = (if j = k then b else ti T j) i
    by_cases e : j = k
    · rw [if_pos e, if_pos e]
    · rw [if_neg e, if_neg e, if_neg e]
theorem upI_f (T : SH) (k : Nat) (a : Nat → Int32) : tf (upI T k a) k = tf T k := by
  show (if k = k then tf T k else tf T k) = _
  rw [if_pos rfl]
theorem upI_z (T : SH) (k : Nat) (a : Nat → Int32) : tz (upI T k a) k = tz T k := by
  show (if k = k then tz T k else tz T k) = _
  rw [if_pos rfl]
theorem upI_i (T : SH) (k : Nat) (a : Nat → Int32) : ti (upI T k a) k = a := by
  show (if k = k then a else ti T k) = _
  rw [if_pos rfl]
theorem upI_0 (T : SH) (k : Nat) : upI T k (ti T k) = T := by
  refine SH_ext (fun j => ?_) (fun j => ?_) (fun j i => ?_) rfl
  · show (if j = k then tf T k else tf T j) = _
    by_cases e : j = k
    · rw [if_pos e, e]
    · rw [if_neg e]
  · show (if j = k then tz T k else tz T j) = _
    by_cases e : j = k
    · rw [if_pos e, e]
    · rw [if_neg e]
  · show (if j = k then ti T k else ti T j) i = _
    by_cases e : j = k
    · rw [if_pos e, e]
    · rw [if_neg e]
def wIt (P : Pg) (T : SH) (k f j : Nat) : Nat → Int32 := fun i => if i < j then nrw f (tl P i 0) else ti T k i
theorem wIt_s (P : Pg) (T : SH) (k f j : Nat) : upd (wIt P T k f j) j (nrw f (tl P j 0)) = wIt P T k f (j + 1) := by
  funext i
  unfold wIt
  by_cases e : i = j
  · subst e; rw [upd_s, if_pos (by omega)]
  · rw [upd_n _ _ e]
    by_cases e2 : i < j
    · rw [if_pos e2, if_pos (by omega)]
    · rw [if_neg e2, if_neg (by omega)]
theorem wIt_0 (P : Pg) (T : SH) (k f : Nat) : upI T k (wIt P T k f 0) = T := by
  have : wIt P T k f 0 = ti T k := by
    funext i
    unfold wIt
    rw [if_neg (by omega)]
  rw [this, upI_0]
theorem sim_write (x : Int32) : Sim (f_X9_write x) (f_X10_write x) := by
  intro s m ⟨P, T, hP, hT, h1, h2⟩
  unfold f_X9_write f_X10_write
  rw [x_isSheet, m_isSheet, ob_e, ob_e]
  cases hx : inr x 0 3 with
  | false =>
    rw [if_pos (show bi false = (0 : Int32) from rfl), if_pos (show bi false = (0 : Int32) from rfl)]
    exact ⟨-2, s, m, rfl, rfl, P, T, hP, hT, h1, h2⟩
  | true =>
    rw [if_neg (show ¬ bi true = (0 : Int32) by decide), if_neg (show ¬ bi true = (0 : Int32) by decide)]
    obtain ⟨k, hk, rfl⟩ := inr_of (b := 3) (by omega) hx
    have i1 : inb (nI k) 4 := inb_n (by omega) (by omega)
    simp only [gu_t i1]
    rw [ix_n (by omega), x_isLost h1.2.2.2.2.2 hT (by omega), ob_e, (h2.2.1 k (by omega)).1]
    cases hf : tf T k with
    | none =>
      rw [if_neg (show ¬ bi (none : Option Nat).isNone = (0 : Int32) by decide), if_pos (show bi (none : Option Nat).isSome = (0 : Int32) from rfl)]
      exact fi_sim hP hT h1 h2 1
    | some f =>
      rw [if_pos (show bi (some f).isNone = (0 : Int32) from rfl), if_neg (show ¬ bi (some f).isSome = (0 : Int32) from (show ¬ bi true = (0 : Int32) by decide))]
      have hz := hT.2 k
      have hl := TE_le hP
      have nf : tf T k ≠ none := by rw [hf]; simp
      obtain ⟨s1, a1, a2, a3⟩ := x_ex h1 hP
      obtain ⟨m1, b1, b2, b3, b4⟩ := m_err h2 hP
      rw [a1, ob_e, lb_e, b1, ob_e, ((h1.2.2.2.2.2.1 k (by omega)).2 nf).1]
      generalize mg em_CK 0 s s1 = s2 at a2 a3 ⊢
      rw [a3.2.2.2.2.2.2.2.2.2.2.2, lb_e]
      obtain ⟨W, hW1, hW2, hW3, hW⟩ : ∃ W, W ≤ tz T k ∧ W ≤ TE P ∧ (tz T k ≤ W ∨ TE P ≤ W) ∧ (if nI (TE P) < nI (tz T k) then nI (TE P) else nI (tz T k)) = nI W := by
        by_cases c : TE P < tz T k
        · exact ⟨TE P, by omega, by omega, Or.inr (by omega), by rw [if_pos (nI_lt c (by omega))]⟩
        · exact ⟨tz T k, by omega, by omega, Or.inl (by omega), by rw [if_neg (nI_nlt (by omega) (by omega))]⟩
      rw [hW]
      have hx1 := lp_for (body := fun q : Int32 × sh_S => f_X9_write_L54 (nI k) (nI W) q.1 q.2) (fun j (t : sh_S) => (nI j, t)) W
        (fun j t => XI P (upI T k (wIt P T k f j)) t ∧ CX P t) (fun e => XI P (upI T k (wIt P T k f W)) e)
        (fun j t hj ⟨t1, t2⟩ => by
          show ∃ a', f_X9_write_L54 (nI k) (nI W) (nI j) t = some (.inl (nI (j + 1), a')) ∧ _
          have c := CXr t2
          have ht : f_X1_tell (nI j) (0 : Int32) (rs em_CK t) = some (tl P j 0) := x_tell hP c.2.2.2.2.2.2.2.2.2.1 c.2.2.2.2.2.2.2.2.2.2.1 (by omega) (what := 0) (by omega)
          obtain ⟨u, q1, q2, q3⟩ := x_put t1 (upI_ok hT k _) (k := k) (f := f) (by omega) (by rw [upI_f]; exact hf) (j := j) (by omega) (tl P j 0)
          unfold f_X9_write_L54
          rw [if_neg (nI_ge hj (by omega)), ht, ob_e, ix_n (by omega), q1, ob_e, lb_e, lb_e, nI_1]
          rw [upI_i, wIt_s, upI_upI] at q2
          exact ⟨_, rfl, q2, t2.of (fun i h1 h2 => q3 i (by omega))⟩)
        (fun t ht => ⟨t, by
          show f_X9_write_L54 (nI k) (nI W) (nI W) t = _
          unfold f_X9_write_L54
          rw [if_pos (nI_le (Nat.le_refl _) (by omega))], ht.1⟩)
        FU 0 s2 (Nat.zero_le _) ⟨by rw [wIt_0]; exact a2, a3⟩ (FU_gt (by omega))
      have hm1 := lp_for (body := fun q : Int32 × sh_S => f_X10_write_L31 (nI k) q.1 q.2) (fun j (t : sh_S) => (nI j, t)) W
        (fun j t => MI P (upI T k (wIt P T k f j)) t ∧ EM (eA P (pn P)) t) (fun e => ∃ t, e = (nI W, t) ∧ MI P (upI T k (wIt P T k f W)) t)
        (fun j t hj ⟨t1, t2⟩ => by
          show ∃ a', f_X10_write_L31 (nI k) (nI j) t = some (.inl (nI (j + 1), a')) ∧ _
          have hE : j < (eA P (pn P)).length := by
            have : W ≤ (eA P (pn P)).length := hW2
            omega
          have he : (eA P (pn P))[j]? = some (eA P (pn P))[j] := List.getElem?_eq_getElem hE
          have h24 : t 24 k = nI (tz T k) := by
            have := ((t1.2.1 k (by omega)).2 f (by rw [upI_f]; exact hf)).2.1
            rw [upI_z] at this; exact this
          have h10 : t 10 j = tl P j 0 := by
            rw [(t2.2 j _ he).1]
            unfold tl
            rw [he]; rfl
          have h12 : t 0 12 = nI (TE P) := t2.1
          obtain ⟨u, q1, q2, q3⟩ := m_put t1 (upI_ok hT k _) (k := k) (f := f) (by omega) (by rw [upI_f]; exact hf) (j := j) (by omega) (tl P j 0)
          unfold f_X10_write_L31
          rw [gu_t i1, ix_n (by omega), h24, if_neg (nI_ge (show j < tz T k by omega) (by omega)), h12, if_neg (nI_ge (show j < TE P by omega) (by omega)), gu_t (inb_n (show j < 1300 by omega) (by omega)), ix_n (by omega), h10, q1, ob_e, lb_e, nI_1]
          rw [upI_i, wIt_s, upI_upI] at q2
          refine ⟨_, rfl, q2, by rw [q3 0 (by omega)]; exact t2.1, fun i e hi => ?_⟩
          rw [q3 10 (by omega), q3 11 (by omega), q3 12 (by omega)]
          exact t2.2 i e hi)
        (fun t ht => ⟨(nI W, t), by
          show f_X10_write_L31 (nI k) (nI W) t = _
          have h24 : t 24 k = nI (tz T k) := by
            have := ((ht.1.2.1 k (by omega)).2 f (by rw [upI_f]; exact hf)).2.1
            rw [upI_z] at this; exact this
          have h12 : t 0 12 = nI (TE P) := ht.2.1
          unfold f_X10_write_L31
          rw [gu_t i1, ix_n (by omega), h24, h12]
          rcases hW3 with c | c
          · rw [if_pos (nI_le c (by omega))]
          · by_cases c2 : tz T k ≤ W
            · rw [if_pos (nI_le c2 (by omega))]
            · rw [if_neg (nI_ge (by omega) (by omega)), if_pos (nI_le c (by omega))], t, rfl, ht.1⟩)
        FU 0 m1 (Nat.zero_le _) ⟨by rw [wIt_0]; exact b2, b4⟩ (FU_gt (by omega))
      obtain ⟨e, x1, x2⟩ := hx1
      obtain ⟨e', y1, t, rfl, y2⟩ := hm1
      have x1' : lp (fun q : Int32 × sh_S => f_X9_write_L54 (nI k) (nI W) q.1 q.2) FU ((0 : Int32), s2) = some e := x1
      have y1' : lp (fun q : Int32 × sh_S => f_X10_write_L31 (nI k) q.1 q.2) FU ((0 : Int32), m1) = some (nI W, t) := y1
      rw [x1', ob_e, y1', ob2_e]
      exact ⟨nI W, e, t, rfl, rfl, P, _, hP, upI_ok hT k _, x2, y2⟩
theorem read_sim {T : SH} {k f : Nat} (hT : SOK T) (hk : k < 4) (hf : tf T k = some f) : ∀ (t n fu : Nat) (P : Pg) (s m : sh_S), n + t = 16 → t < fu → pOK P → XI P T s → MI P T m →
    ∃ a s' m', lp (fun q : Int32 × Int32 × sh_S => f_X9_read_L35 (nI k) q.1 q.2.1 q.2.2) fu (nI n, nI (4 * n), s) = some (a, s') ∧ lp (fun q : Int32 × sh_S => f_X10_read_L32 (nI k) (nI (60 * k)) q.1 q.2) fu (nI n, m) = some (a, m') ∧ RLs s' m' := by
  intro t
  induction t with
  | zero =>
    intro n fu P s m hnt hfu hP h1 h2
    have hz := hT.2 k
    cases fu with
    | zero => omega
    | succ fu =>
      have g := ((h1.2.2.2.2.2.1 k hk).2 (by rw [hf]; simp)).1
      obtain ⟨-, y4, -⟩ := (h2.2.1 k hk).2 f hf
      have e4 : nI (4 * n) + (4 : Int32) = nI (4 * n + 4) := nI_add (4 * n) 4
      have e3 : (4 : Int32) * nI n + (3 : Int32) = nI (4 * n + 3) := by
        have : nI 4 * nI n = nI (4 * n) := pk_mul 4 n
        have e : nI (4 * n) + nI 3 = nI (4 * n + 3) := nI_add _ _
        rw [← e, ← this]; rfl
      refine ⟨nI n, s, m, ?_, ?_, P, T, hP, hT, h1, h2⟩
      · unfold lp
        have : f_X9_read_L35 (nI k) (nI n) (nI (4 * n)) s = some (.inr (nI n, s)) := by
          unfold f_X9_read_L35
          rw [ix_n (by omega), g, e4, if_pos (nI_lt (by omega) (by omega))]
        rw [this]
      · unfold lp
        have : f_X10_read_L32 (nI k) (nI (60 * k)) (nI n) m = some (.inr (nI n, m)) := by
          unfold f_X10_read_L32
          rw [gu_t (inb_n hk (by omega)), ix_n (by omega), y4, e3, if_pos (nI_le (by omega) (by omega))]
        rw [this]
  | succ t ih =>
    intro n fu P s m hnt hfu hP h1 h2
    have hz := hT.2 k
    have hn24 := hP.1
    cases fu with
    | zero => omega
    | succ fu =>
      obtain ⟨g, gi⟩ := (h1.2.2.2.2.2.1 k hk).2 (by rw [hf]; simp)
      obtain ⟨-, y4, y5⟩ := (h2.2.1 k hk).2 f hf
      have e1 : nI (4 * n) + (1 : Int32) = nI (4 * n + 1) := nI_add (4 * n) 1
      have e2 : nI (4 * n) + (2 : Int32) = nI (4 * n + 2) := nI_add (4 * n) 2
      have e3' : nI (4 * n) + (3 : Int32) = nI (4 * n + 3) := nI_add (4 * n) 3
      have e4 : nI (4 * n) + (4 : Int32) = nI (4 * n + 4) := nI_add (4 * n) 4
      have em : (4 : Int32) * nI n = nI (4 * n) := pk_mul 4 n
      have f0 : nI (60 * k) + nI (4 * n) = nI (60 * k + 4 * n) := nI_add _ _
      have f1 : nI (60 * k + 4 * n) + (1 : Int32) = nI (60 * k + (4 * n + 1)) := nI_add (60 * k + 4 * n) 1
      have f2 : nI (60 * k + 4 * n) + (2 : Int32) = nI (60 * k + (4 * n + 2)) := nI_add (60 * k + 4 * n) 2
      have f3 : nI (60 * k + 4 * n) + (3 : Int32) = nI (60 * k + (4 * n + 3)) := nI_add (60 * k + 4 * n) 3
      by_cases c0 : tz T k < 4 * n + 4
      · refine ⟨nI n, s, m, ?_, ?_, P, T, hP, hT, h1, h2⟩
        · unfold lp
          have : f_X9_read_L35 (nI k) (nI n) (nI (4 * n)) s = some (.inr (nI n, s)) := by
            unfold f_X9_read_L35
            rw [ix_n (by omega), g, e4, if_pos (nI_lt (by omega) (by omega))]
          rw [this]
        · unfold lp
          have : f_X10_read_L32 (nI k) (nI (60 * k)) (nI n) m = some (.inr (nI n, m)) := by
            unfold f_X10_read_L32
            rw [gu_t (inb_n hk (by omega)), ix_n (by omega), y4, em, e3', if_pos (nI_le (by omega) (by omega))]
          rw [this]
      · have x0 := gi (4 * n) (by omega)
        have x1 := gi (4 * n + 1) (by omega)
        have x2 := gi (4 * n + 2) (by omega)
        have x3 := gi (4 * n + 3) (by omega)
        have w0 := y5 (4 * n) (by omega)
        have w1 := y5 (4 * n + 1) (by omega)
        have w2 := y5 (4 * n + 2) (by omega)
        have w3 := y5 (4 * n + 3) (by omega)
        have SX : f_X9_read_L35 (nI k) (nI n) (nI (4 * n)) s = (if (24 : Int32) ≤ nI (pn P) then some (.inr (nI n, s)) else (if bi (wl (ti T k (4 * n)) (ti T k (4 * n + 1)) (ti T k (4 * n + 2)) (ti T k (4 * n + 3))) = 0 then some (.inr (nI n, s)) else ob (f_X9_append (ti T k (4 * n)) (ti T k (4 * n + 1)) (ti T k (4 * n + 2)) (ti T k (4 * n + 3)) s) (fun s18 => some (.inl (nI (n + 1), nI (4 * n + 4), s18))))) := by
          unfold f_X9_read_L35
          rw [ix_n (by omega), g, e4, if_neg (nI_nlt (by omega) (by omega)), h1.1.1, e1, e2, e3']
          simp only [gu_t (inb_n (show 4 * n < 60 by omega) (show 60 < 2 ^ 31 by omega)), gu_t (inb_n (show 4 * n + 1 < 60 by omega) (show 60 < 2 ^ 31 by omega)), gu_t (inb_n (show 4 * n + 2 < 60 by omega) (show 60 < 2 ^ 31 by omega)), gu_t (inb_n (show 4 * n + 3 < 60 by omega) (show 60 < 2 ^ 31 by omega)), ix_n (show 4 * n < 2 ^ 31 by omega), ix_n (show 4 * n + 1 < 2 ^ 31 by omega), ix_n (show 4 * n + 2 < 2 ^ 31 by omega), ix_n (show 4 * n + 3 < 2 ^ 31 by omega), x0, x1, x2, x3, x_mayBe, ob_e, lb_e, nI_1]
        have SM : f_X10_read_L32 (nI k) (nI (60 * k)) (nI n) m = ob2 (f_X10_add (ti T k (4 * n)) (ti T k (4 * n + 1)) (ti T k (4 * n + 2)) (ti T k (4 * n + 3)) m) (fun v13 s14 => (if v13 ≤ 0 then some (.inr (nI n, s14)) else some (.inl (nI (n + 1), s14)))) := by
          unfold f_X10_read_L32
          rw [gu_t (inb_n hk (by omega)), ix_n (by omega), y4, em, e3', if_neg (nI_ge (by omega) (by omega)), f0, f1, f2, f3]
          simp only [gu_t (inb_n (show 60 * k + 4 * n < 240 by omega) (show 240 < 2 ^ 31 by omega)), gu_t (inb_n (show 60 * k + (4 * n + 1) < 240 by omega) (show 240 < 2 ^ 31 by omega)), gu_t (inb_n (show 60 * k + (4 * n + 2) < 240 by omega) (show 240 < 2 ^ 31 by omega)), gu_t (inb_n (show 60 * k + (4 * n + 3) < 240 by omega) (show 240 < 2 ^ 31 by omega)), ix_n (show 60 * k + 4 * n < 2 ^ 31 by omega), ix_n (show 60 * k + (4 * n + 1) < 2 ^ 31 by omega), ix_n (show 60 * k + (4 * n + 2) < 2 ^ 31 by omega), ix_n (show 60 * k + (4 * n + 3) < 2 ^ 31 by omega), w0, w1, w2, w3, lb_e, nI_1]
        generalize ti T k (4 * n) = a at SX SM
        generalize ti T k (4 * n + 1) = b at SX SM
        generalize ti T k (4 * n + 2) = c at SX SM
        generalize ti T k (4 * n + 3) = d at SX SM
        have stop : f_X9_read_L35 (nI k) (nI n) (nI (4 * n)) s = some (.inr (nI n, s)) → f_X10_read_L32 (nI k) (nI (60 * k)) (nI n) m = some (.inr (nI n, m)) → ∃ a s' m', lp (fun q : Int32 × Int32 × sh_S => f_X9_read_L35 (nI k) q.1 q.2.1 q.2.2) (fu + 1) (nI n, nI (4 * n), s) = some (a, s') ∧ lp (fun q : Int32 × sh_S => f_X10_read_L32 (nI k) (nI (60 * k)) q.1 q.2) (fu + 1) (nI n, m) = some (a, m') ∧ RLs s' m' := fun z1 z2 => by
          refine ⟨nI n, s, m, ?_, ?_, P, T, hP, hT, h1, h2⟩
          · unfold lp; rw [z1]
          · unfold lp; rw [z2]
        cases hw : wl a b c d with
        | false =>
          refine stop ?_ ?_
          · rw [SX, hw, if_pos (show bi false = (0 : Int32) from rfl)]
            by_cases q : (24 : Int32) ≤ nI (pn P)
            · rw [if_pos q]
            · rw [if_neg q]
          · rw [SM]
            unfold f_X10_add
            rw [m_isWell, hw, ob_e, if_pos (show bi false = (0 : Int32) from rfl), ob2_e, if_pos (by decide)]
        | true =>
          by_cases e : pn P < 24
          · obtain ⟨a', b', c', d', q1, q2, q3, q4, rfl, rfl, rfl, rfl⟩ := wl_of hw
            obtain ⟨s', z1, z2⟩ := x_append h1 hP e (b := b') (d := d') q1 q3
            obtain ⟨m', u1, u2⟩ := m_addN h2 hP e hw
            rw [hw, if_neg (show ¬ (24 : Int32) ≤ nI (pn P) from nI_ge (b := 24) e (by omega)), if_neg (show ¬ bi true = (0 : Int32) by decide), z1, ob_e] at SX
            rw [u1, ob2_e, if_neg (nI_nle (by omega) (by omega))] at SM
            obtain ⟨r, s'', m'', v1, v2, v3⟩ := ih (n + 1) fu _ s' m' (by omega) (by omega) (setq_ok hP (by omega) q1 q2 q3 q4) z2 u2
            refine ⟨r, s'', m'', ?_, ?_, v3⟩
            · unfold lp
              rw [SX]
              exact v1
            · unfold lp
              rw [SM]
              exact v2
          · have e24 : pn P = 24 := by omega
            refine stop ?_ ?_
            · rw [SX, e24, if_pos (by decide)]
            · rw [SM]
              unfold f_X10_add
              rw [m_isWell, hw, ob_e, if_neg (show ¬ bi true = (0 : Int32) by decide), h2.1.1, e24, if_pos (by decide), ob2_e, if_pos (by decide)]
theorem sim_read (x : Int32) : Sim (f_X9_read x) (f_X10_read x) := by
  intro s m ⟨P, T, hP, hT, h1, h2⟩
  unfold f_X9_read f_X10_read
  rw [x_isSheet, m_isSheet, ob_e, ob_e]
  cases hx : inr x 0 3 with
  | false =>
    rw [if_pos (show bi false = (0 : Int32) from rfl), if_pos (show bi false = (0 : Int32) from rfl)]
    exact ⟨-2, s, m, rfl, rfl, P, T, hP, hT, h1, h2⟩
  | true =>
    rw [if_neg (show ¬ bi true = (0 : Int32) by decide), if_neg (show ¬ bi true = (0 : Int32) by decide)]
    obtain ⟨k, hk, rfl⟩ := inr_of (b := 3) (by omega) hx
    have i1 : inb (nI k) 4 := inb_n (by omega) (by omega)
    rw [gu_t i1, gu_t i1, ix_n (by omega), x_isLost h1.2.2.2.2.2 hT (by omega), ob_e, (h2.2.1 k (by omega)).1]
    cases hf : tf T k with
    | none =>
      rw [if_neg (show ¬ bi (none : Option Nat).isNone = (0 : Int32) by decide), if_pos (show bi (none : Option Nat).isSome = (0 : Int32) from rfl)]
      exact fi_sim hP hT h1 h2 1
    | some f =>
      rw [if_pos (show bi (some f).isNone = (0 : Int32) from rfl), if_neg (show ¬ bi (some f).isSome = (0 : Int32) from (show ¬ bi true = (0 : Int32) by decide)), lb_e]
      obtain ⟨r, s', m', v1, v2, v3⟩ := read_sim hT (by omega) hf 16 0 FU P s m (by omega) (FU_gt (by omega)) hP h1 h2
      have e60 : (60 : Int32) * nI k = nI (60 * k) := pk_mul 60 k
      have v1' : lp (fun q : Int32 × Int32 × sh_S => f_X9_read_L35 (nI k) q.1 q.2.1 q.2.2) FU ((0 : Int32), (0 : Int32), s) = some (r, s') := v1
      have v2' : lp (fun q : Int32 × sh_S => f_X10_read_L32 (nI k) (nI (60 * k)) q.1 q.2) FU ((0 : Int32), m) = some (r, m') := v2
      rw [e60, v1', v2', ob2_e, ob2_e]
      exact ⟨r, s', m', rfl, rfl, v3⟩
