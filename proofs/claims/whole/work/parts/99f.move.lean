theorem ur_own {s : sh_S} {a b : Nat} (h : a ≠ b) (g : Nat → Int32) : ur (ur s b g) a (s a) = ur s b g := by
  have : ur s b g a = s a := ur_n _ _ h
  rw [← this, ur_id]
def rowok (z : Nat) (p q : Int32) : Bool := !decide (p < 0) && (!decide (q < 0) && (!decide (nI z < p) && !decide (nI z - p < q)))
theorem rowok_iff {z : Nat} (hz : z ≤ 60) {p q : Int32} : rowok z p q = true ↔ ∃ i n, i + n ≤ z ∧ p = nI i ∧ q = nI n := by
  unfold rowok
  simp only [Bool.and_eq_true, Bool.not_eq_true', decide_eq_false_iff_not]
  constructor
  · intro ⟨h1, h2, h3, h4⟩
    obtain ⟨i, a1, rfl⟩ := nI_of h1
    obtain ⟨n, b1, rfl⟩ := nI_of h2
    have hi : i ≤ z := Classical.byContradiction fun q => h3 (nI_lt (by omega) a1)
    rw [pk_sub hi] at h4
    have hn : n ≤ z - i := Classical.byContradiction fun q => h4 (nI_lt (by omega) b1)
    exact ⟨i, n, by omega, rfl, rfl⟩
  · rintro ⟨i, n, h, rfl, rfl⟩
    refine ⟨nI_pos (by omega), nI_pos (by omega), nI_nlt (by omega) (by omega), ?_⟩
    rw [pk_sub (by omega)]
    exact nI_nlt (by omega) (by omega)
section MO
variable {P : Pg} {T : SH} {s m : sh_S}
theorem x_hasRow (h : XS T s) {k : Nat} (hk : k < 4) (hf : tf T k ≠ none) (p q : Int32) : f_X6_hasRow p q (rs [64 + 2 * k, 64 + 2 * k + 1] s) = some (bi (rowok (tz T k) p q)) := by
  unfold f_X6_hasRow rowok
  rw [rs_P0, ((h.1 k hk).2 hf).1]
  by_cases c1 : p < 0
  · simp [c1, ob, gu, bi]
  · by_cases c2 : q < 0
    · simp [c1, c2, ob, gu, bi]
    · by_cases c3 : nI (tz T k) < p
      · simp [c1, c2, c3, ob, gu, bi]
      · by_cases c4 : nI (tz T k) - p < q
        · simp [c1, c2, c3, c4, ob, gu, bi]
        · simp [c1, c2, c3, c4, ob, gu, bi]
theorem m_cp1 {k i n : Nat} (hk : k < 4) (hi : i + n ≤ 60) (u : sh_S) : lp (fun q : Int32 × sh_S => f_X10_copy_L120 (nI k) (nI i) (nI n) q.1 q.2) FU ((0 : Int32), u) = some (ur u 26 (fun x => if x < n then u 25 (60 * k + i + x) else u 26 x)) := by
  have hh := lp_fn (body := fun q : Int32 × sh_S => f_X10_copy_L120 (nI k) (nI i) (nI n) q.1 q.2) (fun j (t : sh_S) => (nI j, t)) n (fun j => ur u 26 (fun x => if x < j then u 25 (60 * k + i + x) else u 26 x)) (ur u 26 (fun x => if x < n then u 25 (60 * k + i + x) else u 26 x))
    (fun j hj => by
      show f_X10_copy_L120 (nI k) (nI i) (nI n) (nI j) (ur u 26 (fun x => if x < j then u 25 (60 * k + i + x) else u 26 x)) = some (.inl (nI (j + 1), ur u 26 (fun x => if x < j + 1 then u 25 (60 * k + i + x) else u 26 x)))
      have e60 : (60 : Int32) * nI k + nI i + nI j = nI (60 * k + i + j) := by
        have : nI 60 * nI k = nI (60 * k) := pk_mul 60 k
        rw [← nI_add, ← nI_add, ← this]; rfl
      unfold f_X10_copy_L120
      rw [if_neg (nI_ge hj (by omega)), e60, gu_t (inb_n (show 60 * k + i + j < 240 by omega) (by omega)), gu_t (inb_n (show j < 60 by omega) (by omega)), lb_e, lb_e, ix_n (by omega), ix_n (by omega), nI_1, ur_ur, ur_s, ur_n _ _ (show 25 ≠ 26 by omega)]
      congr 4
      funext x
      by_cases e : x = j
      · subst e; rw [upd_s, if_pos (by omega)]
      · rw [upd_n _ _ e]
        by_cases e2 : x < j
        · rw [if_pos e2, if_pos (by omega)]
        · rw [if_neg e2, if_neg (by omega)])
    (by
      show f_X10_copy_L120 _ _ _ (nI n) _ = _
      unfold f_X10_copy_L120
      rw [if_pos (nI_le (Nat.le_refl _) (by omega))]) (FU_gt (by omega))
  have e0 : ur u 26 (fun x => if x < 0 then u 25 (60 * k + i + x) else u 26 x) = u := by
    have : (fun x => if x < 0 then u 25 (60 * k + i + x) else u 26 x) = u 26 := by funext x; rw [if_neg (by omega)]
    rw [this, ur_id]
  have hh' : lp (fun q : Int32 × sh_S => f_X10_copy_L120 (nI k) (nI i) (nI n) q.1 q.2) FU (nI 0, ur u 26 (fun x => if x < 0 then u 25 (60 * k + i + x) else u 26 x)) = _ := hh
  rw [e0] at hh'
  exact hh'
theorem m_cp2 {l j n : Nat} (hl : l < 4) (hj : j + n ≤ 60) (u : sh_S) : lp (fun q : Int32 × sh_S => f_X10_copy_L157 (nI l) (nI j) (nI n) q.1 q.2) FU ((0 : Int32), u) = some (ur u 25 (fun y => if 60 * l + j ≤ y ∧ y < 60 * l + j + n then u 26 (y - (60 * l + j)) else u 25 y)) := by
  have hh := lp_fn (body := fun q : Int32 × sh_S => f_X10_copy_L157 (nI l) (nI j) (nI n) q.1 q.2) (fun i (t : sh_S) => (nI i, t)) n (fun i => ur u 25 (fun y => if 60 * l + j ≤ y ∧ y < 60 * l + j + i then u 26 (y - (60 * l + j)) else u 25 y)) (ur u 25 (fun y => if 60 * l + j ≤ y ∧ y < 60 * l + j + n then u 26 (y - (60 * l + j)) else u 25 y))
    (fun i hi => by
      show f_X10_copy_L157 (nI l) (nI j) (nI n) (nI i) (ur u 25 (fun y => if 60 * l + j ≤ y ∧ y < 60 * l + j + i then u 26 (y - (60 * l + j)) else u 25 y)) = some (.inl (nI (i + 1), ur u 25 (fun y => if 60 * l + j ≤ y ∧ y < 60 * l + j + (i + 1) then u 26 (y - (60 * l + j)) else u 25 y)))
      have e60 : (60 : Int32) * nI l + nI j + nI i = nI (60 * l + j + i) := by
        have : nI 60 * nI l = nI (60 * l) := pk_mul 60 l
        rw [← nI_add, ← nI_add, ← this]; rfl
      unfold f_X10_copy_L157
      rw [if_neg (nI_ge hi (by omega)), e60, gu_t (inb_n (show i < 60 by omega) (by omega)), gu_t (inb_n (show 60 * l + j + i < 240 by omega) (by omega)), lb_e, lb_e, ix_n (by omega), ix_n (by omega), nI_1, ur_ur, ur_s, ur_n _ _ (show 26 ≠ 25 by omega)]
      congr 4
      funext x
      by_cases e : x = 60 * l + j + i
      · subst e
        rw [upd_s, if_pos (by omega)]
        congr 1; omega
      · rw [upd_n _ _ e]
        by_cases e2 : 60 * l + j ≤ x ∧ x < 60 * l + j + i
        · rw [if_pos e2, if_pos (by omega)]
        · rw [if_neg e2, if_neg (by omega)])
    (by
      show f_X10_copy_L157 _ _ _ (nI n) _ = _
      unfold f_X10_copy_L157
      rw [if_pos (nI_le (Nat.le_refl _) (by omega))]) (FU_gt (by omega))
  have e0 : ur u 25 (fun y => if 60 * l + j ≤ y ∧ y < 60 * l + j + 0 then u 26 (y - (60 * l + j)) else u 25 y) = u := by
    have : (fun y => if 60 * l + j ≤ y ∧ y < 60 * l + j + 0 then u 26 (y - (60 * l + j)) else u 25 y) = u 25 := by funext x; rw [if_neg (by omega)]
    rw [this, ur_id]
  have hh' : lp (fun q : Int32 × sh_S => f_X10_copy_L157 (nI l) (nI j) (nI n) q.1 q.2) FU (nI 0, ur u 25 (fun y => if 60 * l + j ≤ y ∧ y < 60 * l + j + 0 then u 26 (y - (60 * l + j)) else u 25 y)) = _ := hh
  rw [e0] at hh'
  exact hh'
theorem MI.x26 (h : MI P T m) (g : Nat → Int32) : MI P T (ur m 26 g) := ⟨h.1.sh (by rw [ur_n _ _ (by omega)]) (fun k k1 k2 => ur_n _ _ (by omega)), h.2.of (fun k k1 k2 => ur_n _ _ (by omega)) (by rw [ur_n _ _ (by omega)])⟩
end MO
theorem cmp_gt {i n z : Nat} (hi : i < 2 ^ 31) (hn : n < 2 ^ 31) (hz : z ≤ 60) : (0 < lg_cmp ((nI i).toInt64 + (nI n).toInt64) ((nI z).toInt64)) = (z < i + n) := by
  rw [nI_l hi, nI_l hn, nI_l (by omega), lN_add]
  exact propext ((lg_cmp_gt _ _).trans (pk_lLT (by omega) (by omega)))
theorem cmp_le {i n z : Nat} (hi : i < 2 ^ 31) (hn : n < 2 ^ 31) (hz : z ≤ 60) : (lg_cmp ((nI i).toInt64 + (nI n).toInt64) ((nI z).toInt64) ≤ 0) = (i + n ≤ z) := by
  rw [nI_l hi, nI_l hn, nI_l (by omega), lN_add]
  exact propext ((lg_cmp_le _ _).trans (pk_lLE (by omega) (by omega)))
theorem sim_copy (x p y q r : Int32) : Sim (f_X9_copy x p y q r) (f_X10_copy x p y q r) := by
  intro s m ⟨P, T, hP, hT, h1, h2⟩
  unfold f_X9_copy f_X10_copy
  rw [x_isSheet, m_isSheet, x_isSheet, m_isSheet, ob_e, ob_e, ob_e, ob_e]
  cases hx : inr x 0 3 with
  | false =>
    rw [if_pos (show bi false = (0 : Int32) from rfl), if_pos (show bi false = (0 : Int32) from rfl)]
    exact ⟨-2, s, m, rfl, rfl, P, T, hP, hT, h1, h2⟩
  | true =>
    rw [if_neg (show ¬ bi true = (0 : Int32) by decide), if_neg (show ¬ bi true = (0 : Int32) by decide)]
    cases hy : inr y 0 3 with
    | false =>
      rw [if_pos (show bi false = (0 : Int32) from rfl), if_pos (show bi false = (0 : Int32) from rfl)]
      exact ⟨-2, s, m, rfl, rfl, P, T, hP, hT, h1, h2⟩
    | true =>
      rw [if_neg (show ¬ bi true = (0 : Int32) by decide), if_neg (show ¬ bi true = (0 : Int32) by decide)]
      obtain ⟨k, hk, rfl⟩ := inr_of (b := 3) (by omega) hx
      obtain ⟨l, hl, rfl⟩ := inr_of (b := 3) (by omega) hy
      have i1 : inb (nI k) 4 := inb_n (by omega) (by omega)
      have i2 : inb (nI l) 4 := inb_n (by omega) (by omega)
      simp only [gu_t i1, gu_t i2, ix_n (show k < 2 ^ 31 by omega), ix_n (show l < 2 ^ 31 by omega)]
      rw [x_isLost h1.2.2.2.2.2 hT (k := k) (by omega), x_isLost h1.2.2.2.2.2 hT (k := l) (by omega), ob_e, ob_e, (h2.2.1 k (by omega)).1, (h2.2.1 l (by omega)).1]
      cases hf : tf T k with
      | none =>
        rw [if_neg (show ¬ bi (none : Option Nat).isNone = (0 : Int32) by decide), if_pos (show bi (none : Option Nat).isSome = (0 : Int32) from rfl)]
        exact fi_sim hP hT h1 h2 1
      | some f =>
        rw [if_pos (show bi (some f).isNone = (0 : Int32) from rfl), if_neg (show ¬ bi (some f).isSome = (0 : Int32) from (show ¬ bi true = (0 : Int32) by decide))]
        cases hg : tf T l with
        | none =>
          rw [if_neg (show ¬ bi (none : Option Nat).isNone = (0 : Int32) by decide), if_pos (show bi (none : Option Nat).isSome = (0 : Int32) from rfl)]
          exact fi_sim hP hT h1 h2 1
        | some g =>
          rw [if_pos (show bi (some g).isNone = (0 : Int32) from rfl), if_neg (show ¬ bi (some g).isSome = (0 : Int32) from (show ¬ bi true = (0 : Int32) by decide))]
          have hf3 := hT.1 k f hf
          have hg3 := hT.1 l g hg
          have hzk := hT.2 k
          have hzl := hT.2 l
          have nf : tf T k ≠ none := by rw [hf]; simp
          have ng : tf T l ≠ none := by rw [hg]; simp
          obtain ⟨a1, a2⟩ := h1.2.2.2.2.2.1 k (by omega)
          obtain ⟨b1, b2⟩ := h1.2.2.2.2.2.1 l (by omega)
          obtain ⟨c1, c2, c3⟩ := (h2.2.1 k (by omega)).2 f hf
          obtain ⟨d1, d2, d3⟩ := (h2.2.1 l (by omega)).2 g hg
          rw [a1, b1, c1, d1, c2, d2, hf, hg, show oe (some f) = nI f from rfl, show oe (some g) = nI g from rfl]
          by_cases e : f = g
          · rw [if_pos (by rw [e]), if_pos (by rw [e]), x_hasRow h1.2.2.2.2.2 (by omega) nf, x_hasRow h1.2.2.2.2.2 (by omega) ng, ob_e, ob_e]
            have F := fi_sim hP hT h1 h2 2
            have bad : ¬ (rowok (tz T k) p r = true ∧ rowok (tz T l) q r = true) → ∃ a s' m', (if bi (rowok (tz T k) p r) = 0 then ob2 (f_X9_finding (2 : Int32) s) (fun v10 s11 => some (v10, s11)) else (if bi (rowok (tz T l) q r) = 0 then ob2 (f_X9_finding (2 : Int32) s) (fun v15 s16 => some (v15, s16)) else gu ((¬ p < 0 ∧ ¬ q < 0 ∧ ¬ r < 0) ∧ ix p + ix r ≤ 60 ∧ ix q + ix r ≤ 60) (lb (ur s (64 + 2 * l + 1) (va_cpy (s (64 + 2 * k + 1)) (s (64 + 2 * l + 1)) (ix p) (ix q) (ix r))) (fun s14 => some ((1 : Int32), s14))))) = some (a, s') ∧ ob2 (f_X10_meets (2 : Int32) m) (fun v9 s10 => some (v9, s10)) = some (a, m') ∧ RLs s' m' := by
              intro hne
              cases z1 : rowok (tz T k) p r with
              | false => rw [if_pos (show bi false = (0 : Int32) from rfl)]; exact F
              | true =>
                rw [if_neg (show ¬ bi true = (0 : Int32) by decide)]
                cases z2 : rowok (tz T l) q r with
                | false => rw [if_pos (show bi false = (0 : Int32) from rfl)]; exact F
                | true => exact absurd ⟨z1, z2⟩ hne
            by_cases g1 : p < 0
            · rw [if_pos g1]
              exact bad (fun z => by simp [rowok, g1] at z)
            · rw [if_neg g1]
              by_cases g2 : q < 0
              · rw [if_pos g2]
                exact bad (fun z => by simp [rowok, g2] at z)
              · rw [if_neg g2]
                by_cases g3 : r < 0
                · rw [if_pos g3]
                  exact bad (fun z => by simp [rowok, g3] at z)
                · rw [if_neg g3]
                  obtain ⟨i, hi, rfl⟩ := nI_of g1
                  obtain ⟨j, hj, rfl⟩ := nI_of g2
                  obtain ⟨n, hn, rfl⟩ := nI_of g3
                  simp only [cmp_gt hi hn hzk, cmp_le hj hn hzl]
                  by_cases o1 : tz T k < i + n
                  · rw [if_pos o1]
                    exact bad (fun z => by
                      obtain ⟨i', n', w1, w2, w3⟩ := (rowok_iff hzk).mp z.1
                      have := (nI_eq hi (by omega)).mp w2
                      have := (nI_eq hn (by omega)).mp w3
                      omega)
                  · rw [if_neg o1]
                    by_cases o2 : j + n ≤ tz T l
                    · rw [if_pos o2, m_cp1 (by omega) (by omega), ob_e, m_cp2 (by omega) (by omega), ob_e, (rowok_iff hzk).mpr ⟨i, n, by omega, rfl, rfl⟩, (rowok_iff hzl).mpr ⟨j, n, o2, rfl, rfl⟩, if_neg (show ¬ bi true = (0 : Int32) by decide), if_neg (show ¬ bi true = (0 : Int32) by decide), gu_t ⟨⟨g1, g2, g3⟩, by rw [ix_n hi, ix_n hn]; omega, by rw [ix_n hj, ix_n hn]; omega⟩, lb_e, ix_n hi, ix_n hj, ix_n hn]
                      have w1 := XI_it h1 (k := l) (by omega) (it := fun x => if j ≤ x ∧ x < j + n then ti T k (i + (x - j)) else ti T l x) (g := va_cpy (s (64 + 2 * k + 1)) (s (64 + 2 * l + 1)) i j n) (fun x hx => by
                        show _ = (if j ≤ x ∧ x < j + n then ti T k (i + (x - j)) else ti T l x)
                        by_cases c : j ≤ x ∧ x < j + n
                        · rw [if_pos c, pk_cpy_in c.1 c.2]; exact (a2 nf).2 _ (by omega)
                        · rw [if_neg c, pk_cpy_out (by omega)]; exact (b2 ng).2 x hx)
                      rw [ur_own (by omega)] at w1
                      have w2 := MI_it (h2.x26 (fun x => if x < n then m 25 (60 * k + i + x) else m 26 x)) (k := l) (by omega) (it := fun x => if j ≤ x ∧ x < j + n then ti T k (i + (x - j)) else ti T l x) (g := fun y => if 60 * l + j ≤ y ∧ y < 60 * l + j + n then ur m 26 (fun x => if x < n then m 25 (60 * k + i + x) else m 26 x) 26 (y - (60 * l + j)) else ur m 26 (fun x => if x < n then m 25 (60 * k + i + x) else m 26 x) 25 y) (fun x hx => by
                        show (if 60 * l + j ≤ 60 * l + x ∧ 60 * l + x < 60 * l + j + n then _ else _) = (if j ≤ x ∧ x < j + n then ti T k (i + (x - j)) else ti T l x)
                        by_cases c : j ≤ x ∧ x < j + n
                        · rw [if_pos c, if_pos (by omega), ur_s]
                          show (if 60 * l + x - (60 * l + j) < n then _ else _) = _
                          rw [if_pos (by omega), ← c3 _ (show i + (x - j) < 60 by omega)]
                          congr 1; omega
                        · rw [if_neg c, if_neg (by omega), ur_n _ _ (by omega)]; exact d3 x hx) (fun j' hj' hne x hx => by
                        show (if 60 * l + j ≤ 60 * j' + x ∧ 60 * j' + x < 60 * l + j + n then _ else _) = _
                        rw [if_neg (by omega)])
                      exact ⟨1, _, _, rfl, rfl, P, _, hP, upI_ok hT l _, w1, w2⟩
                    · rw [if_neg o2]
                      exact bad (fun z => by
                        obtain ⟨i', n', w1, w2, w3⟩ := (rowok_iff hzl).mp z.2
                        have := (nI_eq hj (by omega)).mp w2
                        have := (nI_eq hn (by omega)).mp w3
                        omega)
          · rw [if_neg (fun z => e ((nI_eq (by omega) (by omega)).mp z)), if_neg (fun z => e ((nI_eq (by omega) (by omega)).mp z))]
            exact fi_sim hP hT h1 h2 4
