def hin (T : SH) (k f : Nat) (i : Int32) : Nat := if tf T k = none then 1 else if tf T k = some f then (if inr i 0 (nI (tz T k) - 1) = true then 0 else 2) else 3
theorem inr_sz {z : Nat} (hz : z ≤ 60) (i : Int32) : (inr i 0 (nI z - 1) = true) ↔ ∃ n, n < z ∧ i = nI n := by
  unfold inr
  rw [Bool.and_eq_true, Bool.not_eq_true', Bool.not_eq_true', decide_eq_false_iff_not, decide_eq_false_iff_not]
  constructor
  · intro ⟨h1, h2⟩
    obtain ⟨n, q1, q2⟩ := nI_of h1
    refine ⟨n, ?_, q2⟩
    rw [q2, i32_lt, nIm1_toInt (by omega), nI_toInt q1] at h2
    omega
  · rintro ⟨n, q1, rfl⟩
    refine ⟨nI_pos (by omega), ?_⟩
    rw [i32_lt, nIm1_toInt (by omega), nI_toInt (by omega)]
    omega
def nrw (f : Nat) (v : Int32) : Int32 := if f = 0 then v.toInt8.toInt32 else if f = 1 then v.toInt16.toInt32 else v
section IT
variable {P : Pg} {T : SH} {s m : sh_S}
theorem x_hind (h : XS T s) (hT : SOK T) {k f : Nat} (hk : k < 4) (hf : f < 3) (i : Int32) : f_X6_hindrance (nI f) i (rs [64 + 2 * k, 64 + 2 * k + 1] s) = some (nI (hin T k f i)) := by
  unfold f_X6_hindrance
  rw [x_isLost h hT hk, ob_e, rs_P0, (h.1 k hk).1]
  unfold hin
  cases hg : tf T k with
  | none => rw [if_neg (show ¬ bi (none : Option Nat).isNone = (0 : Int32) by decide), if_pos rfl]; rfl
  | some g =>
    have hg3 := hT.1 k g hg
    have hz := hT.2 k
    obtain ⟨h2, -⟩ := (h.1 k hk).2 (by rw [hg]; simp)
    rw [if_pos (show bi (some g).isNone = (0 : Int32) from rfl), if_neg (show ¬ (some g = none) by simp), h2, show oe (some g) = nI g from rfl]
    by_cases e : g = f
    · subst e
      rw [if_pos rfl, if_pos rfl]
      by_cases hi : inr i 0 (nI (tz T k) - 1) = true
      · obtain ⟨n, q1, rfl⟩ := (inr_sz hz i).mp hi
        rw [if_pos hi, if_neg (nI_pos (by omega)), if_pos (nI_lt q1 (by omega)), ob_e]; rfl
      · rw [if_neg hi]
        by_cases c1 : i < 0
        · rw [if_pos c1, ob_e]; rfl
        · rw [if_neg c1]
          obtain ⟨n, q1, rfl⟩ := nI_of c1
          rw [if_neg (nI_nlt (Classical.byContradiction fun q => hi ((inr_sz hz _).mpr ⟨n, by omega, rfl⟩)) q1), ob_e]; rfl
    · rw [if_neg (fun q => e ((nI_eq (by omega) (by omega)).mp q)), if_neg (fun q => e (Option.some.inj q))]; rfl
theorem m_lacks (h : MS T m) (hT : SOK T) {k f : Nat} (hk : k < 4) (hf : f < 3) (i : Int32) : f_X10_lacks (nI k) (nI f) i m = some (nI (hin T k f i)) := by
  have i1 : inb (nI k) 4 := inb_n (by omega) (by omega)
  obtain ⟨y1, y2⟩ := h.1 k hk
  unfold f_X10_lacks
  simp only [gu_t i1]
  rw [ix_n (by omega), y1]
  unfold hin
  cases hg : tf T k with
  | none => rw [if_pos (show bi (none : Option Nat).isSome = (0 : Int32) from rfl), if_pos rfl]; rfl
  | some g =>
    have hg3 := hT.1 k g hg
    obtain ⟨y3, y4, -⟩ := y2 g hg
    rw [if_neg (show ¬ bi (some g).isSome = (0 : Int32) from (show ¬ bi true = (0 : Int32) by decide)), if_neg (show ¬ (some g = none) by simp), y3, y4, m_inr, ob_e]
    by_cases e : g = f
    · subst e
      rw [if_pos rfl, if_pos rfl]
      cases hi : inr i 0 (nI (tz T k) - 1) with
      | true => rw [if_neg (show ¬ bi true = (0 : Int32) by decide), ob_e, if_pos rfl]; rfl
      | false => rw [if_pos (show bi false = (0 : Int32) from rfl), ob_e, if_neg (by decide)]; rfl
    · rw [if_neg (fun q => e ((nI_eq (by omega) (by omega)).mp q)), if_neg (fun q => e (Option.some.inj q)), ob_e]; rfl
theorem hin_0 {k f : Nat} {i : Int32} (hz : tz T k ≤ 60) (h : hin T k f i = 0) : tf T k = some f ∧ ∃ n, n < tz T k ∧ i = nI n := by
  unfold hin at h
  split at h
  · omega
  · split at h
    · rename_i e
      split at h
      · rename_i e2
        exact ⟨e, (inr_sz hz i).mp e2⟩
      · omega
    · omega
theorem hin_le (k f : Nat) (i : Int32) : hin T k f i ≤ 3 := by
  unfold hin
  split
  · omega
  · split
    · split <;> omega
    · omega
theorem x_enter (u : sh_S) {f j : Nat} (hf : f < 3) (hj : j < 60) (h : u 0 1 = nI f) (v : Int32) : f_X6_enter (nI j) v u = some (ur u 1 (upd (u 1) j (nrw f v))) := by
  have i1 : inb (nI j) 60 := inb_n hj (by omega)
  have z0 : (nI f = (0 : Int32)) = (f = 0) := nI_eqb (b := 0) (by omega) (by omega)
  have z1 : (nI f = (1 : Int32)) = (f = 1) := nI_eqb (b := 1) (by omega) (by omega)
  unfold f_X6_enter nrw
  rw [h, ix_n (by omega)]
  simp only [gu_t i1, lb_e, z0, z1]
  have hf3 : f = 0 ∨ f = 1 ∨ f = 2 := by omega
  rcases hf3 with rfl | rfl | rfl
  · rfl
  · rfl
  · rfl
theorem m_keep (h : MS T m) {k f j : Nat} (hk : k < 4) (hf : f < 3) (hg : tf T k = some f) (hj : j < 60) (v : Int32) : f_X10_keep (nI k) (nI j) v m = some (ur m 25 (upd (m 25) (60 * k + j) (nrw f v))) := by
  have i1 : inb (nI k) 4 := inb_n (by omega) (by omega)
  have z0 : (nI f = (0 : Int32)) = (f = 0) := nI_eqb (b := 0) (by omega) (by omega)
  have z1 : (nI f = (1 : Int32)) = (f = 1) := nI_eqb (b := 1) (by omega) (by omega)
  have e60 : (60 : Int32) * nI k + nI j = nI (60 * k + j) := by
    have : nI 60 * nI k = nI (60 * k) := pk_mul 60 k
    rw [← nI_add, ← this]; rfl
  obtain ⟨y3, -, -⟩ := (h.1 k hk).2 f hg
  unfold f_X10_keep nrw
  rw [e60]
  simp only [gu_t i1, gu_t (inb_n (show 60 * k + j < 240 by omega) (show 240 < 2 ^ 31 by omega)), lb_e]
  rw [ix_n (by omega), ix_n (by omega), y3]
  simp only [z0, z1]
  have hf3 : f = 0 ∨ f = 1 ∨ f = 2 := by omega
  rcases hf3 with rfl | rfl | rfl
  · rfl
  · rfl
  · rfl
def upI (T : SH) (k : Nat) (it : Nat → Int32) : SH := upS T k (tf T k) (tz T k) it
theorem upI_ok (h : SOK T) (k : Nat) (it : Nat → Int32) : SOK (upI T k it) := upS_ok h (fun x e => h.1 k x e) (h.2 k)
theorem XI_it (h : XI P T s) {k : Nat} (hk : k < 4) {it g : Nat → Int32} (hg : ∀ i, i < 60 → g i = it i) : XI P (upI T k it) (ur (ur s (64 + 2 * k + 1) g) (64 + 2 * k) (s (64 + 2 * k))) :=
  h.sh (fun j hj => by rw [ur_n _ _ (by omega), ur_n _ _ (by omega)]) (XS_up h.2.2.2.2.2 hk (h.2.2.2.2.2.1 k hk).1 (fun e => ⟨((h.2.2.2.2.2.1 k hk).2 e).1, hg⟩))
theorem MI_it (h : MI P T m) {k : Nat} (hk : k < 4) {it g : Nat → Int32} (hg : ∀ i, i < 60 → g (60 * k + i) = it i) (ho : ∀ j, j < 4 → j ≠ k → ∀ i, i < 60 → g (60 * j + i) = m 25 (60 * j + i)) : MI P (upI T k it) (ur m 25 g) := by
  obtain ⟨y1, y2⟩ := h.2.1 k hk
  refine ⟨h.1.sh (by rw [ur_n _ _ (by omega)]) (fun j j1 j2 => ur_n _ _ (by omega)), MS_up h.2 ?_ (fun x e => ?_) (fun j hj hjk => ?_) ?_⟩
  · rw [ur_n _ _ (by omega)]; exact y1
  · obtain ⟨y3, y4, y5⟩ := y2 x e
    exact ⟨by rw [ur_n _ _ (by omega)]; exact y3, by rw [ur_n _ _ (by omega)]; exact y4, fun i hi => by rw [ur_s]; exact hg i hi⟩
  · exact ⟨by rw [ur_n _ _ (by omega)], by rw [ur_n _ _ (by omega)], by rw [ur_n _ _ (by omega)], fun i hi => by rw [ur_s]; exact ho j hj hjk i hi⟩
  · rw [ur_n _ _ (by omega)]
theorem x_put (h : XI P T s) (hT : SOK T) {k f j : Nat} (hk : k < 4) (hf : tf T k = some f) (hj : j < 60) (v : Int32) : ∃ u, f_X6_enter (nI j) v (rs [64 + 2 * k, 64 + 2 * k + 1] s) = some u ∧ XI P (upI T k (upd (ti T k) j (nrw f v))) (mg [64 + 2 * k, 64 + 2 * k + 1] 0 s u) ∧ ∀ i, i < 64 → mg [64 + 2 * k, 64 + 2 * k + 1] 0 s u i = s i := by
  have hf3 := hT.1 k f hf
  obtain ⟨g1, g2⟩ := h.2.2.2.2.2.1 k hk
  refine ⟨_, x_enter _ hf3 hj (by rw [rs_P0, g1, hf]; rfl) v, ?_, fun i hi => ?_⟩
  · rw [mg_P, ur_s, ur_n _ _ (by omega), rs_P0, rs_P1]
    refine XI_it h hk (fun i hi => ?_)
    by_cases e : i = j
    · subst e; rw [upd_s, upd_s]
    · rw [upd_n _ _ e, upd_n _ _ e]; exact (g2 (by rw [hf]; simp)).2 i hi
  · rw [mg_P, ur_n _ _ (by omega), ur_n _ _ (by omega)]
theorem m_put (h : MI P T m) (hT : SOK T) {k f j : Nat} (hk : k < 4) (hf : tf T k = some f) (hj : j < 60) (v : Int32) : ∃ t, f_X10_keep (nI k) (nI j) v m = some t ∧ MI P (upI T k (upd (ti T k) j (nrw f v))) t ∧ ∀ i, i ≠ 25 → t i = m i := by
  have hf3 := hT.1 k f hf
  refine ⟨_, m_keep h.2 hk hf3 hf hj v, MI_it h hk (fun i hi => ?_) (fun j' hj' hne i hi => ?_), fun i hi => ur_n _ _ hi⟩
  · by_cases e : i = j
    · subst e; rw [upd_s, upd_s]
    · rw [upd_n _ _ e, upd_n _ _ (by omega)]; exact ((h.2.1 k hk).2 f hf).2.2 i hi
  · rw [upd_n _ _ (by omega)]
end IT
theorem sim_put (x y i v : Int32) : Sim (f_X9_put x y i v) (f_X10_put x y i v) := by
  intro s m ⟨P, T, hP, hT, h1, h2⟩
  unfold f_X9_put f_X10_put
  rw [x_isSheet, m_isSheet, x_isForm, m_inr, ob_e, ob_e, ob_e, ob_e]
  cases hx : inr x 0 3 with
  | false =>
    rw [if_pos (show bi false = (0 : Int32) from rfl), if_pos (show bi false = (0 : Int32) from rfl)]
    exact ⟨-2, s, m, rfl, rfl, P, T, hP, hT, h1, h2⟩
  | true =>
    rw [if_neg (show ¬ bi true = (0 : Int32) by decide), if_neg (show ¬ bi true = (0 : Int32) by decide)]
    cases hy : inr y 0 2 with
    | false =>
      rw [if_pos (show bi false = (0 : Int32) from rfl), if_pos (show bi false = (0 : Int32) from rfl)]
      exact ⟨-2, s, m, rfl, rfl, P, T, hP, hT, h1, h2⟩
    | true =>
      rw [if_neg (show ¬ bi true = (0 : Int32) by decide), if_neg (show ¬ bi true = (0 : Int32) by decide)]
      obtain ⟨k, hk, rfl⟩ := inr_of (b := 3) (by omega) hx
      obtain ⟨f, hf, rfl⟩ := inr_of (b := 2) (by omega) hy
      have i1 : inb (nI k) 4 := inb_n (by omega) (by omega)
      rw [gu_t i1, ix_n (by omega), x_hind h1.2.2.2.2.2 hT (by omega) (by omega), m_lacks h2.2 hT (by omega) (by omega), ob_e, ob_e]
      have hl := hin_le (T := T) k f i
      by_cases e : hin T k f i = 0
      · obtain ⟨e1, n, hn, rfl⟩ := hin_0 (hT.2 k) e
        have hz := hT.2 k
        obtain ⟨u, a1, a2, -⟩ := x_put h1 hT (by omega) e1 (j := n) (by omega) v
        obtain ⟨t, b1, b2, -⟩ := m_put h2 hT (k := k) (by omega) e1 (j := n) (by omega) v
        rw [e, if_pos (show nI 0 = (0 : Int32) from rfl), if_pos (show nI 0 ≤ (0 : Int32) by decide), gu_t i1, a1, ob_e, lb_e, b1, ob_e]
        exact ⟨1, _, _, rfl, rfl, P, _, hP, upI_ok hT k _, a2, b2⟩
      · rw [if_neg (nI_ne0 (by omega) (by omega)), if_neg (nI_nle (by omega) (by omega))]
        exact fi_sim hP hT h1 h2 _
theorem sim_get (x y i : Int32) : Sim (f_X9_get x y i) (f_X10_get x y i) := by
  intro s m ⟨P, T, hP, hT, h1, h2⟩
  unfold f_X9_get f_X10_get
  rw [x_isSheet, m_isSheet, x_isForm, m_inr, ob_e, ob_e, ob_e, ob_e]
  cases hx : inr x 0 3 with
  | false =>
    rw [if_pos (show bi false = (0 : Int32) from rfl), if_pos (show bi false = (0 : Int32) from rfl)]
    exact ⟨_, s, m, rfl, rfl, P, T, hP, hT, h1, h2⟩
  | true =>
    rw [if_neg (show ¬ bi true = (0 : Int32) by decide), if_neg (show ¬ bi true = (0 : Int32) by decide)]
    cases hy : inr y 0 2 with
    | false =>
      rw [if_pos (show bi false = (0 : Int32) from rfl), if_pos (show bi false = (0 : Int32) from rfl)]
      exact ⟨_, s, m, rfl, rfl, P, T, hP, hT, h1, h2⟩
    | true =>
      rw [if_neg (show ¬ bi true = (0 : Int32) by decide), if_neg (show ¬ bi true = (0 : Int32) by decide)]
      obtain ⟨k, hk, rfl⟩ := inr_of (b := 3) (by omega) hx
      obtain ⟨f, hf, rfl⟩ := inr_of (b := 2) (by omega) hy
      have i1 : inb (nI k) 4 := inb_n (by omega) (by omega)
      rw [gu_t i1, ix_n (by omega), x_hind h1.2.2.2.2.2 hT (by omega) (by omega), m_lacks h2.2 hT (by omega) (by omega), ob_e, ob_e]
      have hl := hin_le (T := T) k f i
      by_cases e : hin T k f i = 0
      · obtain ⟨e1, n, hn, rfl⟩ := hin_0 (hT.2 k) e
        have hz := hT.2 k
        have e60 : (60 : Int32) * nI k + nI n = nI (60 * k + n) := by
          have : nI 60 * nI k = nI (60 * k) := pk_mul 60 k
          rw [← nI_add, ← this]; rfl
        rw [e, if_pos (show nI 0 = (0 : Int32) from rfl), if_pos (show nI 0 ≤ (0 : Int32) by decide), gu_t i1, gu_t (inb_n (show n < 60 by omega) (by omega)), e60, gu_t (inb_n (show 60 * k + n < 240 by omega) (by omega)), ix_n (by omega), ix_n (by omega)]
        have g := ((h1.2.2.2.2.2.1 k (by omega)).2 (by rw [e1]; simp)).2 n (by omega)
        have y := ((h2.2.1 k (by omega)).2 f e1).2.2 n (by omega)
        rw [g, y]
        exact ⟨_, s, m, rfl, rfl, P, T, hP, hT, h1, h2⟩
      · rw [if_neg (nI_ne0 (by omega) (by omega)), if_neg (nI_nle (by omega) (by omega))]
        obtain ⟨-, a2⟩ := x_fi h1 (nI (hin T k f i))
        obtain ⟨-, b2⟩ := m_fi h2 (nI (hin T k f i))
        exact ⟨_, _, _, rfl, rfl, P, _, hP, upG_ok hT _, a2, b2⟩
