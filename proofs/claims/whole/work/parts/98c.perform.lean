def wke (A : RS) (q : Option Nat) : RS := match q with
  | none => A
  | some k => if qK A k = 5 ∧ qA A k = false then (qN A, A.2.1, qS (tch A (qV A k) (qP A k) true (some k)), fun r => if r = k then true else qA A r, qH A) else A
theorem wke_1 (A : RS) (q : Option Nat) : qN (wke A q) = qN A ∧ (wke A q).2.1 = A.2.1 ∧ qH (wke A q) = qH A := by
  cases q with
  | none => exact ⟨rfl, rfl, rfl⟩
  | some k =>
    unfold wke
    by_cases e : qK A k = 5 ∧ qA A k = false
    · simp only [if_pos e]; exact ⟨trivial, trivial, trivial⟩
    · simp only [if_neg e]; exact ⟨trivial, trivial, trivial⟩
theorem RK.of {A B : RS} (h : RK A) (h1 : qN B = qN A) (h2 : B.2.1 = A.2.1) (h3 : ∀ x q, qH B x = some q → q < qN A) : RK B := by
  refine ⟨fun r => ?_, fun k q e => ?_, fun r q e => ?_, fun x q e => ?_⟩
  · have := h.1 r
    simp only [qK, qV, qP, h2]; exact this
  · have e' : qF A k = some q := by simp only [qF, h2] at e; exact e
    exact h.2.1 k q e'
  · have e' : qF A r = some q := by simp only [qF, h2] at e; exact e
    rw [h1]; exact h.2.2.1 r q e'
  · rw [h1]; exact h3 x q e
theorem wke_RK {A : RS} (h : RK A) (q : Option Nat) : RK (wke A q) := h.of (wke_1 A q).1 (wke_1 A q).2.1 (fun x k e => by rw [(wke_1 A q).2.2] at e; exact h.2.2.2 x k e)
def spv (P : Pg) (A : RS) (k : Nat) (q : Option Nat) : Nat := match q with
  | none => pv P k
  | some r => qV A r
def spp (P : Pg) (A : RS) (k : Nat) (q : Option Nat) : Nat := match q with
  | none => pp P k % 6 % 3
  | some r => if qP A r = 0 then pp P k % 6 - 3 else qP A r
theorem spv_lt {P : Pg} {A : RS} (ho : pOK P) (h : RK A) (k : Nat) (q : Option Nat) : spv P A k q < 8 := by
  cases q with
  | none => exact pv_lt ho k
  | some r => exact (h.1 r).2.1
theorem spp_lt {P : Pg} {A : RS} (h : RK A) (k : Nat) (q : Option Nat) : spp P A k q < 3 := by
  cases q with
  | none => exact Nat.mod_lt _ (by omega)
  | some r =>
    have := (h.1 r).2.2
    show (if qP A r = 0 then pp P k % 6 - 3 else qP A r) < 3
    split <;> omega
def acs (A : RS) (a v p : Nat) (q : Option Nat) (u : Nat) : RS := if 1 ≤ a ∧ a ≤ 5 then tch A v p (decide (a = 2) || decide (a = 4)) q else if a = 6 then tch A u 0 true none else A
def wrs (A : RS) (l : Bool) (a x : Nat) : RS := if l = true ∨ a = 6 then tch A x 0 true none else A
def sth (A : RS) (x : Nat) (q : Option Nat) : RS := (qN A, A.2.1, qS A, qA A, fun y => if y = x then q else qH A y)
def mke (A : RS) (x a v p : Nat) (q : Option Nat) : RS := (qN A + 1, fun r => if r = qN A then (a, v, p, q) else A.2.1 r, fun r => if r = qN A then false else qS A r, fun r => if r = qN A then false else qA A r, fun y => if y = x then some (qN A) else qH A y)
def asg (A : RS) (l : Bool) (a v p : Nat) (q : Option Nat) (u x : Nat) : RS := if l = true then mke A x a v p q else if a = 2 ∧ q = none then sth A u none else if a = 6 ∧ u ≠ x then sth (sth A x (qH A u)) u none else A
theorem acs_1 (A : RS) (a v p : Nat) (q : Option Nat) (u : Nat) : qN (acs A a v p q u) = qN A ∧ (acs A a v p q u).2.1 = A.2.1 ∧ qH (acs A a v p q u) = qH A := by
  unfold acs
  split
  · exact ⟨rfl, rfl, rfl⟩
  · split <;> exact ⟨rfl, rfl, rfl⟩
theorem wrs_1 (A : RS) (l : Bool) (a x : Nat) : qN (wrs A l a x) = qN A ∧ (wrs A l a x).2.1 = A.2.1 ∧ qH (wrs A l a x) = qH A := by
  unfold wrs
  split <;> exact ⟨rfl, rfl, rfl⟩
theorem acs_RK {A : RS} (h : RK A) (a v p : Nat) (q : Option Nat) (u : Nat) : RK (acs A a v p q u) := h.of (acs_1 A a v p q u).1 (acs_1 A a v p q u).2.1 (fun x k e => by rw [(acs_1 A a v p q u).2.2] at e; exact h.2.2.2 x k e)
theorem wrs_RK {A : RS} (h : RK A) (l : Bool) (a x : Nat) : RK (wrs A l a x) := h.of (wrs_1 A l a x).1 (wrs_1 A l a x).2.1 (fun y k e => by rw [(wrs_1 A l a x).2.2] at e; exact h.2.2.2 y k e)
theorem sth_RK {A : RS} (h : RK A) (x : Nat) {q : Option Nat} (hq : ∀ k, q = some k → k < qN A) : RK (sth A x q) := h.of rfl rfl (fun y k e => by
  have e' : (if y = x then q else qH A y) = some k := e
  by_cases c : y = x
  · rw [if_pos c] at e'; exact hq k e'
  · rw [if_neg c] at e'; exact h.2.2.2 y k e')
theorem mke_RK {A : RS} (h : RK A) (x : Nat) {a v p : Nat} {q : Option Nat} (ha : a < 10) (hv : v < 8) (hp : p < 3) (hq : ∀ k, q = some k → k < qN A) : RK (mke A x a v p q) := by
  have e1 : ∀ r, (mke A x a v p q).2.1 r = if r = qN A then (a, v, p, q) else A.2.1 r := fun _ => rfl
  refine ⟨fun r => ?_, fun k j e => ?_, fun r j e => ?_, fun y j e => ?_⟩
  · simp only [qK, qV, qP, e1]
    by_cases c : r = qN A
    · simp only [if_pos c]; exact ⟨ha, hv, hp⟩
    · simp only [if_neg c]; exact h.1 r
  · simp only [qF, e1] at e
    by_cases c : k = qN A
    · rw [if_pos c] at e; rw [c]; exact hq j e
    · rw [if_neg c] at e; exact h.2.1 k j e
  · simp only [qF, e1] at e
    show r < qN A + 1
    by_cases c : r = qN A
    · omega
    · rw [if_neg c] at e; have := h.2.2.1 r j e; omega
  · have e' : (if y = x then some (qN A) else qH A y) = some j := e
    show j < qN A + 1
    by_cases c : y = x
    · rw [if_pos c] at e'; cases e'; omega
    · rw [if_neg c] at e'; have := h.2.2.2 y j e'; omega
theorem asg_RK {A : RS} (h : RK A) (l : Bool) {a v p u x : Nat} {q : Option Nat} (ha : a < 10) (hv : v < 8) (hp : p < 3) (hq : ∀ k, q = some k → k < qN A) : RK (asg A l a v p q u x) := by
  unfold asg
  split
  · exact mke_RK h x ha hv hp hq
  · split
    · exact sth_RK h u (fun k e => by cases e)
    · split
      · exact sth_RK (sth_RK h x (fun k e => h.2.2.2 u k e)) u (fun k e => by cases e)
      · exact h
theorem asg_n (A : RS) (l : Bool) (a v p u x : Nat) (q : Option Nat) : qN (asg A l a v p q u x) ≤ qN A + 1 := by
  unfold asg
  split
  · exact Nat.le_refl _
  · split
    · exact Nat.le_succ _
    · split
      · exact Nat.le_succ _
      · exact Nat.le_succ _
def byq (P : Pg) (A : RS) (k : Nat) : Option Nat := if gt P k = true then qH A (pv P k) else none
def prf (P : Pg) (A : RS) (k : Nat) : RS := asg (wrs (acs (wke A (byq P A k)) (ak P k) (spv P A k (byq P A k)) (spp P A k (byq P A k)) (byq P A k) (pv P k)) (lnd P k) (ak P k) (px P k)) (lnd P k) (ak P k) (spv P A k (byq P A k)) (spp P A k (byq P A k)) (byq P A k) (pv P k) (px P k)
theorem byq_lt {P : Pg} {A : RS} (h : RK A) {k j : Nat} (e : byq P A k = some j) : j < qN A := by
  unfold byq at e
  split at e
  · exact h.2.2.2 _ _ e
  · cases e
theorem prf_RK {P : Pg} {A : RS} (ho : pOK P) (h : RK A) (k : Nat) : RK (prf P A k) ∧ qN (prf P A k) ≤ qN A + 1 := by
  unfold prf
  have h1 := wke_RK h (byq P A k)
  have h2 := acs_RK h1 (ak P k) (spv P A k (byq P A k)) (spp P A k (byq P A k)) (byq P A k) (pv P k)
  have h3 := wrs_RK h2 (lnd P k) (ak P k) (px P k)
  have n3 : qN (wrs (acs (wke A (byq P A k)) (ak P k) (spv P A k (byq P A k)) (spp P A k (byq P A k)) (byq P A k) (pv P k)) (lnd P k) (ak P k) (px P k)) = qN A := by rw [(wrs_1 _ _ _ _).1, (acs_1 _ _ _ _ _ _).1, (wke_1 _ _).1]
  refine ⟨asg_RK h3 _ (ak_lt ho k) (spv_lt ho h k _) (spp_lt h k _) (fun j e => by rw [n3]; exact byq_lt h e), ?_⟩
  have := asg_n (wrs (acs (wke A (byq P A k)) (ak P k) (spv P A k (byq P A k)) (spp P A k (byq P A k)) (byq P A k) (pv P k)) (lnd P k) (ak P k) (px P k)) (lnd P k) (ak P k) (spv P A k (byq P A k)) (spp P A k (byq P A k)) (pv P k) (px P k) (byq P A k)
  rw [n3] at this
  exact this
section PF
variable {P : Pg} {A : RS} {c : Nat} {s : sh_S}
theorem mul3 (u : Nat) : nI u * (3 : Int32) = nI (3 * u + 0) := by
  have : nI u * nI 3 = nI (u * 3) := pk_mul u 3
  rw [show 3 * u + 0 = u * 3 by omega]; exact this
theorem x_wake (hA : RK A) (hn : qN A ≤ 300) (h : XW A c s) (hc : c < 4000) {q : Option Nat} (hq : ∀ k, q = some k → k < qN A) : ∃ s' c', (if oe q = (-1 : Int32) then some s else gu (inb (oe q) 300) ((if (s 57 (ix (oe q))) = (5 : Int32) then gu (inb (oe q) 300) ((if (s 61 (ix (oe q))) = 0 then gu (inb (oe q) 300) (ob (f_X8_touch (s 58 (ix (oe q))) (1 : Int32) (oe q) s) (fun s16 => gu (inb (oe q) 300) (lb (ur s16 61 (upd (s16 61) (ix (oe q)) (nz (1 : Int32)))) (fun s18 => some s18)))) else some s)) else some s))) = some s' ∧ XW (wke A q) c' s' ∧ c' ≤ c + 1 ∧ Wx s s' := by
  cases q with
  | none => exact ⟨s, c, by rw [if_pos (show oe none = (-1 : Int32) from rfl)], h, by omega, Wx.rf⟩
  | some k =>
    have hk := hq k rfl
    obtain ⟨h1, h2, h3, h4, h5, h6⟩ := h.2.2.1 k hk
    have i1 : inb (nI k) 300 := inb_n (by omega) (by omega)
    show ∃ s' c', (if nI k = (-1 : Int32) then some s else gu (inb (nI k) 300) ((if (s 57 (ix (nI k))) = (5 : Int32) then gu (inb (nI k) 300) ((if (s 61 (ix (nI k))) = 0 then gu (inb (nI k) 300) (ob (f_X8_touch (s 58 (ix (nI k))) (1 : Int32) (nI k) s) (fun s16 => gu (inb (nI k) 300) (lb (ur s16 61 (upd (s16 61) (ix (nI k)) (nz (1 : Int32)))) (fun s18 => some s18)))) else some s)) else some s))) = some s' ∧ _
    obtain ⟨t, a1, a2, a3⟩ := x_touch hA hn h (by omega) (hA.1 k).2.1 (hA.1 k).2.2 true (q := some k) hq
    have a1' : f_X8_touch (nI (3 * qV A k + qP A k)) (1 : Int32) (nI k) s = some t := a1
    rw [if_neg (neg1 (by omega)), gu_t i1, gu_t i1, gu_t i1, ix_n (by omega), h1, h2, h5, a1', ob_e, gu_t i1, lb_e]
    simp only [c5 (hA.1 k).1]
    by_cases e : qK A k = 5
    · rw [if_pos e]
      cases hw : qA A k with
      | true =>
        have ew : wke A (some k) = A := by
          show (if qK A k = 5 ∧ qA A k = false then _ else A) = A
          rw [if_neg (by rw [hw]; simp)]
        rw [if_neg (show ¬ bi true = (0 : Int32) by decide), ew]
        exact ⟨s, c, rfl, h, by omega, Wx.rf⟩
      | false =>
        have ew : wke A (some k) = (qN A, A.2.1, qS (tch A (qV A k) (qP A k) true (some k)), fun r => if r = k then true else qA A r, qH A) := by
          show (if qK A k = 5 ∧ qA A k = false then _ else A) = _
          rw [if_pos ⟨e, hw⟩]
        rw [if_pos (show bi false = (0 : Int32) from rfl), ew]
        refine ⟨_, c + 1, rfl, ⟨?_, ?_, fun r hr => ?_, fun x hx => ?_⟩, Nat.le_refl _, fun j hj => ?_, fun j x y => ?_⟩
        · rw [ur_n _ _ (by omega)]; exact a2.1
        · rw [ur_n _ _ (by omega)]; exact a2.2.1
        · obtain ⟨g1, g2, g3, g4, g5, d, g6, g7⟩ := a2.2.2.1 r hr
          refine ⟨by rw [ur_n _ _ (by omega)]; exact g1, by rw [ur_n _ _ (by omega)]; exact g2, by rw [ur_n _ _ (by omega)]; exact g3, by rw [ur_n _ _ (by omega)]; exact g4, ?_, d, g6, by rw [ur_n _ _ (by omega)]; exact g7⟩
          rw [ur_s]
          show upd (t 61) k (nz 1) r = bi (if r = k then true else qA A r)
          by_cases c1 : r = k
          · subst c1; rw [upd_s, if_pos rfl]; decide
          · rw [upd_n _ _ c1, if_neg c1]; exact g5
        · rw [ur_n _ _ (by omega)]; exact a2.2.2.2 x hx
        · rw [ur_n _ _ (by omega)]; exact a3.1 j hj
        · rw [ur_n _ _ (by omega)]; exact a3.2 j x y
    · have ew : wke A (some k) = A := by
        show (if qK A k = 5 ∧ qA A k = false then _ else A) = A
        rw [if_neg (fun z => e z.1)]
      rw [if_neg e, ew]
      exact ⟨s, c, rfl, h, by omega, Wx.rf⟩
theorem x_spotOf (hX : LX P s) (ho : pOK P) (hA : RK A) (hn : qN A ≤ 300) {k : Nat} (hk : k < 24) {B : RS} (hB : B.2.1 = A.2.1 ∧ qN B = qN A) (h : XW B c s) {q : Option Nat} (hq : ∀ k, q = some k → k < qN A) (hg : ∀ r, q = some r → 3 ≤ pp P k % 6) : f_X8_spotOf (nI k) (oe q) s = some (nI (3 * spv P A k q + spp P A k q)) := by
  obtain ⟨g1, g2, g3, g4, g5, g6, g7, g8, g9⟩ := hX.2 k hk
  have i1 : inb (nI k) 24 := inb_n hk (by omega)
  have hp := pv_lt ho k
  unfold f_X8_spotOf
  rw [gu_t i1, lb_e, ix_n (by omega), g7]
  cases q with
  | none =>
    rw [if_pos (show oe none = (-1 : Int32) from rfl), gu_t i1, g6, mul3]
    have : nI (pp P k % 6) - nI (pp P k % 6) / 3 * 3 = nI (pp P k % 6 % 3) := pk_rem (d := 3) (by omega) (by omega) (by omega)
    rw [this, nI_add]
    rfl
  | some r =>
    have hr := hq r rfl
    have h3 := hg r rfl
    obtain ⟨h1, h2, -⟩ := h.2.2.1 r (by rw [hB.2]; exact hr)
    have h2' : s 58 r = nI (3 * qV A r + qP A r) := by rw [h2]; simp only [qV, qP, hB.1]
    have i2 : inb (nI r) 300 := inb_n (by omega) (by omega)
    have hr3 := (hA.1 r).2.2
    have hv8 := (hA.1 r).2.1
    show (if nI r = (-1 : Int32) then _ else gu (inb (nI r) 300) (lb ((s 58 (ix (nI r)))) (fun v4 => ob (if (v4 - v4 / (3 : Int32) * (3 : Int32)) = 0 then some (1 : Int32) else some (0 : Int32)) (fun v5 => ob (if v5 = 0 then gu (inb (nI r) 300) (some (s 58 (ix (nI r)))) else gu (inb (nI r) 300) (some (((s 58 (ix (nI r))) + nI (pp P k % 6)) - (3 : Int32)))) (fun v6 => some v6))))) = _
    rw [if_neg (neg1 (by omega)), gu_t i2, gu_t i2, gu_t i2, lb_e, ix_n (by omega), h2']
    have e1 : nI (3 * qV A r + qP A r) - nI (3 * qV A r + qP A r) / 3 * 3 = nI ((3 * qV A r + qP A r) % 3) := pk_rem (d := 3) (by omega) (by omega) (by omega)
    rw [e1, show (3 * qV A r + qP A r) % 3 = qP A r by omega]
    have e0 : (nI (qP A r) = (0 : Int32)) = (qP A r = 0) := nI_eqb (b := 0) (by omega) (by omega)
    simp only [e0]
    show _ = some (nI (3 * qV A r + (if qP A r = 0 then pp P k % 6 - 3 else qP A r)))
    by_cases e : qP A r = 0
    · have e3 : nI (3 * qV A r + qP A r) + nI (pp P k % 6) - (3 : Int32) = nI (3 * qV A r + (pp P k % 6 - 3)) := by
        rw [nI_add]
        have : nI (3 * qV A r + qP A r + pp P k % 6) - nI 3 = nI (3 * qV A r + qP A r + pp P k % 6 - 3) := pk_sub (by omega)
        rw [show 3 * qV A r + (pp P k % 6 - 3) = 3 * qV A r + qP A r + pp P k % 6 - 3 by omega]
        exact this
      rw [if_pos e, if_pos e, ob_e, if_neg (by decide), e3, ob_e]
    · rw [if_neg e, if_neg e, ob_e, if_pos rfl, ob_e]
theorem x_acs (hA : RK A) (hn : qN A ≤ 300) (h : XW A c s) (hc : c < 4000) {a v p u : Nat} (ha : a < 10) (hv : v < 8) (hp : p < 3) (hu : u < 8) {q : Option Nat} (hq : ∀ k, q = some k → k < qN A) : ∃ s' c', (if nI a = (1 : Int32) then ob (f_X8_touch (nI (3 * v + p)) (0 : Int32) (oe q) s) (fun s21 => some s21) else (if nI a = (3 : Int32) then ob (f_X8_touch (nI (3 * v + p)) (0 : Int32) (oe q) s) (fun s22 => some s22) else (if nI a = (5 : Int32) then ob (f_X8_touch (nI (3 * v + p)) (0 : Int32) (oe q) s) (fun s26 => some s26) else (if nI a = (2 : Int32) then ob (f_X8_touch (nI (3 * v + p)) (1 : Int32) (oe q) s) (fun s23 => some s23) else (if nI a = (4 : Int32) then ob (f_X8_touch (nI (3 * v + p)) (1 : Int32) (oe q) s) (fun s25 => some s25) else (if nI a = (6 : Int32) then ob (f_X8_touch (nI u * (3 : Int32)) (1 : Int32) (-1 : Int32) s) (fun s24 => some s24) else some s)))))) = some s' ∧ XW (acs A a v p q u) c' s' ∧ c' ≤ c + 1 ∧ Wx s s' := by
  obtain ⟨t0, a1, a2, a3⟩ := x_touch hA hn h (by omega) hv hp false hq
  obtain ⟨t1, b1, b2, b3⟩ := x_touch hA hn h (by omega) hv hp true hq
  obtain ⟨t2, d1, d2, d3⟩ := x_touch hA hn h (by omega) hu (show 0 < 3 by omega) true (q := none) (fun k e => by cases e)
  have a1' : f_X8_touch (nI (3 * v + p)) (0 : Int32) (oe q) s = some t0 := a1
  have b1' : f_X8_touch (nI (3 * v + p)) (1 : Int32) (oe q) s = some t1 := b1
  have d1' : f_X8_touch (nI (3 * u + 0)) (1 : Int32) (-1 : Int32) s = some t2 := d1
  rw [mul3, a1', b1', d1', ob_e, ob_e, ob_e]
  simp only [c1 ha, c2 ha, c3 ha, c4 ha, c5 ha, c6 ha]
  unfold acs
  rcases lt10 ha with rfl | rfl | rfl | rfl | rfl | rfl | rfl | rfl | rfl | rfl
  · exact ⟨s, c, rfl, h, by omega, Wx.rf⟩
  · exact ⟨t0, c + 1, rfl, a2, by omega, a3⟩
  · exact ⟨t1, c + 1, rfl, b2, by omega, b3⟩
  · exact ⟨t0, c + 1, rfl, a2, by omega, a3⟩
  · exact ⟨t1, c + 1, rfl, b2, by omega, b3⟩
  · exact ⟨t0, c + 1, rfl, a2, by omega, a3⟩
  · exact ⟨t2, c + 1, rfl, d2, by omega, d3⟩
  · exact ⟨s, c, rfl, h, by omega, Wx.rf⟩
  · exact ⟨s, c, rfl, h, by omega, Wx.rf⟩
  · exact ⟨s, c, rfl, h, by omega, Wx.rf⟩
theorem x_wrs (hA : RK A) (hn : qN A ≤ 300) (h : XW A c s) (hc : c < 4000) (l : Bool) {a x : Nat} (ha : a < 10) (hx : x < 8) : ∃ s' c', (if bi l = 0 then (if nI a = (6 : Int32) then ob (f_X8_touch (nI x * (3 : Int32)) (1 : Int32) (-1 : Int32) s) (fun s29 => some s29) else some s) else ob (f_X8_touch (nI x * (3 : Int32)) (1 : Int32) (-1 : Int32) s) (fun s28 => some s28)) = some s' ∧ XW (wrs A l a x) c' s' ∧ c' ≤ c + 1 ∧ Wx s s' := by
  obtain ⟨t2, d1, d2, d3⟩ := x_touch hA hn h (by omega) hx (show 0 < 3 by omega) true (q := none) (fun k e => by cases e)
  have d1' : f_X8_touch (nI (3 * x + 0)) (1 : Int32) (-1 : Int32) s = some t2 := d1
  rw [mul3, d1', ob_e]
  simp only [c6 ha]
  unfold wrs
  cases l with
  | true =>
    rw [if_neg (show ¬ bi true = (0 : Int32) by decide), if_pos (Or.inl rfl)]
    exact ⟨t2, c + 1, rfl, d2, by omega, d3⟩
  | false =>
    rw [if_pos (show bi false = (0 : Int32) from rfl)]
    by_cases e : a = 6
    · rw [if_pos e, if_pos (Or.inr e)]
      exact ⟨t2, c + 1, rfl, d2, by omega, d3⟩
    · rw [if_neg e, if_neg (fun z => z.elim (fun y => by cases y) e)]
      exact ⟨s, c, rfl, h, by omega, Wx.rf⟩
theorem XW_63 (h : XW A c s) {x : Nat} {q : Option Nat} : XW (sth A x q) c (ur s 63 (upd (s 63) x (oe q))) := by
  refine ⟨by rw [ur_n _ _ (by omega)]; exact h.1, by rw [ur_n _ _ (by omega)]; exact h.2.1, fun r hr => ?_, fun y hy => ?_⟩
  · rw [ur_n _ _ (by omega), ur_n _ _ (by omega), ur_n _ _ (by omega), ur_n _ _ (by omega), ur_n _ _ (by omega), ur_n _ _ (by omega)]
    exact h.2.2.1 r hr
  · rw [ur_s]
    show _ = oe (if y = x then q else qH A y)
    by_cases e : y = x
    · subst e; rw [upd_s, if_pos rfl]
    · rw [upd_n _ _ e, if_neg e]; exact h.2.2.2 y hy
theorem x_make (h : XW A c s) (hn : qN A < 300) (a v p : Nat) (q : Option Nat) {x : Nat} (hx : x < 8) : ∃ s', ob2 (f_X8_make (nI a) (nI (3 * v + p)) (oe q) s) (fun v39 s40 => gu (inb (nI x) 8) (lb (ur s40 63 (upd (s40 63) (ix (nI x)) v39)) (fun s42 => some s42))) = some s' ∧ XW (mke A x a v p q) c s' ∧ Wx s s' := by
  have i1 : inb (nI (qN A)) 300 := inb_n hn (by omega)
  unfold f_X8_make
  rw [h.1, if_pos (show nI (qN A) < (300 : Int32) from nI_lt (b := 300) hn (by omega)), lb_e, lb_e, gu_t i1, lb_e, gu_t i1, lb_e, gu_t i1, lb_e, gu_t i1, lb_e, gu_t i1, lb_e, gu_t i1, lb_e, ob2_e, gu_t (inb_n hx (by omega)), lb_e, ix_n (by omega), ix_n (by omega), nI_1]
  refine ⟨_, rfl, ⟨?_, ?_, fun r hr => ?_, fun y hy => ?_⟩, fun k hk => ?_, fun j h7 h8 => ?_⟩
  · simp [ur, upd]; rfl
  · simp [ur, upd]; exact h.2.1
  · have hz : nz 0 = bi false := by decide
    by_cases e : r = qN A
    · subst e
      simp [ur, upd, mke, qK, qV, qP, qF, qS, qA, hz]
      exact ⟨0, by omega, rfl⟩
    · have hr' : r < qN A := by
        have : r < qN A + 1 := hr
        omega
      obtain ⟨g1, g2, g3, g4, g5, g6⟩ := h.2.2.1 r hr'
      have e' : ¬ r = A.1 := e
      simp [ur, upd, mke, qK, qV, qP, qF, qS, qA, e']
      exact ⟨g1, g2, g3, g4, g5, g6⟩
  · by_cases e : y = x
    · subst e
      simp [ur, upd, mke, qH]; rfl
    · simp [ur, upd, mke, qH, e]
      exact h.2.2.2 y hy
  · have : k ≠ 63 ∧ k ≠ 62 ∧ k ≠ 61 ∧ k ≠ 60 ∧ k ≠ 59 ∧ k ≠ 58 ∧ k ≠ 57 ∧ k ≠ 56 := by omega
    simp [ur, this]
  · simp [ur, upd, h7]
theorem x_asg (hA : RK A) (hn : qN A < 300) (h : XW A c s) (l : Bool) {a v p u x : Nat} (ha : a < 10) (hu : u < 8) (hx : x < 8) (q : Option Nat) (hq : ∀ k, q = some k → k < qN A) : ∃ s', (if bi l = 0 then (if nI a = (2 : Int32) then (if oe q = (-1 : Int32) then gu (inb (nI u) 8) (lb (ur s 63 (upd (s 63) u (-1 : Int32))) (fun s38 => some s38)) else f_X8_perform_B254_1 (nI a) (nI u) (nI x) s) else f_X8_perform_B254_1 (nI a) (nI u) (nI x) s) else ob2 (f_X8_make (nI a) (nI (3 * v + p)) (oe q) s) (fun v39 s40 => gu (inb (nI x) 8) (lb (ur s40 63 (upd (s40 63) (ix (nI x)) v39)) (fun s42 => some s42)))) = some s' ∧ XW (asg A l a v p q u x) c s' ∧ Wx s s' := by
  have iu : inb (nI u) 8 := inb_n hu (by omega)
  have ix' : inb (nI x) 8 := inb_n hx (by omega)
  have w63 : ∀ g, Wx s (ur s 63 g) := fun g => ⟨fun k hk => ur_n _ _ (by omega), fun j _ _ => by rw [ur_n _ _ (by omega)]⟩
  unfold asg
  cases l with
  | true =>
    rw [if_neg (show ¬ bi true = (0 : Int32) by decide), if_pos rfl]
    exact x_make h hn a v p q hx
  | false =>
    rw [if_pos (show bi false = (0 : Int32) from rfl), if_neg (show ¬ false = true by decide)]
    simp only [c2 ha]
    have hB : ¬ (a = 2 ∧ q = none) → ∃ s', f_X8_perform_B254_1 (nI a) (nI u) (nI x) s = some s' ∧ XW (if a = 2 ∧ q = none then sth A u none else if a = 6 ∧ u ≠ x then sth (sth A x (qH A u)) u none else A) c s' ∧ Wx s s' := by
      intro hne
      rw [if_neg hne]
      unfold f_X8_perform_B254_1
      simp only [c6 ha, nI_eqb (show u < 2 ^ 31 by omega) (show x < 2 ^ 31 by omega)]
      by_cases e : a = 6
      · rw [if_pos e]
        by_cases e2 : u = x
        · rw [if_pos e2, if_neg (fun z => z.2 e2)]
          exact ⟨s, rfl, h, Wx.rf⟩
        · rw [if_neg e2, if_pos ⟨e, e2⟩, gu_t iu, gu_t ix', lb_e, gu_t iu, lb_e, ix_n (by omega), ix_n (by omega), h.2.2.2 u hu]
          refine ⟨_, rfl, XW_63 (XW_63 h (x := x) (q := qH A u)) (x := u) (q := none), fun k hk => ?_, fun j _ _ => ?_⟩
          · rw [ur_n _ _ (by omega), ur_n _ _ (by omega)]
          · rw [ur_n _ _ (by omega), ur_n _ _ (by omega)]
      · rw [if_neg e, if_neg (fun z => e z.1)]
        exact ⟨s, rfl, h, Wx.rf⟩
    by_cases e : a = 2
    · rw [if_pos e]
      simp only [oe_m1 (q := q) (fun k hk => by have := hq k hk; omega)]
      by_cases e2 : q = none
      · rw [if_pos e2, if_pos ⟨e, e2⟩, gu_t iu, lb_e]
        exact ⟨_, rfl, XW_63 h (x := u) (q := none), w63 _⟩
      · rw [if_neg e2]
        exact hB (fun z => e2 z.2)
    · rw [if_neg e]
      exact hB (fun z => e z.1)
theorem x_perform (hX : LX P s) (ho : pOK P) (hA : RK A) (hn : qN A < 300) (h : XW A c s) (hc : c < 3000) {k : Nat} (hk : k < 24) : ∃ s' c', f_X8_perform (nI k) s = some s' ∧ XW (prf P A k) c' s' ∧ c' ≤ c + 3 ∧ Wx s s' := by
  obtain ⟨g1, g2, g3, g4, g5, g6, g7, g8, g9⟩ := hX.2 k hk
  have i1 : inb (nI k) 24 := inb_n hk (by omega)
  have hp := pv_lt ho k
  have hx := (ho.2 k).2.1
  have ha := ak_lt ho k
  unfold f_X8_perform
  rw [gu_t i1, lb_e, gu_t i1, lb_e, gu_t i1, lb_e, gu_t i1, lb_e, gu_t i1, ix_n (by omega), g2, g5, g6, g8, g9, gu_t (inb_n hp (by omega)), ix_n (by omega), h.2.2.2 _ hp]
  have eq : (if bi (gt P k) = 0 then some (-1 : Int32) else some (oe (qH A (pv P k)))) = some (oe (byq P A k)) := by
    unfold byq
    cases gt P k <;> rfl
  rw [eq, ob_e]
  have hq : ∀ j, byq P A k = some j → j < qN A := fun j e => byq_lt hA e
  have hg : ∀ r, byq P A k = some r → 3 ≤ pp P k % 6 := fun r e => by
    unfold byq at e
    split at e
    · rename_i hgt
      simp only [gt, Bool.and_eq_true, thr, decide_eq_true_eq] at hgt
      exact hgt.2
    · cases e
  unfold prf
  generalize byq P A k = q at hq hg ⊢
  obtain ⟨s1, c1', a1, a2, a3, a4⟩ := x_wake hA (by omega) h (by omega) hq
  rw [a1, ob_e]
  have hX1 : LX P s1 := hX.of (fun j hj => a4.1 j (by omega))
  obtain ⟨n1, n2, n3⟩ := wke_1 A q
  rw [x_spotOf hX1 ho hA (by omega) hk ⟨n2, n1⟩ a2 hq hg, ob_e]
  have hv := spv_lt ho hA k q
  have hpp := spp_lt (P := P) hA k q
  have R1 := wke_RK hA q
  obtain ⟨s2, c2', b1, b2, b3, b4⟩ := x_acs R1 (by omega) a2 (by omega) ha hv hpp hp (q := q) (fun j e => by rw [n1]; exact hq j e)
  rw [b1, ob_e]
  have R2 := acs_RK R1 (ak P k) (spv P A k q) (spp P A k q) q (pv P k)
  have N2 := (acs_1 (wke A q) (ak P k) (spv P A k q) (spp P A k q) q (pv P k)).1
  obtain ⟨s3, c3', d1, d2, d3, d4⟩ := x_wrs R2 (by rw [N2, n1]; omega) b2 (by omega) (lnd P k) ha hx
  rw [d1, ob_e]
  have R3 := wrs_RK R2 (lnd P k) (ak P k) (px P k)
  have N3 := (wrs_1 (acs (wke A q) (ak P k) (spv P A k q) (spp P A k q) q (pv P k)) (lnd P k) (ak P k) (px P k)).1
  obtain ⟨s4, e1, e2, e3⟩ := x_asg R3 (by rw [N3, N2, n1]; exact hn) d2 (lnd P k) (v := spv P A k q) (p := spp P A k q) ha hp hx q (fun j e => by rw [N3, N2, n1]; exact hq j e)
  rw [e1, ob_e]
  exact ⟨s4, c3', rfl, e2, by omega, ((a4.tr b4).tr d4).tr e3⟩
end PF
