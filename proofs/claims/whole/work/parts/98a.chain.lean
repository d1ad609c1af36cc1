def ch (F : Nat → Option Nat) (p : Bf) (fu : Nat) (q : Option Nat) : Bool := match fu with
  | 0 => false
  | fu + 1 => match q with
    | none => false
    | some k => p k || ch F p fu (F k)
theorem ch_none (F : Nat → Option Nat) (p : Bf) (fu : Nat) : ch F p fu none = false := by cases fu <;> rfl
def Dec (F : Nat → Option Nat) : Prop := ∀ k q, F k = some q → q < k
theorem ch_fu {F : Nat → Option Nat} {p : Bf} (hF : Dec F) (k : Nat) : ∀ a b, k < a → k < b → ch F p a (some k) = ch F p b (some k) := by
  induction k using Nat.strongRecOn with
  | _ k ih =>
    intro a b ha hb
    cases a with
    | zero => omega
    | succ a =>
      cases b with
      | zero => omega
      | succ b =>
        show (p k || ch F p a (F k)) = (p k || ch F p b (F k))
        cases hf : F k with
        | none => rw [ch_none, ch_none]
        | some q =>
          have := hF k q hf
          rw [ih q this a b (by omega) (by omega)]
def cc (F : Nat → Option Nat) (p : Bf) (q : Option Nat) : Bool := ch F p 400 q
theorem cc_none (F : Nat → Option Nat) (p : Bf) : cc F p none = false := rfl
theorem cc_some {F : Nat → Option Nat} {p : Bf} (hF : Dec F) {k : Nat} (hk : k < 399) : cc F p (some k) = (p k || cc F p (F k)) := by
  show (p k || ch F p 399 (F k)) = (p k || ch F p 400 (F k))
  cases hf : F k with
  | none => rw [ch_none, ch_none]
  | some q =>
    have := hF k q hf
    rw [ch_fu hF q 399 400 (by omega) (by omega)]
theorem lp_ce {body : Int32 × Int32 → Option ((Int32 × Int32) ⊕ (Unit ⊕ Int32))} {F : Nat → Option Nat} {p : Bf} {n : Nat} (hF : Dec F) (hn : n ≤ 300) (hs : ∀ k j, k < n → k + j < 300 → body (nI k, nI j) = some (if p k = true then .inr (.inr 1) else .inl (oe (F k), nI (j + 1)))) (h0 : ∀ j, body (-1, nI j) = some (.inr (.inl ()))) (q : Option Nat) (hq : ∀ k, q = some k → k < n) : lp body FU (oe q, (0 : Int32)) = some (if cc F p q = true then .inr 1 else .inl ()) := by
  have z : ∀ fu j, lp body (fu + 1) (oe none, nI j) = some (.inl ()) := fun fu j => by
    unfold lp
    rw [show oe none = (-1 : Int32) from rfl, h0]
  have key : ∀ k, k < n → ∀ j fu, k + j < 300 → k + 1 < fu → lp body fu (nI k, nI j) = some (if cc F p (some k) = true then .inr 1 else .inl ()) := by
    intro k
    induction k using Nat.strongRecOn with
    | _ k ih =>
      intro hk j fu hj hfu
      cases fu with
      | zero => omega
      | succ fu =>
        unfold lp
        rw [hs k j hk hj, cc_some hF (by omega)]
        cases hp : p k with
        | true => simp
        | false =>
          simp only [Bool.false_or, Bool.false_eq_true, if_false]
          cases hf : F k with
          | none =>
            cases fu with
            | zero => omega
            | succ fu => rw [z fu (j + 1), cc_none]; simp
          | some q =>
            have := hF k q hf
            exact ih q this (by omega) (j + 1) fu (by omega) (by omega)
  cases q with
  | none => rw [cc_none]; exact z 5999 0
  | some k =>
    have := hq k rfl
    exact key k this 0 FU (by omega) (FU_gt (by omega))
theorem lp_ca {body : Int32 × Int32 → Option ((Int32 × Int32) ⊕ Int32)} {F : Nat → Option Nat} {p : Bf} {n : Nat} (hF : Dec F) (hn : n ≤ 300) (hs : ∀ k b, k < n → body (bi b, nI k) = some (.inl (bi (b || p k), oe (F k)))) (h0 : ∀ b, body (bi b, -1) = some (.inr (bi b))) (q : Option Nat) (hq : ∀ k, q = some k → k < n) : lp body FU ((0 : Int32), oe q) = some (bi (cc F p q)) := by
  have z : ∀ fu b, lp body (fu + 1) (bi b, oe none) = some (bi b) := fun fu b => by
    unfold lp
    rw [show oe none = (-1 : Int32) from rfl, h0]
  have key : ∀ k, k < n → ∀ b fu, k + 1 < fu → lp body fu (bi b, nI k) = some (bi (b || cc F p (some k))) := by
    intro k
    induction k using Nat.strongRecOn with
    | _ k ih =>
      intro hk b fu hfu
      cases fu with
      | zero => omega
      | succ fu =>
        unfold lp
        rw [hs k b hk, cc_some hF (by omega)]
        show lp body fu (bi (b || p k), oe (F k)) = _
        cases hf : F k with
        | none =>
          cases fu with
          | zero => omega
          | succ fu => rw [z fu, cc_none, Bool.or_false]
        | some q =>
          have := hF k q hf
          rw [← Bool.or_assoc]
          exact ih q this (by omega) (b || p k) fu (by omega)
  cases q with
  | none => rw [cc_none]; exact z 5999 false
  | some k =>
    have := hq k rfl
    have := key k this false FU (FU_gt (by omega))
    rw [Bool.false_or] at this
    exact this
abbrev RS : Type := Nat × (Nat → Nat × Nat × Nat × Option Nat) × (Nat → Bool) × (Nat → Bool) × (Nat → Option Nat)
abbrev qN (A : RS) : Nat := A.1
abbrev qK (A : RS) (r : Nat) : Nat := (A.2.1 r).1
abbrev qV (A : RS) (r : Nat) : Nat := (A.2.1 r).2.1
abbrev qP (A : RS) (r : Nat) : Nat := (A.2.1 r).2.2.1
abbrev qF (A : RS) (r : Nat) : Option Nat := (A.2.1 r).2.2.2
abbrev qS (A : RS) : Nat → Bool := A.2.2.1
abbrev qA (A : RS) : Nat → Bool := A.2.2.2.1
abbrev qH (A : RS) : Nat → Option Nat := A.2.2.2.2
def RK (A : RS) : Prop := (∀ r, qK A r < 10 ∧ qV A r < 8 ∧ qP A r < 3) ∧ Dec (qF A) ∧ (∀ r q, qF A r = some q → r < qN A) ∧ ∀ x q, qH A x = some q → q < qN A
def XW (A : RS) (c : Nat) (s : sh_S) : Prop := s 56 7 = nI (qN A) ∧ s 56 8 = nI c ∧ (∀ r, r < qN A → s 57 r = nI (qK A r) ∧ s 58 r = nI (3 * qV A r + qP A r) ∧ s 59 r = oe (qF A r) ∧ s 60 r = bi (qS A r) ∧ s 61 r = bi (qA A r) ∧ ∃ d, d ≤ c ∧ s 62 r = nI d) ∧ ∀ x, x < 8 → s 63 x = oe (qH A x)
def MW (A : RS) (m : sh_S) : Prop := m 0 19 = nI (qN A) ∧ (∀ r, r < qN A → m 15 r = nI (qK A r) ∧ m 16 r = nI (qV A r) ∧ m 17 r = nI (qP A r) ∧ m 18 r = oe (qF A r) ∧ m 19 r = bi (!qS A r) ∧ m 20 r = bi (qA A r)) ∧ ∀ x, x < 8 → m 21 x = oe (qH A x)
def Wx (s t : sh_S) : Prop := (∀ k, (k < 56 ∨ 63 < k) → t k = s k) ∧ ∀ j, j ≠ 7 → j ≠ 8 → t 56 j = s 56 j
theorem Wx.rf {s : sh_S} : Wx s s := ⟨fun _ _ => rfl, fun _ _ _ => rfl⟩
theorem Wx.tr {a b c : sh_S} (h1 : Wx a b) (h2 : Wx b c) : Wx a c := ⟨fun k hk => (h2.1 k hk).trans (h1.1 k hk), fun j x y => (h2.2 j x y).trans (h1.2 j x y)⟩
def Mx (m t : sh_S) : Prop := (∀ k, k ≠ 0 → (k < 15 ∨ 21 < k) → t k = m k) ∧ ∀ j, j ≠ 19 → t 0 j = m 0 j
theorem Mx.rf {m : sh_S} : Mx m m := ⟨fun _ _ _ => rfl, fun _ _ => rfl⟩
theorem Mx.tr {a b c : sh_S} (h1 : Mx a b) (h2 : Mx b c) : Mx a c := ⟨fun k x hk => (h2.1 k x hk).trans (h1.1 k x hk), fun j x => (h2.2 j x).trans (h1.2 j x)⟩
def mt (A : RS) (v p r : Nat) : Bool := decide (qV A r = v) && (decide (p = 0) || decide (qP A r = 0) || decide (p = qP A r))
def inc (A : RS) (q : Option Nat) (r : Nat) : Bool := cc (qF A) (fun k => decide (k = r)) q
def nst (A : RS) (v p : Nat) (w : Bool) (q : Option Nat) (r : Nat) : Bool := qS A r || (mt A v p r && (w || decide (qK A r = 4) || (decide (qK A r = 5) && qA A r)) && !inc A q r)
def tch (A : RS) (v p : Nat) (w : Bool) (q : Option Nat) : RS := (qN A, A.2.1, fun r => if r < qN A then nst A v p w q r else qS A r, qA A, qH A)
theorem tch_RK {A : RS} (h : RK A) (v p : Nat) (w : Bool) (q : Option Nat) : RK (tch A v p w q) := h
def mtN (a b : Nat) : Bool := decide (a / 3 = b / 3) && (decide (b % 3 = 0) || decide (a % 3 = 0) || decide (b % 3 = a % 3))
theorem x_meet : ∀ a, a < 24 → ∀ b, b < 24 → f_X8_meet (nI a) (nI b) = some (bi (mtN a b)) := by decide +kernel
theorem mtN_e {v p v' p' : Nat} (hp : p < 3) (hp' : p' < 3) : mtN (3 * v + p) (3 * v' + p') = (decide (v = v') && (decide (p' = 0) || decide (p = 0) || decide (p' = p))) := by
  unfold mtN
  rw [show (3 * v + p) / 3 = v by omega, show (3 * v' + p') / 3 = v' by omega, show (3 * v + p) % 3 = p by omega, show (3 * v' + p') % 3 = p' by omega]
section RU
variable {A : RS} {c : Nat} {s m : sh_S}
theorem x_hasStale (hA : RK A) (hn : qN A ≤ 300) (h : XW A c s) {q : Option Nat} (hq : ∀ k, q = some k → k < qN A) : f_X8_hasStale (oe q) s = some (bi (cc (qF A) (qS A) q)) := by
  unfold f_X8_hasStale
  rw [lp_ce (F := qF A) (p := qS A) (n := qN A) hA.2.1 hn (fun k j hk hj => ?_) (fun j => ?_) q hq, ob_e]
  · cases cc (qF A) (qS A) q <;> rfl
  · obtain ⟨h1, h2, h3, h4, h5, h6⟩ := h.2.2.1 k hk
    show f_X8_hasStale_L4 s (nI k) (nI j) = _
    unfold f_X8_hasStale_L4
    rw [if_neg (neg1 (by omega)), if_neg (show ¬ (300 : Int32) ≤ nI j from nI_ge (b := 300) (by omega) (by omega)), gu_t (inb_n (by omega) (by omega)), ix_n (by omega), h4, gu_t (inb_n (by omega) (by omega)), lb_e, lb_e, h3, nI_1]
    cases qS A k <;> rfl
  · show f_X8_hasStale_L4 s (-1) (nI j) = _
    unfold f_X8_hasStale_L4
    rw [if_pos rfl]
theorem x_hasShared (hA : RK A) (hn : qN A ≤ 300) (h : XW A c s) {q : Option Nat} (hq : ∀ k, q = some k → k < qN A) : f_X8_hasShared (oe q) s = some (bi (cc (qF A) (fun r => decide (qK A r = 3)) q)) := by
  unfold f_X8_hasShared
  rw [lp_ce (F := qF A) (p := fun r => decide (qK A r = 3)) (n := qN A) hA.2.1 hn (fun k j hk hj => ?_) (fun j => ?_) q hq, ob_e]
  · cases cc (qF A) (fun r => decide (qK A r = 3)) q <;> rfl
  · obtain ⟨h1, h2, h3, h4, h5, h6⟩ := h.2.2.1 k hk
    show f_X8_hasShared_L4 s (nI k) (nI j) = _
    unfold f_X8_hasShared_L4
    rw [if_neg (neg1 (by omega)), if_neg (show ¬ (300 : Int32) ≤ nI j from nI_ge (b := 300) (by omega) (by omega)), gu_t (inb_n (by omega) (by omega)), ix_n (by omega), h1, gu_t (inb_n (by omega) (by omega)), lb_e, lb_e, h3, nI_1]
    simp only [c3 (hA.1 k).1]
    by_cases e : qK A k = 3
    · simp [e]
    · simp [e]
  · show f_X8_hasShared_L4 s (-1) (nI j) = _
    unfold f_X8_hasShared_L4
    rw [if_pos rfl]
theorem m_isOf (hA : RK A) (hn : qN A ≤ 300) (h : MW A m) {r : Nat} (hr : r < 300) {q : Option Nat} (hq : ∀ k, q = some k → k < qN A) : f_X10_isOf (nI r) (oe q) m = some (bi (inc A q r)) := by
  unfold f_X10_isOf
  rw [lp_ca (F := qF A) (p := fun k => decide (k = r)) (n := qN A) hA.2.1 hn (fun k b hk => ?_) (fun b => ?_) q hq, ob_e, gu_t (bi_z _)]
  · rfl
  · obtain ⟨h1, h2, h3, h4, h5, h6⟩ := h.2.1 k hk
    show f_X10_isOf_L5 (nI r) m (bi b) (nI k) = _
    unfold f_X10_isOf_L5
    rw [if_neg (neg1 (by omega)), ix_n (by omega), h4]
    simp only [gu_t (inb_n (show k < 301 by omega) (by omega)), lb_e, nI_eqb (show k < 2 ^ 31 by omega) (show r < 2 ^ 31 by omega)]
    by_cases e : k = r
    · cases b <;> simp [e, bi, ob]
    · cases b <;> simp [e, bi, ob]
  · show f_X10_isOf_L5 (nI r) m (bi b) (-1) = _
    unfold f_X10_isOf_L5
    rw [if_pos rfl]
theorem m_isStale (hA : RK A) (hn : qN A ≤ 300) (h : MW A m) {q : Option Nat} (hq : ∀ k, q = some k → k < qN A) : f_X10_isStale (oe q) m = some (bi (cc (qF A) (qS A) q)) := by
  unfold f_X10_isStale
  rw [lp_ca (F := qF A) (p := qS A) (n := qN A) hA.2.1 hn (fun k b hk => ?_) (fun b => ?_) q hq, ob_e, gu_t (bi_z _)]
  · obtain ⟨h1, h2, h3, h4, h5, h6⟩ := h.2.1 k hk
    show f_X10_isStale_L4 m (bi b) (nI k) = _
    unfold f_X10_isStale_L4
    rw [if_neg (neg1 (by omega)), gu_t (inb_n (by omega) (by omega)), ix_n (by omega), h5, h4]
    simp only [gu_t (inb_n (show k < 301 by omega) (by omega)), lb_e]
    cases b <;> cases qS A k <;> simp [bi, ob]
  · show f_X10_isStale_L4 m (bi b) (-1) = _
    unfold f_X10_isStale_L4
    rw [if_pos rfl]
theorem m_isShared (hA : RK A) (hn : qN A ≤ 300) (h : MW A m) {q : Option Nat} (hq : ∀ k, q = some k → k < qN A) : f_X10_isShared (oe q) m = some (bi (cc (qF A) (fun r => decide (qK A r = 3)) q)) := by
  unfold f_X10_isShared
  rw [lp_ca (F := qF A) (p := fun r => decide (qK A r = 3)) (n := qN A) hA.2.1 hn (fun k b hk => ?_) (fun b => ?_) q hq, ob_e, gu_t (bi_z _)]
  · obtain ⟨h1, h2, h3, h4, h5, h6⟩ := h.2.1 k hk
    show f_X10_isShared_L4 m (bi b) (nI k) = _
    unfold f_X10_isShared_L4
    rw [if_neg (neg1 (by omega)), gu_t (inb_n (by omega) (by omega)), ix_n (by omega), h1, h4]
    simp only [gu_t (inb_n (show k < 301 by omega) (by omega)), lb_e, c3 (hA.1 k).1]
    by_cases e : qK A k = 3
    · cases b <;> simp [e, bi, ob]
    · cases b <;> simp [e, bi, ob]
  · show f_X10_isShared_L4 m (bi b) (-1) = _
    unfold f_X10_isShared_L4
    rw [if_pos rfl]
end RU
