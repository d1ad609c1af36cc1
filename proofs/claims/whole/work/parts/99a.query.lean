abbrev SH : Type := (Nat → Option Nat) × (Nat → Nat) × (Nat → Nat → Int32) × Int32
abbrev tf (T : SH) : Nat → Option Nat := T.1
abbrev tz (T : SH) : Nat → Nat := T.2.1
abbrev ti (T : SH) : Nat → Nat → Int32 := T.2.2.1
abbrev tg (T : SH) : Int32 := T.2.2.2
def SOK (T : SH) : Prop := (∀ k f, tf T k = some f → f < 3) ∧ ∀ k, tz T k ≤ 60
def XS (T : SH) (s : sh_S) : Prop := (∀ k, k < 4 → s (64 + 2 * k) 1 = oe (tf T k) ∧ (tf T k ≠ none → s (64 + 2 * k) 2 = nI (tz T k) ∧ ∀ i, i < 60 → s (64 + 2 * k + 1) i = ti T k i)) ∧ s 73 6 = tg T
def MS (T : SH) (m : sh_S) : Prop := (∀ k, k < 4 → m 22 k = bi (tf T k).isSome ∧ ∀ f, tf T k = some f → m 23 k = nI f ∧ m 24 k = nI (tz T k) ∧ ∀ i, i < 60 → m 25 (60 * k + i) = ti T k i) ∧ m 0 35 = tg T
def PLx (P : Pg) (s : sh_S) : Prop := (s 52 3 = 0 ∨ (s 52 3 = 1 ∧ PLm P s)) ∧ (s 52 4 = 0 ∨ (s 52 4 = 1 ∧ PLs P s))
def TRx (P : Pg) (s : sh_S) : Prop := ∀ i, i < 1000 → s 53 3 = nI i → TX P i s
def WKx (P : Pg) (s : sh_S) : Prop := s 56 10 = 0 ∨ (s 56 10 = 1 ∧ RunOK P (s 56 11) (s 56 12) (s 56 13) (s 56 14) (s 56 15))
def XI (P : Pg) (T : SH) (s : sh_S) : Prop := LX P s ∧ CKx P s ∧ PLx P s ∧ TRx P s ∧ WKx P s ∧ XS T s
def MI (P : Pg) (T : SH) (m : sh_S) : Prop := PM P m ∧ MS T m
theorem PLx.of {P : Pg} {s t : sh_S} (h : PLx P s) (e : t 52 = s 52) : PLx P t := by
  unfold PLx PLm PLs at h ⊢; rw [e]; exact h
theorem TRx.of {P : Pg} {s t : sh_S} (h : TRx P s) (e1 : t 53 = s 53) (e2 : t 55 = s 55) : TRx P t := by
  intro i hi hs
  obtain ⟨e, h1, h2, h3⟩ := h i hi (by rw [← e1]; exact hs)
  exact ⟨e, h1, h2, by rw [e1]; exact h3.1, fun i x hx => by rw [e2]; exact h3.2 i x hx⟩
theorem WKx.of {P : Pg} {s t : sh_S} (h : WKx P s) (e : t 56 = s 56) : WKx P t := by
  unfold WKx at h ⊢; rw [e]; exact h
theorem XS.of {T : SH} {s t : sh_S} (h : XS T s) (e : ∀ k, 64 ≤ k → t k = s k) : XS T t := by
  refine ⟨fun k hk => ?_, by rw [e 73 (by omega)]; exact h.2⟩
  rw [e (64 + 2 * k) (by omega), e (64 + 2 * k + 1) (by omega)]
  exact h.1 k hk
theorem MI.mp {P : Pg} {T : SH} {m t : sh_S} (h : MI P T m) (e : Mp m t) : MI P T t := by
  refine ⟨h.1.mp e, fun k hk => ?_, by rw [e.2.1]; exact h.2.2⟩
  rw [e.2.2.2 22 (by omega), e.2.2.2 23 (by omega), e.2.2.2 24 (by omega), e.2.2.2 25 (by omega)]
  exact h.2.1 k hk
theorem Mr.mp {m t : sh_S} (h : Mr m t) : Mp m t := ⟨h.2 0 (by omega) (by omega), h.2 35 (by omega) (by omega), fun k x y => h.1 k (by omega) (by omega), fun k x => h.1 k (by omega) (by omega)⟩
def QX {α : Type} (P : Pg) (T : SH) (f : sh_S → Option (α × sh_S)) (a : α) : Prop := ∀ s, XI P T s → ∃ s', f s = some (a, s') ∧ XI P T s'
def QM {α : Type} (P : Pg) (T : SH) (f : sh_S → Option (α × sh_S)) (a : α) : Prop := ∀ m, MI P T m → ∃ m', f m = some (a, m') ∧ MI P T m'
def witv (P : Pg) (i : Nat) (j : Option Nat) : Int32 := match (eA P (pn P))[i]? with
  | none => -3
  | some e => if e.2.1 = 0 then (match j with
    | none => nI (way P e.2.2 e.1).length
    | some j => oe ((way P e.2.2 e.1)[j]?)) else -3
def m0 (P : Pg) : sh_S := fun k => match k with
    | 0 => fun _ => nI (pn P)
    | 1 => fun j => nI (pk P j)
    | 2 => fun j => nI (px P j)
    | 3 => fun j => nI (pp P j)
    | _ => fun j => nI (pt P j)
theorem m0_PM (P : Pg) : PM P (m0 P) := ⟨rfl, fun _ _ => ⟨rfl, rfl, rfl, rfl⟩⟩
def runv (P : Pg) (p st : Int32) (w : Nat) : Int32 := match f_X10_runs p st (m0 P) with
  | some m' => if w = 0 then m' 0 27 else if w = 1 then m' 0 28 else m' 0 29
  | none => 0
theorem RunOK.v {P : Pg} {p st r0 r1 r2 : Int32} (h : RunOK P p st r0 r1 r2) : r0 = runv P p st 0 ∧ r1 = runv P p st 1 ∧ r2 = runv P p st 2 := by
  obtain ⟨m', h1, h2, h3, h4, -⟩ := h (m0 P) (m0_PM P)
  unfold runv
  rw [h1]
  exact ⟨h2.symm, h3.symm, h4.symm⟩
def cntv (P : Pg) (w : Nat) : Int32 := if w = 0 then nI (pn P) else if w = 1 then nI (cnt (Rc P) 25) else if w = 2 then nI (cnt (Lo P) 25) else if w = 3 then nI (TE P) else nI (kc P (w - 4) (pn P))
section QQ
variable {P : Pg} {T : SH}
theorem x_ex2 {s : sh_S} (h : XI P T s) (ho : pOK P) : ∃ s1, f_X0_examine (rs em_CK s) = some s1 ∧ XI P T (mg em_CK 0 s s1) ∧ CX P (mg em_CK 0 s s1) ∧ mg em_CK 0 s s1 10 1 = 1 := by
  obtain ⟨h1, h2, h3, h4, h5, h6⟩ := h
  obtain ⟨s1, a1, a2, a3, a4, a5⟩ := x_exX h1 ho h2
  exact ⟨s1, a1, ⟨a2, Or.inr ⟨a3, a4⟩, h3.of (a5 52 (by omega)), h4.of (a5 53 (by omega)) (a5 55 (by omega)), h5.of (a5 56 (by omega)), h6.of (fun k hk => a5 k (by omega))⟩, a4, a3⟩
theorem x_ex {s : sh_S} (h : XI P T s) (ho : pOK P) : ∃ s1, f_X0_examine (rs em_CK s) = some s1 ∧ XI P T (mg em_CK 0 s s1) ∧ CX P (mg em_CK 0 s s1) := by
  obtain ⟨s1, a1, a2, a3, -⟩ := x_ex2 h ho
  exact ⟨s1, a1, a2, a3⟩
theorem CXr {s : sh_S} (h : CX P s) : CX P (rs em_CK s) := h.of (fun k h1 h2 => CK_rs s (by omega))
theorem LXr {s : sh_S} (h : LX P s) : LX P (rs em_CK s) := h.of (fun k hk => CK_rs s (by omega))
theorem LXl {s : sh_S} (h : LX P s) (x : Int32) : f_X4_has x (rs em_LI s) = some (bi (isPt (pn P) x)) := x_has (by rw [LI_rs s (by omega)]; exact h.1) x
theorem lo_0 : mkb (fun l => Lo P l && sl P 0 l) = mkb (Lo P) := mkb_ext (fun l _ => by simp [sl])
theorem qx_reached (ho : pOK P) : QX P T f_X9_reached (mkb (Rc P)) := by
  intro s h
  obtain ⟨s1, a1, a2, a3⟩ := x_ex h ho
  unfold f_X9_reached
  rw [a1, ob_e, lb_e, a3.2.1]
  exact ⟨_, rfl, a2⟩
theorem qx_loans (ho : pOK P) : QX P T f_X9_loans (mkb (Lo P)) := by
  intro s h
  obtain ⟨s1, a1, a2, a3⟩ := x_ex h ho
  unfold f_X9_loans
  rw [a1, ob_e, lb_e, a3.2.2.2.2.2.1.1 0 (by omega), lo_0]
  exact ⟨_, rfl, a2⟩
theorem qx_errors (ho : pOK P) : QX P T f_X9_errors (nI (TE P)) := by
  intro s h
  obtain ⟨s1, a1, a2, a3⟩ := x_ex h ho
  unfold f_X9_errors
  rw [a1, ob_e, lb_e, a3.2.2.2.2.2.2.2.2.2.2.2]
  exact ⟨_, rfl, a2⟩
theorem bw_n {v a b : Nat} (h : a ≤ v ∧ v ≤ b) (hb : b < 2 ^ 31) : f_X9_isBetween (nI v) (nI a) (nI b) = some 1 := by
  rw [x_bw, decide_eq_false (nI_nlt h.1 (by omega)), decide_eq_false (nI_nlt h.2 hb)]; rfl
theorem iv_n {v : Nat} (hv : v < 8) : f_X9_isVariable (nI v) = some 1 := by
  unfold f_X9_isVariable
  have : f_X9_isBetween (nI v) (0 : Int32) (7 : Int32) = some 1 := bw_n (a := 0) (b := 7) (by omega) (by omega)
  rw [this, ob_e]; rfl
theorem qx_live (ho : pOK P) {v : Nat} (hv : v < 8) : QX P T (f_X9_live (nI v)) (mkb (Lv P v)) := by
  intro s h
  obtain ⟨s1, a1, a2, a3⟩ := x_ex h ho
  unfold f_X9_live
  rw [iv_n hv, ob_e, if_neg (by decide), a1, ob_e, lb_e]
  have c := CXr a3
  rw [x_livePoints c.1.1 ho c.2.2.2.1 hv, ob_e, ob2_e]
  exact ⟨_, rfl, a2⟩
theorem qx_region (ho : pOK P) {v : Nat} (hv : v < 8) : QX P T (f_X9_region (nI v)) (mkb (Rg P v)) := by
  intro s h
  obtain ⟨s1, a1, a2, a3⟩ := x_ex h ho
  unfold f_X9_region
  rw [iv_n hv, ob_e, if_neg (by decide), a1, ob_e, lb_e, gu_t (inb_n hv (by omega)), ix_n (by omega), a3.2.2.2.2.1 v hv, ob2_e]
  exact ⟨_, rfl, a2⟩
theorem has_n (ho : pOK P) {s : sh_S} (h : XI P T s) {k : Nat} (hk : k < pn P) : f_X4_has (nI k) (rs em_LI s) = some 1 := by
  have := ho.1
  rw [LXl h.1, isPt_n ho.1 (by omega), decide_eq_true hk]; rfl
theorem qx_next (ho : pOK P) {k : Nat} (hk : k < pn P) : QX P T (f_X9_next (nI k)) (mkb (nx P k)) := by
  intro s h
  have hn := ho.1
  obtain ⟨s1, a1, a2, a3⟩ := x_ex h ho
  unfold f_X9_next
  rw [has_n ho h hk, ob_e, if_neg (by decide), a1, ob_e, lb_e, gu_t (inb_n (by omega) (by omega)), ix_n (by omega), (a3.1.2 k hk).1, (a3.1.2 k hk).2, x_bitOf (fun m hm => oe_on_lt ho hm), ob_e, gu_t (inb_n (by omega) (by omega)), x_bitOf (fun m hm => oe_asd_lt ho hm), ob_e, nx_set ho k]
  exact ⟨_, rfl, a2⟩
theorem qx_holds (ho : pOK P) {k v : Nat} (hk : k < pn P) (hv : v < 8) : QX P T (f_X9_holds (nI k) (nI v)) (mkb (Ho P (8 * k + v))) := by
  intro s h
  have hn := ho.1
  obtain ⟨s1, a1, a2, a3⟩ := x_ex h ho
  unfold f_X9_holds
  rw [has_n ho h hk, ob_e, if_neg (by decide), iv_n hv, ob_e, if_neg (by decide), a1, ob_e, lb_e, mul8, nI_add, gu_t (inb_n (by omega) (by omega)), ix_n (by omega), a3.2.2.2.2.2.2.1 _ (by omega)]
  exact ⟨_, rfl, a2⟩
theorem qx_scope (ho : pOK P) {k : Nat} (hk : k < pn P) : QX P T (f_X9_scope (nI k)) (mkb (sSc P k)) := by
  intro s h
  have hn := ho.1
  obtain ⟨s1, a1, a2, a3⟩ := x_ex h ho
  unfold f_X9_scope
  rw [has_n ho h hk, ob_e, if_neg (by decide), a1, ob_e, lb_e, gu_t (inb_n (by omega) (by omega)), ix_n (by omega), (a3.2.2.2.2.2.2.2.2.1 k hk).1, ob2_e]
  exact ⟨_, rfl, a2⟩
theorem qx_active (ho : pOK P) {k : Nat} (hk : k < pn P) : QX P T (f_X9_active (nI k)) (mkb (sAc P k)) := by
  intro s h
  have hn := ho.1
  obtain ⟨s1, a1, a2, a3⟩ := x_ex h ho
  unfold f_X9_active
  rw [has_n ho h hk, ob_e, if_neg (by decide), a1, ob_e, lb_e, gu_t (inb_n (by omega) (by omega)), ix_n (by omega), (a3.2.2.2.2.2.2.2.2.1 k hk).2, ob2_e]
  exact ⟨_, rfl, a2⟩
theorem qx_bears (ho : pOK P) {k : Nat} (hk : k < pn P) : QX P T (f_X9_bears (nI k)) (if Lo P k = true then mkb (Br P k) else -3) := by
  intro s h
  have hn := ho.1
  obtain ⟨s1, a1, a2, a3⟩ := x_ex h ho
  unfold f_X9_bears
  rw [has_n ho h hk, ob_e, if_neg (by decide), a1, ob_e, lb_e, a3.2.2.2.2.2.1.1 0 (by omega), lo_0, x_hasBit (by omega), ob_e]
  cases hl : Lo P k with
  | false => rw [if_pos (show bi false = (0 : Int32) from rfl), if_neg (by decide)]; exact ⟨_, rfl, a2⟩
  | true =>
    have c := CXr a3
    rw [if_neg (show ¬ bi true = (0 : Int32) by decide), if_pos rfl, x_bearers (LXr a2.1) c.1.1 c.2.1 c.2.2.1 ho (by omega), ob_e]
    exact ⟨_, rfl, a2⟩
theorem qx_error (ho : pOK P) {i w : Nat} (hi : i < 1000) (hw : w < 3) : QX P T (f_X9_error (nI i) (nI w)) (tl P i w) := by
  intro s h
  obtain ⟨s1, a1, a2, a3⟩ := x_ex h ho
  unfold f_X9_error
  have b1 : f_X9_isBetween (nI i) (0 : Int32) (999 : Int32) = some 1 := bw_n (a := 0) (b := 999) (by omega) (by omega)
  have b2 : f_X9_isBetween (nI w) (0 : Int32) (2 : Int32) = some 1 := bw_n (a := 0) (b := 2) (by omega) (by omega)
  have c := CXr a3
  rw [b1, ob_e, if_neg (by decide), b2, ob_e, if_neg (by decide), a1, ob_e, lb_e, x_tell ho c.2.2.2.2.2.2.2.2.2.1 c.2.2.2.2.2.2.2.2.2.2.1 hi hw, ob_e]
  exact ⟨_, rfl, a2⟩
theorem qx_witness (ho : pOK P) {i : Nat} (hi : i < 1000) {j : Option Nat} (hj : ∀ x, j = some x → x < 60) : QX P T (f_X9_witness (nI i) (oe j)) (witv P i j) := by
  intro s h
  obtain ⟨s1, a1, a2, a3, a4⟩ := x_ex2 h ho
  unfold f_X9_witness
  have b1 : f_X9_isBetween (nI i) (0 : Int32) (999 : Int32) = some 1 := bw_n (a := 0) (b := 999) (by omega) (by omega)
  have b2 : f_X9_isBetween (oe j) (-1 : Int32) (59 : Int32) = some 1 := by
    cases j with
    | none => decide
    | some x =>
      have hx := hj x rfl
      show f_X9_isBetween (nI x) (-1 : Int32) (59 : Int32) = some 1
      have e1 : ¬ nI x < (-1 : Int32) := by
        rw [i32_lt, nI_toInt (by omega)]
        show ¬ (x : Int) < -1
        omega
      have e2 : ¬ (59 : Int32) < nI x := nI_nlt (a := 59) (by omega) (by omega)
      rw [x_bw, decide_eq_false e1, decide_eq_false e2]; rfl
  have c := CXr a3
  have t1 : f_X1_tell (nI i) (1 : Int32) (rs em_CK (mg em_CK 0 s s1)) = some (tl P i 1) := x_tell ho c.2.2.2.2.2.2.2.2.2.1 c.2.2.2.2.2.2.2.2.2.2.1 hi (what := 1) (by omega)
  rw [b1, ob_e, if_neg (by decide), b2, ob_e, if_neg (by decide), a1, ob_e, lb_e, t1, ob_e]
  generalize mg em_CK 0 s s1 = s2 at a2 a3 a4 ⊢
  unfold witv
  cases he : (eA P (pn P))[i]? with
  | none =>
    have : tl P i 1 = -1 := by unfold tl; rw [he]
    rw [this, if_neg (by decide)]
    exact ⟨_, rfl, a2⟩
  | some e =>
    have hm := eA_mem (List.mem_of_getElem? he)
    have ht : tl P i 1 = nI e.2.1 := by unfold tl; rw [he]; rfl
    have e0 : (nI e.2.1 = (0 : Int32)) = (e.2.1 = 0) := nI_eqb (b := 0) (by omega) (by omega)
    rw [ht]
    simp only [e0]
    by_cases h0 : e.2.1 = 0
    · simp only [if_pos h0]
      obtain ⟨t, z1, z2, z3, z4⟩ := x_show a2.1 a3 ho hi he h0 (fun q => a2.2.2.2.1 i hi q)
      rw [z1, ob_e]
      have hXI : XI P T t := by
        obtain ⟨h1, h2, h3, h4, h5, h6⟩ := a2
        refine ⟨h1.of (fun k hk => z4 k (by omega) (by omega) (by omega)), Or.inr ⟨?_, a3.of (fun k q1 q2 => z4 k (by omega) (by omega) (by omega))⟩, h3.of (z4 52 (by omega) (by omega) (by omega)), fun i' hi' hs => ?_, h5.of (z4 56 (by omega) (by omega) (by omega)), h6.of (fun k hk => z4 k (by omega) (by omega) (by omega))⟩
        · rw [z4 10 (by omega) (by omega) (by omega)]; exact a4
        · rw [z3] at hs
          have : i = i' := (nI_eq (by omega) (by omega)).mp hs
          subst this
          exact ⟨e, he, h0, z2⟩
      cases j with
      | none =>
        show ∃ s', (if (-1 : Int32) = (-1 : Int32) then some (t 53 5, t) else _) = some (_, s') ∧ _
        rw [if_pos rfl, z2.1]
        exact ⟨t, rfl, hXI⟩
      | some x =>
        have hx := hj x rfl
        have hl := way_len (P := P) e.2.2 e.1
        show ∃ s', (if nI x = (-1 : Int32) then some (t 53 5, t) else ob (if (t 53 5) ≤ nI x then some (-1 : Int32) else gu (inb (nI x) 60) (some (t 55 (ix (nI x))))) (fun v7 => some (v7, t))) = some (_, s') ∧ _
        rw [if_neg (neg1 (by omega)), z2.1, gu_t (inb_n hx (by omega)), ix_n (by omega)]
        by_cases hc : (way P e.2.2 e.1).length ≤ x
        · rw [if_pos (nI_le hc (by omega)), ob_e]
          show ∃ s', some (-1, t) = some (oe ((way P e.2.2 e.1)[x]?), s') ∧ XI P T s'
          rw [List.getElem?_eq_none hc]
          exact ⟨t, rfl, hXI⟩
        · rw [if_neg (nI_ge (by omega) (by omega)), ob_e]
          show ∃ s', some (t 55 x, t) = some (oe ((way P e.2.2 e.1)[x]?), s') ∧ XI P T s'
          cases hg : (way P e.2.2 e.1)[x]? with
          | none => exact absurd (List.getElem?_eq_none_iff.mp hg) hc
          | some y => rw [z2.2 x y hg]; exact ⟨t, rfl, hXI⟩
    · simp only [if_neg h0]
      exact ⟨_, rfl, a2⟩
theorem qx_mend (ho : pOK P) {w : Nat} (hw : w < 2) : QX P T (f_X9_mend (nI w)) (if w = 0 then mdb (md P (pn P)) else mdl (md P (pn P))) := by
  intro s h
  have hn := ho.1
  unfold f_X9_mend
  have b1 : f_X9_isBetween (nI w) (0 : Int32) (1 : Int32) = some 1 := bw_n (a := 0) (b := 1) (by omega) (by omega)
  have e0 : (nI (pn P) = (0 : Int32)) = (pn P = 0) := nI_eqb (b := 0) (by omega) (by omega)
  have ew : (nI w = (0 : Int32)) = (w = 0) := nI_eqb (b := 0) (by omega) (by omega)
  rw [b1, ob_e, if_neg (by decide), h.1.1]
  simp only [e0, ew]
  by_cases hz : pn P = 0
  · rw [if_pos hz, hz]
    have : (if w = 0 then mdb (md P 0) else mdl (md P 0)) = -1 := by split <;> rfl
    rw [this]
    exact ⟨s, rfl, h⟩
  · rw [if_neg hz]
    obtain ⟨h1, h2, h3, h4, h5, h6⟩ := h
    obtain ⟨t, a1, a2, a3, a4, a5, a6, a7, a8⟩ := x_findMend h1 ho h2 h3.1
    rw [a1, ob_e, a5.1, a5.2, ob_ite]
    refine ⟨t, rfl, a2, a3, ⟨Or.inr ⟨a4, a5⟩, ?_⟩, h4.of (a8 53 (by omega)) (a8 55 (by omega)), h5.of (a8 56 (by omega)), h6.of (fun k hk => a8 k (by omega))⟩
    unfold PLs
    rw [a6, a7]
    exact h3.2
theorem qx_soft (ho : pOK P) : QX P T f_X9_soft (mkb (sf P)) := by
  intro s h
  unfold f_X9_soft
  obtain ⟨h1, h2, h3, h4, h5, h6⟩ := h
  obtain ⟨t, a1, a2, a3, a4, a5, a6, a7, a8, a9⟩ := x_findSoft h1 ho h2 h3.2
  rw [a1, ob_e]
  have a5' : t 52 7 = mkb (sf P) := a5
  rw [a5']
  refine ⟨t, rfl, a2, a3, ⟨?_, Or.inr ⟨a4, a5⟩⟩, h4.of (a9 53 (by omega)) (a9 55 (by omega)), h5.of (a9 56 (by omega)), h6.of (fun k hk => a9 k (by omega))⟩
  unfold PLm
  rw [a6, a7, a8]
  exact h3.1
theorem qx_run (ho : pOK P) (p : Int32) {st w : Nat} (hst : st ≤ 300) (hw : w < 3) : QX P T (f_X9_run p (nI st) (nI w)) (runv P p (nI st) w) := by
  intro s h
  unfold f_X9_run
  have b1 : f_X9_isBetween (nI st) (0 : Int32) (300 : Int32) = some 1 := bw_n (a := 0) (b := 300) (by omega) (by omega)
  have b2 : f_X9_isBetween (nI w) (0 : Int32) (2 : Int32) = some 1 := bw_n (a := 0) (b := 2) (by omega) (by omega)
  have e0 : (nI w = (0 : Int32)) = (w = 0) := nI_eqb (b := 0) (by omega) (by omega)
  have e1 : (nI w = (1 : Int32)) = (w = 1) := nI_eqb (b := 1) (by omega) (by omega)
  obtain ⟨h1, h2, h3, h4, h5, h6⟩ := h
  obtain ⟨t, a1, a2, a3, a4, a5, a6⟩ := x_go h1 ho p hst h5
  rw [b1, ob_e, if_neg (by decide), b2, ob_e, if_neg (by decide), a1, ob_e]
  simp only [e0, e1]
  obtain ⟨r0, r1, r2⟩ := a5.v
  have hXI : XI P T t := by
    refine ⟨h1.of (fun k hk => a6 k (by omega)), ?_, h3.of (a6 52 (by omega)), h4.of (a6 53 (by omega)) (a6 55 (by omega)), Or.inr ⟨a2, by rw [a3, a4]; exact a5⟩, h6.of (fun k hk => a6 k (by omega))⟩
    rcases h2 with h2 | h2
    · exact Or.inl (by rw [a6 10 (by omega)]; exact h2)
    · exact Or.inr ⟨by rw [a6 10 (by omega)]; exact h2.1, h2.2.of (fun k q1 q2 => a6 k (by omega))⟩
  have hw3 : w = 0 ∨ w = 1 ∨ w = 2 := by omega
  rcases hw3 with rfl | rfl | rfl
  · rw [if_pos rfl, r0]; exact ⟨t, rfl, hXI⟩
  · rw [if_neg (by omega), if_pos rfl, ob_e, r1]; exact ⟨t, rfl, hXI⟩
  · rw [if_neg (by omega), if_neg (by omega), ob_e, r2]; exact ⟨t, rfl, hXI⟩
theorem lt9 {a : Nat} (h : a < 9) : a = 0 ∨ a = 1 ∨ a = 2 ∨ a = 3 ∨ a = 4 ∨ a = 5 ∨ a = 6 ∨ a = 7 ∨ a = 8 := by omega
theorem qx_count (ho : pOK P) {w : Nat} (hw : w < 8) : QX P T (f_X9_count (nI w)) (cntv P w) := by
  intro s h
  obtain ⟨s1, a1, a2, a3⟩ := x_ex h ho
  have h10 : w < 10 := by omega
  have z0 : (nI w = (0 : Int32)) = (w = 0) := nI_eqb (b := 0) (by omega) (by omega)
  unfold f_X9_count
  rw [a1]
  simp only [z0, c1 h10, c2 h10, c3 h10, c4 h10, c5 h10, c6 h10, c7 h10, c8 h10]
  have c := CXr a3
  have tot : ∀ j, j < 4 → f_X1_totalOf (nI (j + 4) - (4 : Int32)) (rs em_CK (mg em_CK 0 s s1)) = some (nI (kc P j (pn P))) := fun j hj => by
    have e : nI (j + 4) - (4 : Int32) = nI j := by
      have : nI (j + 4) - nI 4 = nI (j + 4 - 4) := pk_sub (by omega)
      rw [Nat.add_sub_cancel] at this
      exact this
    rw [e]
    exact x_totalOf ho c.2.2.2.2.2.2.2.2.2.1 c.2.2.2.2.2.2.2.2.2.2.1 hj
  rcases lt9 (show w < 9 by omega) with rfl | rfl | rfl | rfl | rfl | rfl | rfl | rfl | rfl
  · exact ⟨s, by rw [if_pos rfl, h.1.1]; rfl, h⟩
  · refine ⟨_, ?_, a2⟩
    rw [if_neg (by omega), if_pos rfl, ob_e, lb_e, a3.2.1, x_bitCount, ob_e]; rfl
  · refine ⟨_, ?_, a2⟩
    rw [if_neg (by omega), if_neg (by omega), if_pos rfl, ob_e, lb_e, a3.2.2.2.2.2.1.1 0 (by omega), lo_0, x_bitCount, ob_e]; rfl
  · refine ⟨_, ?_, a2⟩
    rw [if_neg (by omega), if_neg (by omega), if_neg (by omega), if_pos rfl, ob_e, lb_e, a3.2.2.2.2.2.2.2.2.2.2.2]; rfl
  · refine ⟨_, ?_, a2⟩
    rw [if_neg (by omega), if_neg (by omega), if_neg (by omega), if_neg (by omega), if_pos rfl, ob_e, lb_e, show f_X1_totalOf (nI 4 - (4 : Int32)) (rs em_CK (mg em_CK 0 s s1)) = some (nI (kc P 0 (pn P))) from tot 0 (by omega), ob_e]; rfl
  · refine ⟨_, ?_, a2⟩
    rw [if_neg (by omega), if_neg (by omega), if_neg (by omega), if_neg (by omega), if_neg (by omega), if_pos rfl, ob_e, lb_e, show f_X1_totalOf (nI 5 - (4 : Int32)) (rs em_CK (mg em_CK 0 s s1)) = some (nI (kc P 1 (pn P))) from tot 1 (by omega), ob_e]; rfl
  · refine ⟨_, ?_, a2⟩
    rw [if_neg (by omega), if_neg (by omega), if_neg (by omega), if_neg (by omega), if_neg (by omega), if_neg (by omega), if_pos rfl, ob_e, lb_e, show f_X1_totalOf (nI 6 - (4 : Int32)) (rs em_CK (mg em_CK 0 s s1)) = some (nI (kc P 2 (pn P))) from tot 2 (by omega), ob_e]; rfl
  · refine ⟨_, ?_, a2⟩
    rw [if_neg (by omega), if_neg (by omega), if_neg (by omega), if_neg (by omega), if_neg (by omega), if_neg (by omega), if_neg (by omega), if_pos rfl, ob_e, lb_e, show f_X1_totalOf (nI 7 - (4 : Int32)) (rs em_CK (mg em_CK 0 s s1)) = some (nI (kc P 3 (pn P))) from tot 3 (by omega), ob_e]; rfl
  · omega
end QQ
