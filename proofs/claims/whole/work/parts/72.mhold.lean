theorem lp_fx {S E A : Type} {body : S → Option (S ⊕ E)} (mk : Nat → A → S) (n : Nat) (I : Nat → A → Prop) (Q : E → Prop)
    (step : ∀ k a, k < n → I k a → (∃ a', body (mk k a) = some (.inl (mk (k + 1) a')) ∧ I (k + 1) a') ∨ ∃ e, body (mk k a) = some (.inr e) ∧ Q e)
    (fin : ∀ a, I n a → ∃ e, body (mk n a) = some (.inr e) ∧ Q e) : ∀ (fu k : Nat) (a : A), k ≤ n → I k a → n - k < fu → ∃ e, lp body fu (mk k a) = some e ∧ Q e
  | 0, k, a, _, _, h => by omega
  | fu + 1, k, a, hk, hi, h => by
    unfold lp
    by_cases e : k = n
    · subst e
      obtain ⟨x, h1, h2⟩ := fin a hi
      rw [h1]
      exact ⟨x, rfl, h2⟩
    · rcases step k a (by omega) hi with ⟨a', h1, h2⟩ | ⟨x, h1, h2⟩
      · rw [h1]
        exact lp_fx mk n I Q step fin fu (k + 1) a' (by omega) h2 (by omega)
      · rw [h1]
        exact ⟨x, rfl, h2⟩
def Bh (P : Pg) (k v b : Nat) (f : Bf) : Bool :=
  if lnd P k = true then (if v = px P k then decide (b = k) else f (8 * k + v))
  else if pk P k = 2 then (if v = pv P k ∧ thr P k = false then decide (b = 24) else f (8 * k + v))
  else if pk P k = 6 ∧ ¬ pv P k = px P k then (if v = px P k then f (8 * k + pv P k) else if v = pv P k then decide (b = 24) else f (8 * k + v))
  else f (8 * k + v)
theorem Bh_mon {P : Pg} (ho : pOK P) {k v b N : Nat} {f g : Bf} (hk : 8 * k + 8 ≤ N) (hv : v < 8) (h : ∀ i, i < N → f i = true → g i = true) (e : Bh P k v b f = true) : Bh P k v b g = true := by
  have hp := pv_lt ho k
  have hv1 := h (8 * k + v) (by omega)
  have hp1 := h (8 * k + pv P k) (by omega)
  unfold Bh at e ⊢
  by_cases c1 : lnd P k = true
  · by_cases c2 : v = px P k
    · rw [if_pos c1, if_pos c2] at e ⊢; exact e
    · rw [if_pos c1, if_neg c2] at e ⊢; exact hv1 e
  · by_cases c2 : pk P k = 2
    · by_cases c3 : v = pv P k ∧ thr P k = false
      · rw [if_neg c1, if_pos c2, if_pos c3] at e ⊢; exact e
      · rw [if_neg c1, if_pos c2, if_neg c3] at e ⊢; exact hv1 e
    · by_cases c4 : pk P k = 6 ∧ ¬ pv P k = px P k
      · by_cases c5 : v = px P k
        · rw [if_neg c1, if_neg c2, if_pos c4, if_pos c5] at e ⊢; exact hp1 e
        · by_cases c6 : v = pv P k
          · rw [if_neg c1, if_neg c2, if_pos c4, if_neg c5, if_pos c6] at e ⊢; exact e
          · rw [if_neg c1, if_neg c2, if_pos c4, if_neg c5, if_neg c6] at e ⊢; exact hv1 e
      · rw [if_neg c1, if_neg c2, if_neg c4] at e ⊢; exact hv1 e
def FH (P : Pg) (b : Nat) : Bf → Bf := fun f i => decide (i < 8 * pn P) && ex (pn P) (fun k => Rc P k && nx P k (i / 8) && Bh P k (i % 8) b f)
def bH (P : Pg) (b : Nat) : Bf := fun i => decide (i < 8) && decide (0 < pn P) && decide (b = 24)
def Ho (P : Pg) (i b : Nat) : Bool := lfp (FH P b) (bH P b) (8 * pn P) i
theorem FH_mon {P : Pg} (ho : pOK P) (b : Nat) : Mon (FH P b) (8 * pn P) := by
  intro f g h x hx e
  simp only [FH, Bool.and_eq_true, decide_eq_true_eq] at e ⊢
  refine ⟨hx, ex_mon (fun k hk e3 => ?_) e.2⟩
  simp only [Bool.and_eq_true] at e3 ⊢
  exact ⟨e3.1, Bh_mon ho (by omega) (Nat.mod_lt _ (by omega)) h e3.2⟩
theorem FH_lt (P : Pg) (b : Nat) (f : Bf) (x : Nat) (h : FH P b f x = true) : x < 8 * pn P := by
  simp only [FH, Bool.and_eq_true, decide_eq_true_eq] at h
  exact h.1
theorem bH_lt (P : Pg) (b x : Nat) (h : bH P b x = true) : x < 8 * pn P := by
  simp only [bH, Bool.and_eq_true, decide_eq_true_eq] at h
  omega
theorem FH_of {P : Pg} {b k t v : Nat} {f : Bf} (hk : k < pn P) (hr : Rc P k = true) (hx : nx P k t = true) (hv : v < 8) (hb : Bh P k v b f = true) : FH P b f (8 * t + v) = true := by
  have := nx_lt hx
  simp only [FH, Bool.and_eq_true, decide_eq_true_eq]
  refine ⟨by omega, ex_iff.mpr ⟨k, hk, ?_⟩⟩
  rw [show (8 * t + v) / 8 = t by omega, show (8 * t + v) % 8 = v by omega, hr, hx, hb]
  rfl
def rowH (m : sh_S) (H : Nat → Bf) : Nat → Int32 := fun i => if i < 192 then mkb (H i) else m 7 i
theorem rowH_lt {m : sh_S} {H : Nat → Bf} {i : Nat} (h : i < 192) : rowH m H i = mkb (H i) := by simp [rowH, h]
theorem rowH_upd (m : sh_S) (H : Nat → Bf) {p : Nat} (hp : p < 192) (w : Bf) : upd (rowH m H) p (mkb w) = rowH m (fun i => if i = p then w else H i) := by
  funext j
  unfold upd rowH
  by_cases e : j = p
  · subst e; simp [hp]
  · by_cases e2 : j < 192 <;> simp [e, e2]
theorem rowH_ext {m : sh_S} {H H' : Nat → Bf} (h : ∀ i, i < 192 → ∀ b, b < 25 → H i b = H' i b) : rowH m H = rowH m H' := by
  funext j
  unfold rowH
  by_cases e : j < 192
  · simp only [e, if_true]
    exact mkb_ext (h j e)
  · simp [e]
theorem ix8 (k v : Nat) : (8 : Int32) * nI k + nI v = nI (8 * k + v) := by
  rw [show (8 : Int32) * nI k = nI (8 * k) from pk_mul 8 k, nI_add]
section HH
variable {P : Pg} {m : sh_S}
theorem m_behind {s : sh_S} (h : PM P s) (ho : pOK P) {H : Nat → Bf} (hH : ∀ i, i < 192 → s 7 i = mkb (H i)) {k v : Nat} (hk : k < 24) (hv : v < 8) : f_X10_behind (nI k) (nI v) s = some (mkb (fun b => Bh P k v b (fun i => H i b))) := by
  have hl := m_lends h ho hk
  obtain ⟨h1, h2, h3, h4⟩ := h.2 k hk
  obtain ⟨o1, o2, o3, o4⟩ := ho.2 k
  have hpv := pv_lt ho k
  have hi : inb (nI k) 24 := inb_n hk (by omega)
  have e2 : (nI (pk P k) = (2 : Int32)) = (pk P k = 2) := nI_lt10 (c := 2) o1 (by omega)
  have e6 : (nI (pk P k) = (6 : Int32)) = (pk P k = 6) := nI_lt10 (c := 6) o1 (by omega)
  have ev : f_X10_variable (nI (pp P k)) = some (nI (pv P k)) := m_variable _ o3
  have et : f_X10_through (nI (pp P k)) = some (bi (thr P k)) := m_through _ o3
  have i1 : inb (nI (8 * k + v)) 192 := inb_n (by omega) (by omega)
  have i2 : inb (nI (8 * k + pv P k)) 192 := inb_n (by omega) (by omega)
  have q1 : (nI v = nI (px P k)) = (v = px P k) := nI_eqb (by omega) (by omega)
  have q2 : (nI v = nI (pv P k)) = (v = pv P k) := nI_eqb (by omega) (by omega)
  have q3 : (nI (pv P k) = nI (px P k)) = (pv P k = px P k) := nI_eqb (by omega) (by omega)
  unfold f_X10_behind
  simp only [gu_t hi, ix_n (show k < 2 ^ 31 by omega), h1, h2, h3, ev, et, hl, ob_e, lb_e, ix8, gu_t i1, gu_t i2, ix_n (show 8 * k + v < 2 ^ 31 by omega), ix_n (show 8 * k + pv P k < 2 ^ 31 by omega), hH _ (show 8 * k + v < 192 by omega), hH _ (show 8 * k + pv P k < 192 by omega), e2, e6, q1, q2, q3, bi_0, mkb_V, mkb_one (show k < 25 by omega)]
  unfold Bh
  cases c1 : lnd P k
  · simp only [if_true, Bool.false_eq_true, if_false]
    by_cases c2 : pk P k = 2
    · simp only [c2, if_true]
      by_cases c3 : v = pv P k
      · cases c4 : thr P k <;> simp [c3, ob]
      · simp [c3, ob]
    · simp only [c2, if_false]
      by_cases c6 : pk P k = 6
      · simp only [c6, if_true, true_and]
        by_cases c7 : pv P k = px P k
        · simp [c7]
        · by_cases c8 : v = px P k
          · simp [c7, c8, ob]
          · by_cases c9 : v = pv P k
            · simp [c7, c8, c9, ob]
            · simp [c7, c8, c9, ob]
      · simp [c6]
  · simp only [Bool.true_eq_false, if_false, if_true]
    by_cases c3 : v = px P k <;> simp [c3, ob]
def FI (P : Pg) (k : Nat) (H S : Nat → Bf) (fl : Bool) (D : Nat → Nat → Prop) : Prop :=
  (∀ b, (∀ i, H i b = true → S i b = true) ∧ (∀ t v, D t v → v < 8 → nx P k t = true → Bh P k v b (fun i => H i b) = true → S (8 * t + v) b = true) ∧ ∀ C : Bf, (∀ i, i < 8 * pn P → FH P b C i = true → C i = true) → (∀ i, H i b = true → C i = true) → ∀ i, S i b = true → C i = true) ∧ (fl = false → ∀ i, i < 192 → ∀ b, b < 25 → S i b = H i b)
theorem mH_15 (h : PM P m) (ho : pOK P) {H : Nat → Bf} {k t : Nat} (hk : k < pn P) (hr : Rc P k = true) (ht : t < pn P) (S : Nat → Bf) (fl : Bool) (hI : FI P k H S fl (fun t' _ => t' < t)) :
    ∃ S' fl', lp (fun q : Int32 × Int32 × sh_S => f_X10_flows_L15 (nI k) (nI t) q.1 q.2.1 q.2.2) FU (bi fl, (0 : Int32), ur m 7 (rowH m S)) = some (bi fl', ur m 7 (rowH m S')) ∧ FI P k H S' fl' (fun t' _ => t' < t + 1) := by
  have hn := ho.1
  have hh := lp_fx (body := fun q : Int32 × Int32 × sh_S => f_X10_flows_L15 (nI k) (nI t) q.1 q.2.1 q.2.2) (fun v (a : Bool × (Nat → Bf)) => (bi a.1, nI v, ur m 7 (rowH m a.2))) 8
    (fun v a => FI P k H a.2 a.1 (fun t' v' => t' < t ∨ (t' = t ∧ v' < v)))
    (fun e => ∃ S' fl', e = (bi fl', ur m 7 (rowH m S')) ∧ FI P k H S' fl' (fun t' _ => t' < t + 1))
    (fun v a hv hi => by
      obtain ⟨fl, S⟩ := a
      have hi : FI P k H S fl (fun t' v' => t' < t ∨ (t' = t ∧ v' < v)) := hi
      have hP : PM P (ur m 7 (rowH m S)) := h.row (by omega) _
      have hS : ∀ i, i < 192 → ur m 7 (rowH m S) 7 i = mkb (S i) := fun i hi => by rw [ur_s, rowH_lt hi]
      have i1 : inb (nI (8 * t + v)) 192 := inb_n (by omega) (by omega)
      cases hx : nx P k t with
      | false =>
        refine Or.inr ⟨(bi fl, ur m 7 (rowH m S)), ?_, S, fl, rfl, fun b => ⟨(hi.1 b).1, fun t' v' ht' hv' hn' hb' => ?_, (hi.1 b).2.2⟩, hi.2⟩
        · show f_X10_flows_L15 (nI k) (nI t) (bi fl) (nI v) (ur m 7 (rowH m S)) = _
          unfold f_X10_flows_L15
          rw [if_neg (show ¬ (8 : Int32) ≤ nI v from nI_ge (b := 8) hv (by omega)), m_nextOf hP ho (by omega), ob_e, m_isIn (by omega), ob_e, hx, if_pos (by decide)]
        · by_cases e : t' = t
          · subst e; rw [hx] at hn'; cases hn'
          · exact (hi.1 b).2.1 t' v' (Or.inl (by omega)) hv' hn' hb'
      | true =>
        refine Or.inl ⟨(fl || !decide (mkb (fun b => S (8 * t + v) b || Bh P k v b (fun i => S i b)) = mkb (S (8 * t + v))), fun i b => S i b || (decide (i = 8 * t + v) && Bh P k v b (fun i => S i b))), ?_, fun b => ⟨fun i hi2 => by simp [(hi.1 b).1 i hi2], fun t' v' hD hv' hn' hb' => ?_, fun C hC hg i hs => ?_⟩, fun hfl i hi2 b hb => ?_⟩
        · show f_X10_flows_L15 (nI k) (nI t) (bi fl) (nI v) (ur m 7 (rowH m S)) = _
          unfold f_X10_flows_L15
          rw [if_neg (show ¬ (8 : Int32) ≤ nI v from nI_ge (b := 8) hv (by omega)), m_nextOf hP ho (by omega), ob_e, m_isIn (by omega), ob_e, hx, if_neg (by decide), ix8, gu_t i1, m_behind hP ho hS (by omega) hv, ob_e, lb_e]
          simp only [gu_t i1, ix_n (show 8 * t + v < 2 ^ 31 by omega), hS _ (show 8 * t + v < 192 by omega), mkb_or, ur_s, ur_ur, rowH_upd m S (show 8 * t + v < 192 by omega), nI_1]
          have er : rowH m (fun i => if i = 8 * t + v then (fun i => S (8 * t + v) i || Bh P k v i (fun i_1 => S i_1 i)) else S i) = rowH m (fun i b => S i b || (decide (i = 8 * t + v) && Bh P k v b (fun i => S i b))) := by
            apply rowH_ext
            intro i _ b _
            by_cases e : i = 8 * t + v
            · subst e; simp
            · simp [e]
          rw [er]
          cases fl
          · by_cases e : mkb (fun b => S (8 * t + v) b || Bh P k v b (fun i => S i b)) = mkb (S (8 * t + v))
            · simp [bi, e, ob, lb]
            · simp [bi, e, ob, lb]
          · simp [bi, ob, lb]
        · have hb2 := Bh_mon ho (N := 8 * pn P) (g := fun i => S i b) (by omega) hv' (fun i _ hi2 => (hi.1 b).1 i hi2) hb'
          by_cases e : t' = t ∧ v' = v
          · obtain ⟨rfl, rfl⟩ := e; simp [hb2]
          · have : S (8 * t' + v') b = true := (hi.1 b).2.1 t' v' (by omega) hv' hn' hb'
            simp [this]
        · simp only [Bool.or_eq_true, Bool.and_eq_true, decide_eq_true_eq] at hs
          rcases hs with hs | ⟨rfl, hs⟩
          · exact (hi.1 b).2.2 C hC hg i hs
          · refine hC _ (by omega) (FH_of hk hr hx hv (Bh_mon ho (N := 8 * pn P) (by omega) hv (fun i _ hi2 => (hi.1 b).2.2 C hC hg i hi2) hs))
        · simp only [Bool.or_eq_false_iff, Bool.not_eq_false', decide_eq_true_eq] at hfl
          show (S i b || _) = _
          by_cases e : i = 8 * t + v
          · subst e
            have := mkb_inj hfl.2 hb
            simp only [decide_true, Bool.true_and]
            rw [this]
            exact hi.2 hfl.1 _ hi2 b hb
          · simp only [e, decide_false, Bool.false_and, Bool.or_false]
            exact hi.2 hfl.1 i hi2 b hb)
    (fun a hi => ⟨(bi a.1, ur m 7 (rowH m a.2)), by
      show f_X10_flows_L15 (nI k) (nI t) (bi a.1) (nI 8) (ur m 7 (rowH m a.2)) = _
      unfold f_X10_flows_L15
      rw [if_pos (by decide)], a.2, a.1, rfl, fun b => ⟨(hi.1 b).1, fun t' v' ht' hv' => (hi.1 b).2.1 t' v' (by omega) hv', (hi.1 b).2.2⟩, hi.2⟩)
    FU 0 (fl, S) (Nat.zero_le _) ⟨fun b => ⟨(hI.1 b).1, fun t' v' hD hv' => (hI.1 b).2.1 t' v' (by omega) hv', (hI.1 b).2.2⟩, hI.2⟩ (FU_gt (by omega))
  obtain ⟨e, h1, S', fl', rfl, h2⟩ := hh
  exact ⟨S', fl', h1, h2⟩
theorem m_flows (h : PM P m) (ho : pOK P) {k : Nat} (hk : k < pn P) (hr : Rc P k = true) (H : Nat → Bf) :
    ∃ S fl, f_X10_flows (nI k) (ur m 7 (rowH m H)) = some (bi fl, ur m 7 (rowH m S)) ∧ FI P k H S fl (fun t _ => t < pn P) := by
  have hn := ho.1
  have hh := lp_for (body := fun q : Int32 × Int32 × sh_S => f_X10_flows_L4 (nI k) q.1 q.2.1 q.2.2) (fun t (a : Bool × (Nat → Bf)) => (bi a.1, nI t, ur m 7 (rowH m a.2))) (pn P)
    (fun t a => FI P k H a.2 a.1 (fun t' _ => t' < t))
    (fun e => ∃ S fl, e = (bi fl, ur m 7 (rowH m S)) ∧ FI P k H S fl (fun t _ => t < pn P))
    (fun t a ht hi => by
      obtain ⟨S', fl', e1, e2⟩ := mH_15 h ho hk hr ht a.2 a.1 hi
      refine ⟨(fl', S'), ?_, e2⟩
      show f_X10_flows_L4 (nI k) (bi a.1) (nI t) (ur m 7 (rowH m a.2)) = _
      unfold f_X10_flows_L4
      rw [ur_n _ _ (by omega), h.1, if_neg (nI_ge ht (by omega)), e1, ob2_e, lb_e, nI_1])
    (fun a hi => ⟨_, by
      show f_X10_flows_L4 (nI k) (bi a.1) (nI (pn P)) (ur m 7 (rowH m a.2)) = _
      unfold f_X10_flows_L4
      rw [ur_n _ _ (by omega), h.1, if_pos (nI_le (Nat.le_refl _) (by omega))], a.2, a.1, rfl, hi⟩)
    FU 0 (false, H) (Nat.zero_le _) ⟨fun b => ⟨fun _ hx => hx, fun t v ht => by omega, fun C _ hg x hx => hg x hx⟩, fun _ _ _ _ _ => rfl⟩ (FU_gt (by omega))
  obtain ⟨e, h1, S, fl, rfl, h2⟩ := hh
  refine ⟨S, fl, ?_, h2⟩
  unfold f_X10_flows
  refine (congrArg (fun z => ob2 z _) h1).trans ?_
  rw [ob2_e, gu_t (bi_z fl)]
end HH
