def RLs (s m : sh_S) : Prop := ∃ P T, pOK P ∧ SOK T ∧ XI P T s ∧ MI P T m
def Sim {α : Type} (f g : sh_S → Option (α × sh_S)) : Prop := ∀ s m, RLs s m → ∃ a s' m', f s = some (a, s') ∧ g m = some (a, m') ∧ RLs s' m'
theorem Sim.q {α : Type} {f g : sh_S → Option (α × sh_S)} (h : ∀ P T, pOK P → SOK T → ∃ a, QX P T f a ∧ QM P T g a) : Sim f g := by
  intro s m ⟨P, T, h1, h2, h3, h4⟩
  obtain ⟨a, q1, q2⟩ := h P T h1 h2
  obtain ⟨s', a1, a2⟩ := q1 s h3
  obtain ⟨m', b1, b2⟩ := q2 m h4
  exact ⟨a, s', m', a1, b1, P, T, h1, h2, a2, b2⟩
def inr (x : Int32) (lo hi : Int32) : Bool := !decide (x < lo) && !decide (hi < x)
theorem inr_of {x : Int32} {b : Nat} (hb : b < 2 ^ 31) (h : inr x 0 (nI b) = true) : ∃ n, n ≤ b ∧ x = nI n := by
  simp only [inr, Bool.and_eq_true, Bool.not_eq_true', decide_eq_false_iff_not] at h
  obtain ⟨n, h1, h2⟩ := nI_of h.1
  refine ⟨n, ?_, h2⟩
  have h3 := h.2
  rw [h2] at h3
  apply Classical.byContradiction
  intro q
  exact h3 (nI_lt (by omega) h1)
def wl (a b c d : Int32) : Bool := inr a 0 9 && (inr b 0 7 && (inr c 0 47 && inr d 0 23))
theorem x_mayBe (a b c d : Int32) : f_X9_mayBe a b c d = some (bi (wl a b c d)) := by
  unfold f_X9_mayBe f_X9_isVariable
  rw [x_bw, x_bw, x_bw, x_bw]
  show ob (some (bi (inr a 0 9))) (fun v1 => ob (if v1 = 0 then some (0 : Int32) else ob (ob (some (bi (inr b 0 7))) (fun v1 => gu (v1 = 0 ∨ v1 = 1) (some v1))) (fun v3 => (if v3 = 0 then some (0 : Int32) else ob (some (bi (inr c 0 47))) (fun v4 => (if v4 = 0 then some (0 : Int32) else ob (some (bi (inr d 0 23))) (fun v5 => (if v5 = 0 then some (0 : Int32) else some (1 : Int32)))))))) (fun v2 => gu (v2 = 0 ∨ v2 = 1) (some v2))) = _
  unfold wl
  cases inr a 0 9 <;> cases inr b 0 7 <;> cases inr c 0 47 <;> cases inr d 0 23 <;> decide
theorem m_isWell (a b c d : Int32) : f_X10_isWell a b c d = some (bi (wl a b c d)) := by
  unfold f_X10_isWell
  rw [m_in, m_in, m_in, m_in]
  show ob (some (bi (inr a 0 9))) (fun v1 => ob (if v1 = 0 then some (0 : Int32) else ob (some (bi (inr b 0 7))) (fun v3 => (if v3 = 0 then some (0 : Int32) else ob (some (bi (inr c 0 47))) (fun v4 => (if v4 = 0 then some (0 : Int32) else ob (some (bi (inr d 0 23))) (fun v5 => (if v5 = 0 then some (0 : Int32) else some (1 : Int32)))))))) (fun v2 => gu (v2 = 0 ∨ v2 = 1) (some v2))) = _
  unfold wl
  cases inr a 0 9 <;> cases inr b 0 7 <;> cases inr c 0 47 <;> cases inr d 0 23 <;> decide
theorem wl_of {a b c d : Int32} (h : wl a b c d = true) : ∃ a' b' c' d', a' < 10 ∧ b' < 8 ∧ c' < 48 ∧ d' < 24 ∧ a = nI a' ∧ b = nI b' ∧ c = nI c' ∧ d = nI d' := by
  simp only [wl, Bool.and_eq_true] at h
  obtain ⟨a', h1, h2⟩ := inr_of (b := 9) (by omega) h.1
  obtain ⟨b', h3, h4⟩ := inr_of (b := 7) (by omega) h.2.1
  obtain ⟨c', h5, h6⟩ := inr_of (b := 47) (by omega) h.2.2.1
  obtain ⟨d', h7, h8⟩ := inr_of (b := 23) (by omega) h.2.2.2
  exact ⟨a', b', c', d', by omega, by omega, by omega, by omega, h2, h4, h6, h8⟩
def setq (P : Pg) (n k a b c d : Nat) : Pg := (n, fun j => if j = k then a else pk P j, fun j => if j = k then b else px P j, fun j => if j = k then c else pp P j, fun j => if j = k then d else pt P j)
theorem setq_ok {P : Pg} (ho : pOK P) {n k a b c d : Nat} (hn : n ≤ 24) (ha : a < 10) (hb : b < 8) (hc : c < 48) (hd : d < 24) : pOK (setq P n k a b c d) := by
  refine ⟨hn, fun j => ?_⟩
  have h := ho.2 j
  show (if j = k then a else pk P j) < 10 ∧ (if j = k then b else px P j) < 8 ∧ (if j = k then c else pp P j) < 48 ∧ (if j = k then d else pt P j) < 24
  by_cases e : j = k
  · simp only [if_pos e]; exact ⟨ha, hb, hc, hd⟩
  · simp only [if_neg e]; exact h
def setn (P : Pg) (n : Nat) : Pg := (n, P.2)
theorem setn_ok {P : Pg} (ho : pOK P) {n : Nat} (hn : n ≤ 24) : pOK (setn P n) := ⟨hn, ho.2⟩
theorem LX_n {P : Pg} {s : sh_S} (h : LX P s) (n : Nat) : LX (setn P n) (ur s 0 (upd (s 0) 9 (nI n))) := by
  refine ⟨by rw [ur_s, upd_s]; rfl, fun k hk => ?_⟩
  rw [ur_n _ _ (by omega), ur_n _ _ (by omega), ur_n _ _ (by omega), ur_n _ _ (by omega), ur_n _ _ (by omega), ur_n _ _ (by omega), ur_n _ _ (by omega), ur_n _ _ (by omega), ur_n _ _ (by omega)]
  exact h.2 k hk
def fil (s : sh_S) (k b c d : Nat) : sh_S := ur (ur (ur (ur (ur s 2 (upd (s 2) k (nI b))) 3 (upd (s 3) k (nI c))) 4 (upd (s 4) k (nI d))) 6 (upd (s 6) k (nI (c / 6)))) 7 (upd (s 7) k (nI (c % 6)))
theorem fil_n (s : sh_S) (k b c d : Nat) {j : Nat} (h2 : j ≠ 2) (h3 : j ≠ 3) (h4 : j ≠ 4) (h6 : j ≠ 6) (h7 : j ≠ 7) : fil s k b c d j = s j := by
  unfold fil; rw [ur_n _ _ h7, ur_n _ _ h6, ur_n _ _ h4, ur_n _ _ h3, ur_n _ _ h2]
theorem fil_2 (s : sh_S) (k b c d : Nat) : fil s k b c d 2 = upd (s 2) k (nI b) := by
  unfold fil; rw [ur_n _ _ (by omega), ur_n _ _ (by omega), ur_n _ _ (by omega), ur_n _ _ (by omega), ur_s]
theorem fil_3 (s : sh_S) (k b c d : Nat) : fil s k b c d 3 = upd (s 3) k (nI c) := by
  unfold fil; rw [ur_n _ _ (by omega), ur_n _ _ (by omega), ur_n _ _ (by omega), ur_s]
theorem fil_4 (s : sh_S) (k b c d : Nat) : fil s k b c d 4 = upd (s 4) k (nI d) := by
  unfold fil; rw [ur_n _ _ (by omega), ur_n _ _ (by omega), ur_s]
theorem fil_6 (s : sh_S) (k b c d : Nat) : fil s k b c d 6 = upd (s 6) k (nI (c / 6)) := by
  unfold fil; rw [ur_n _ _ (by omega), ur_s]
theorem fil_7 (s : sh_S) (k b c d : Nat) : fil s k b c d 7 = upd (s 7) k (nI (c % 6)) := by
  unfold fil; rw [ur_s]
theorem x_fill {s : sh_S} {k a b c d : Nat} (hk : k < 24) (ha : a < 10) (hc : c < 48) : f_X4_fill (nI k) (nI a) (nI b) (nI c) (nI d) s = some (trn (fil s k b c d) k a (c % 6)) := by
  have i1 : inb (nI k) 24 := inb_n hk (by omega)
  have z : f_X4_turn (nI k) (nI a) (fil s k b c d) = some (trn (fil s k b c d) k a (c % 6)) := x_turn0 (by rw [fil_7, upd_s]) (by omega) hk ha
  unfold f_X4_fill
  rw [rem6 (show c < 2 ^ 31 by omega), div6 (show c < 2 ^ 31 by omega)]
  simp only [gu_t i1, lb_e, ix_n (show k < 2 ^ 31 by omega)]
  have n1 : ∀ (x : sh_S) (g : Nat → Int32), ur x 2 g 3 = x 3 := fun _ _ => ur_n _ _ (by omega)
  have n2 : ∀ (x : sh_S) (g : Nat → Int32), ur x 2 g 4 = x 4 := fun _ _ => ur_n _ _ (by omega)
  have n3 : ∀ (x : sh_S) (g : Nat → Int32), ur x 2 g 6 = x 6 := fun _ _ => ur_n _ _ (by omega)
  have n4 : ∀ (x : sh_S) (g : Nat → Int32), ur x 2 g 7 = x 7 := fun _ _ => ur_n _ _ (by omega)
  have n5 : ∀ (x : sh_S) (g : Nat → Int32), ur x 3 g 4 = x 4 := fun _ _ => ur_n _ _ (by omega)
  have n6 : ∀ (x : sh_S) (g : Nat → Int32), ur x 3 g 6 = x 6 := fun _ _ => ur_n _ _ (by omega)
  have n7 : ∀ (x : sh_S) (g : Nat → Int32), ur x 3 g 7 = x 7 := fun _ _ => ur_n _ _ (by omega)
  have n8 : ∀ (x : sh_S) (g : Nat → Int32), ur x 4 g 6 = x 6 := fun _ _ => ur_n _ _ (by omega)
  have n9 : ∀ (x : sh_S) (g : Nat → Int32), ur x 4 g 7 = x 7 := fun _ _ => ur_n _ _ (by omega)
  have n10 : ∀ (x : sh_S) (g : Nat → Int32), ur x 6 g 7 = x 7 := fun _ _ => ur_n _ _ (by omega)
  simp only [n1, n2, n3, n4, n5, n6, n7, n8, n9, n10]
  show ob (f_X4_turn (nI k) (nI a) (fil s k b c d)) (fun s11 => some s11) = _
  rw [z, ob_e]
theorem LX_fill {P : Pg} {s : sh_S} (h : LX P s) {k a b c d : Nat} : LX (setq P (pn P) k a b c d) (trn (fil s k b c d) k a (c % 6)) := by
  have T := fun j (h1 : j ≠ 1) (h5 : j ≠ 5) (h8 : j ≠ 8) (h9 : j ≠ 9) => trn_n (fil s k b c d) k a (c % 6) (j := j) h1 h5 h8 h9
  refine ⟨by rw [T 0 (by omega) (by omega) (by omega) (by omega), fil_n _ _ _ _ _ (by omega) (by omega) (by omega) (by omega) (by omega)]; exact h.1, fun j hj => ?_⟩
  obtain ⟨h1, h2, h3, h4, h5, h6, h7, h8, h9⟩ := h.2 j hj
  rw [trn_1, trn_5, trn_8, trn_9, T 2 (by omega) (by omega) (by omega) (by omega), T 3 (by omega) (by omega) (by omega) (by omega), T 4 (by omega) (by omega) (by omega) (by omega), T 6 (by omega) (by omega) (by omega) (by omega), T 7 (by omega) (by omega) (by omega) (by omega), fil_2, fil_3, fil_4, fil_6, fil_7, fil_n s k b c d (j := 1) (by omega) (by omega) (by omega) (by omega) (by omega), fil_n s k b c d (j := 5) (by omega) (by omega) (by omega) (by omega) (by omega), fil_n s k b c d (j := 8) (by omega) (by omega) (by omega) (by omega) (by omega), fil_n s k b c d (j := 9) (by omega) (by omega) (by omega) (by omega) (by omega)]
  by_cases e : j = k
  · subst e
    have ek : pk (setq P (pn P) j a b c d) j = a := by show (if j = j then a else pk P j) = _; rw [if_pos rfl]
    have ex' : px (setq P (pn P) j a b c d) j = b := by show (if j = j then b else px P j) = _; rw [if_pos rfl]
    have ep : pp (setq P (pn P) j a b c d) j = c := by show (if j = j then c else pp P j) = _; rw [if_pos rfl]
    have et : pt (setq P (pn P) j a b c d) j = d := by show (if j = j then d else pt P j) = _; rw [if_pos rfl]
    simp only [upd_s]
    refine ⟨by rw [ek], by rw [ex'], by rw [ep], by rw [et], ?_, ?_, by rw [ep], ?_, ?_⟩
    · simp only [ak, ek, thr, ep, decide_eq_true_eq]
    · simp only [pv, ep]
    · simp only [lnd, ek]
    · simp only [gt, ek, thr, ep]
  · have ek : pk (setq P (pn P) k a b c d) j = pk P j := by show (if j = k then a else pk P j) = _; rw [if_neg e]
    have ex' : px (setq P (pn P) k a b c d) j = px P j := by show (if j = k then b else px P j) = _; rw [if_neg e]
    have ep : pp (setq P (pn P) k a b c d) j = pp P j := by show (if j = k then c else pp P j) = _; rw [if_neg e]
    have et : pt (setq P (pn P) k a b c d) j = pt P j := by show (if j = k then d else pt P j) = _; rw [if_neg e]
    simp only [upd_n _ _ e]
    refine ⟨by rw [ek]; exact h1, by rw [ex']; exact h2, by rw [ep]; exact h3, by rw [et]; exact h4, ?_, ?_, by rw [ep]; exact h7, ?_, ?_⟩
    · simp only [ak, ek, thr, ep]; exact h5
    · simp only [pv, ep]; exact h6
    · simp only [lnd, ek]; exact h8
    · simp only [gt, ek, thr, ep]; exact h9
section ED
variable {P : Pg} {T : SH} {s m : sh_S}
theorem x_forget (hX : LX P s) (hT : XS T s) : ∃ s', f_X9_forget s = some s' ∧ XI P T s' := by
  unfold f_X9_forget f_X0_forget
  rw [lb_e, ob_e, lb_e]
  have q1 : ∀ k, 31 ≤ k → mg em_CK 0 s (ur (rs em_CK s) 10 (upd (rs em_CK s 10) 1 0)) k = s k := fun k hk => CK_out _ _ hk
  have q2 : mg em_CK 0 s (ur (rs em_CK s) 10 (upd (rs em_CK s 10) 1 0)) 10 1 = 0 := by rw [CK_in _ _ (by omega), ur_s, upd_s]
  have q3 : LX P (mg em_CK 0 s (ur (rs em_CK s) 10 (upd (rs em_CK s 10) 1 0))) := hX.of (fun k hk => by rw [CK_in _ _ (by omega), ur_n _ _ (by omega), CK_rs _ (by omega)])
  generalize mg em_CK 0 s (ur (rs em_CK s) 10 (upd (rs em_CK s 10) 1 0)) = t at q1 q2 q3 ⊢
  unfold f_X5_forget f_X7_forget f_X8_forget
  rw [lb_e, lb_e, ob_e, lb_e, ob_e, lb_e, ob_e]
  refine ⟨_, rfl, ?_, Or.inl ?_, ⟨Or.inl ?_, Or.inl ?_⟩, fun i hi hs => ?_, Or.inl ?_, hT.of (fun k hk => ?_)⟩
  · refine q3.of (fun k hk => ?_)
    rw [ur_n _ _ (by omega), ur_n _ _ (by omega), ur_n _ _ (by omega), ur_n _ _ (by omega)]
  · rw [ur_n _ _ (by omega), ur_n _ _ (by omega), ur_n _ _ (by omega), ur_n _ _ (by omega)]; exact q2
  · rw [ur_n _ _ (by omega), ur_n _ _ (by omega), ur_s, upd_n _ _ (by omega), ur_s, upd_s]
  · rw [ur_n _ _ (by omega), ur_n _ _ (by omega), ur_s, upd_s]
  · rw [ur_n _ _ (by omega), ur_s, upd_s] at hs
    exact absurd hs.symm (neg1 (by omega))
  · rw [ur_s, upd_s]
  · rw [ur_n _ _ (by omega), ur_n _ _ (by omega), ur_n _ _ (by omega), ur_n _ _ (by omega), q1 k (by omega)]
theorem x_append (h : XI P T s) (ho : pOK P) (hn : pn P < 24) {a b c d : Nat} (ha : a < 10) (hc : c < 48) : ∃ s', f_X9_append (nI a) (nI b) (nI c) (nI d) s = some s' ∧ XI (setq P (pn P + 1) (pn P) a b c d) T s' := by
  obtain ⟨h1, h2, h3, h4, h5, h6⟩ := h
  unfold f_X9_append
  rw [h1.1, x_fill hn ha hc, ob_e, lb_e]
  have hX1 : LX P (rs em_LI s) := h1.of (fun j hj => LI_rs s hj)
  have hX2 := LX_fill hX1 (k := pn P) (a := a) (b := b) (c := c) (d := d)
  generalize trn (fil (rs em_LI s) (pn P) b c d) (pn P) a (c % 6) = s1 at hX2 ⊢
  have hX3 : LX (setq P (pn P) (pn P) a b c d) (mg em_LI 0 s s1) := hX2.of (fun j hj => LI_in s s1 hj)
  have q : ∀ k, 10 ≤ k → mg em_LI 0 s s1 k = s k := fun k hk => LI_out s s1 hk
  generalize mg em_LI 0 s s1 = t at hX3 q ⊢
  have e9 : t 0 9 = nI (pn P) := hX3.1
  rw [lb_e, e9, nI_1]
  have hX4 := LX_n hX3 (pn P + 1)
  obtain ⟨s', z1, z2⟩ := x_forget (T := T) hX4 (h6.of (fun k hk => by rw [ur_n _ _ (by omega), q k (by omega)]))
  rw [z1, ob_e]
  exact ⟨s', rfl, z2⟩
theorem PM_put (h : PM P m) {n k a b c d : Nat} (hk : k < 24) : ∃ t, f_X10_puts (nI k) (nI a) (nI b) (nI c) (nI d) m = some t ∧ (∀ j, (j < 1 ∨ 4 < j) → t j = m j) ∧ PM (setq P n k a b c d) (ur t 0 (upd (t 0) 0 (nI n))) := by
  have i1 : inb (nI k) 24 := inb_n hk (by omega)
  unfold f_X10_puts
  simp only [gu_t i1, lb_e, ix_n (show k < 2 ^ 31 by omega)]
  refine ⟨_, rfl, fun j hj => ?_, ⟨by rw [ur_s, upd_s]; rfl, fun j hj => ?_⟩⟩
  · rw [ur_n _ _ (by omega), ur_n _ _ (by omega), ur_n _ _ (by omega), ur_n _ _ (by omega)]
  · obtain ⟨h1, h2, h3, h4⟩ := h.2 j hj
    by_cases e : j = k
    · subst e
      simp [ur, upd, setq, pk, px, pp, pt]
    · simp [ur, upd, setq, pk, px, pp, pt, e]
      exact ⟨h1, h2, h3, h4⟩
theorem MS.of {t : sh_S} (h : MS T m) (e : ∀ k, 22 ≤ k → k ≤ 25 → t k = m k) (e0 : t 0 35 = m 0 35) : MS T t := by
  refine ⟨fun k hk => ?_, by rw [e0]; exact h.2⟩
  rw [e 22 (by omega) (by omega), e 23 (by omega) (by omega), e 24 (by omega) (by omega), e 25 (by omega) (by omega)]
  exact h.1 k hk
theorem m_addN (h : MI P T m) (ho : pOK P) (hn : pn P < 24) {a b c d : Nat} (hw : wl (nI a) (nI b) (nI c) (nI d) = true) : ∃ m', f_X10_add (nI a) (nI b) (nI c) (nI d) m = some (nI (pn P + 1), m') ∧ MI (setq P (pn P + 1) (pn P) a b c d) T m' := by
  obtain ⟨t, z1, z2, z3⟩ := PM_put h.1 (n := pn P + 1) (k := pn P) (a := a) (b := b) (c := c) (d := d) hn
  unfold f_X10_add
  have e24 : ¬ nI (pn P) = (24 : Int32) := fun q => by
    have := (nI_eq (a := pn P) (b := 24) (by omega) (by omega)).mp q
    omega
  have e0 : t 0 0 = nI (pn P) := by rw [z2 0 (by omega)]; exact h.1.1
  rw [m_isWell, hw, ob_e, if_neg (show ¬ bi true = (0 : Int32) by decide), h.1.1, if_neg e24, z1, ob_e, lb_e, e0, nI_1]
  refine ⟨_, ?_, z3, h.2.of (fun k h1 h2 => by rw [ur_n _ _ (by omega), z2 k (by omega)]) (by rw [ur_s, upd_n _ _ (by omega), z2 0 (by omega)])⟩
  rw [ur_s, upd_s]
theorem RLs.of (hP : pOK P) (hT : SOK T) (h1 : XI P T s) (h2 : MI P T m) : RLs s m := ⟨P, T, hP, hT, h1, h2⟩
end ED
theorem sim_add (a b c d : Int32) : Sim (f_X9_add a b c d) (f_X10_add a b c d) := by
  intro s m ⟨P, T, hP, hT, h1, h2⟩
  have hn := hP.1
  cases hw : wl a b c d with
  | false =>
    refine ⟨-2, s, m, ?_, ?_, P, T, hP, hT, h1, h2⟩
    · unfold f_X9_add
      rw [x_mayBe, hw, ob_e, if_pos (show bi false = (0 : Int32) from rfl)]
    · unfold f_X10_add
      rw [m_isWell, hw, ob_e, if_pos (show bi false = (0 : Int32) from rfl)]
  | true =>
    obtain ⟨a', b', c', d', q1, q2, q3, q4, rfl, rfl, rfl, rfl⟩ := wl_of hw
    by_cases e : pn P < 24
    · obtain ⟨s', z1, z2⟩ := x_append h1 hP e (b := b') (d := d') q1 q3
      obtain ⟨m', y1, y2⟩ := m_addN h2 hP e hw
      refine ⟨nI (pn P + 1), s', m', ?_, y1, _, T, setq_ok hP (by omega) q1 q2 q3 q4, hT, z2, y2⟩
      unfold f_X9_add
      rw [x_mayBe, hw, ob_e, if_neg (show ¬ bi true = (0 : Int32) by decide), h1.1.1, if_pos (show nI (pn P) < (24 : Int32) from nI_lt (b := 24) e (by omega)), z1, ob_e, z2.1.1]
      rfl
    · have e24 : pn P = 24 := by omega
      refine ⟨-4, s, m, ?_, ?_, P, T, hP, hT, h1, h2⟩
      · unfold f_X9_add
        rw [x_mayBe, hw, ob_e, if_neg (show ¬ bi true = (0 : Int32) by decide), h1.1.1, e24, if_neg (by decide)]
      · unfold f_X10_add
        rw [m_isWell, hw, ob_e, if_neg (show ¬ bi true = (0 : Int32) by decide), h2.1.1, e24, if_pos (by decide)]
theorem sim_alter (x a b c d : Int32) : Sim (f_X9_alter x a b c d) (f_X10_alter x a b c d) := by
  intro s m ⟨P, T, hP, hT, h1, h2⟩
  have hn := hP.1
  unfold f_X9_alter f_X10_alter
  rw [LXl h1.1, m_isPoint h2.1 hn, ob_e, ob_e]
  cases hz : isPt (pn P) x with
  | false =>
    rw [if_pos (show bi false = (0 : Int32) from rfl), if_pos (show bi false = (0 : Int32) from rfl)]
    exact ⟨-2, s, m, rfl, rfl, P, T, hP, hT, h1, h2⟩
  | true =>
    obtain ⟨k, hk, rfl⟩ := isPt_of hn hz
    rw [if_neg (show ¬ bi true = (0 : Int32) by decide), if_neg (show ¬ bi true = (0 : Int32) by decide), x_mayBe, m_isWell, ob_e, ob_e]
    cases hw : wl a b c d with
    | false =>
      rw [if_pos (show bi false = (0 : Int32) from rfl), if_pos (show bi false = (0 : Int32) from rfl)]
      exact ⟨-2, s, m, rfl, rfl, P, T, hP, hT, h1, h2⟩
    | true =>
      obtain ⟨a', b', c', d', q1, q2, q3, q4, rfl, rfl, rfl, rfl⟩ := wl_of hw
      rw [if_neg (show ¬ bi true = (0 : Int32) by decide), if_neg (show ¬ bi true = (0 : Int32) by decide), x_fill (by omega) q1 q3, ob_e, lb_e]
      have hX1 : LX P (rs em_LI s) := h1.1.of (fun j hj => LI_rs s hj)
      have hX2 := LX_fill hX1 (k := k) (a := a') (b := b') (c := c') (d := d')
      generalize trn (fil (rs em_LI s) k b' c' d') k a' (c' % 6) = s1 at hX2 ⊢
      have hX3 : LX (setq P (pn P) k a' b' c' d') (mg em_LI 0 s s1) := hX2.of (fun j hj => LI_in s s1 hj)
      obtain ⟨s', z1, z2⟩ := x_forget (T := T) hX3 (h1.2.2.2.2.2.of (fun i hi => LI_out s s1 (by omega)))
      obtain ⟨t, y1, y2, y3⟩ := PM_put h2.1 (n := pn P) (k := k) (a := a') (b := b') (c := c') (d := d') (by omega)
      rw [z1, ob_e, y1, ob_e]
      refine ⟨1, s', t, rfl, rfl, _, T, setq_ok hP hn q1 q2 q3 q4, hT, z2, ?_, h2.2.of (fun i i1 i2 => y2 i (by omega)) (by rw [y2 0 (by omega)])⟩
      have e0 : t 0 0 = nI (pn P) := by rw [y2 0 (by omega)]; exact h2.1.1
      rw [← e0, upd_id, ur_id] at y3
      exact y3
theorem sim_back : Sim f_X9_back f_X10_back := by
  intro s m ⟨P, T, hP, hT, h1, h2⟩
  have hn := hP.1
  have e0 : (nI (pn P) = (0 : Int32)) = (pn P = 0) := nI_eqb (b := 0) (by omega) (by omega)
  unfold f_X9_back f_X10_back
  rw [h1.1.1, h2.1.1]
  by_cases e : pn P = 0
  · refine ⟨-3, s, m, ?_, ?_, P, T, hP, hT, h1, h2⟩
    · rw [if_pos (by rw [e0]; exact e)]
    · rw [if_pos (by rw [e0]; exact e)]
  · have e1 : nI (pn P) - (1 : Int32) = nI (pn P - 1) := by
      have : nI (pn P) - nI 1 = nI (pn P - 1) := pk_sub (by omega)
      exact this
    rw [if_neg (by rw [e0]; exact e), if_neg (by rw [e0]; exact e), lb_e, lb_e, e1]
    obtain ⟨s', z1, z2⟩ := x_forget (T := T) (LX_n h1.1 (pn P - 1)) (h1.2.2.2.2.2.of (fun k hk => ur_n _ _ (by omega)))
    rw [z1, ob_e]
    refine ⟨nI (pn P - 1), s', ur m 0 (upd (m 0) 0 (nI (pn P - 1))), ?_, ?_, setn P (pn P - 1), T, setn_ok hP (by omega), hT, z2, ⟨?_, fun k hk => ?_⟩, h2.2.of (fun k k1 k2 => ur_n _ _ (by omega)) ?_⟩
    · rw [z2.1.1]; rfl
    · rw [ur_s, upd_s]
    · rw [ur_s, upd_s]; rfl
    · rw [ur_n _ _ (by omega), ur_n _ _ (by omega), ur_n _ _ (by omega), ur_n _ _ (by omega)]
      exact h2.1.2 k hk
    · rw [ur_s, upd_n _ _ (by omega)]
theorem sim_clear : Sim f_X9_clear f_X10_clear := by
  intro s m ⟨P, T, hP, hT, h1, h2⟩
  unfold f_X9_clear f_X10_clear
  rw [lb_e, lb_e, lb_e, lb_e, h1.1.1, h2.1.1]
  obtain ⟨s', z1, z2⟩ := x_forget (T := T) (LX_n h1.1 0) (h1.2.2.2.2.2.of (fun k hk => ur_n _ _ (by omega)))
  have z1' : f_X9_forget (ur s 0 (upd (s 0) 9 (0 : Int32))) = some s' := z1
  rw [z1', ob_e]
  refine ⟨nI (pn P), s', ur m 0 (upd (m 0) 0 (0 : Int32)), rfl, rfl, setn P 0, T, setn_ok hP (by omega), hT, z2, ⟨?_, fun k hk => ?_⟩, h2.2.of (fun k k1 k2 => ur_n _ _ (by omega)) ?_⟩
  · rw [ur_s, upd_s]; rfl
  · rw [ur_n _ _ (by omega), ur_n _ _ (by omega), ur_n _ _ (by omega), ur_n _ _ (by omega)]
    exact h2.1.2 k hk
  · rw [ur_s, upd_n _ _ (by omega)]
def codv (P : Pg) (k w : Nat) : Int32 := if w = 0 then nI (pk P k) else if w = 1 then nI (px P k) else if w = 2 then nI (pp P k) else nI (pt P k)
theorem x_codeN {P : Pg} {T : SH} {s : sh_S} (ho : pOK P) (h : XI P T s) {k w : Nat} (hk : k < pn P) (hw : w < 4) : f_X9_code (nI k) (nI w) s = some (codv P k w) := by
  have hn := ho.1
  have i1 : inb (nI k) 24 := inb_n (by omega) (by omega)
  obtain ⟨g1, g2, g3, g4, -⟩ := h.1.2 k (by omega)
  have z0 : (nI w = (0 : Int32)) = (w = 0) := nI_eqb (b := 0) (by omega) (by omega)
  unfold f_X9_code codv
  rw [has_n ho h hk, ob_e, if_neg (by decide), ix_n (by omega), g1, g2, g3, g4]
  simp only [gu_t i1, z0, c1 (show w < 10 by omega), c2 (show w < 10 by omega), c3 (show w < 10 by omega)]
  rcases lt4 hw with rfl | rfl | rfl | rfl <;> rfl
theorem m_codeOf {P : Pg} {m : sh_S} (ho : pOK P) (h : PM P m) {k w : Nat} (hk : k < pn P) (hw : w < 4) : f_X10_codeOf (nI k) (nI w) m = some (codv P k w) := by
  have hn := ho.1
  have i1 : inb (nI k) 24 := inb_n (by omega) (by omega)
  obtain ⟨g1, g2, g3, g4⟩ := h.2 k (by omega)
  have z0 : (nI w = (0 : Int32)) = (w = 0) := nI_eqb (b := 0) (by omega) (by omega)
  unfold f_X10_codeOf codv
  rw [ix_n (by omega), g1, g2, g3, g4]
  simp only [gu_t i1, z0, c1 (show w < 10 by omega), c2 (show w < 10 by omega)]
  rcases lt4 hw with rfl | rfl | rfl | rfl <;> rfl
theorem sim_code (x y : Int32) {s m : sh_S} (h : RLs s m) : ∃ a, f_X9_code x y s = some a ∧ f_X10_code x y m = some a := by
  obtain ⟨P, T, hP, hT, h1, h2⟩ := h
  have hn := hP.1
  cases hz : isPt (pn P) x with
  | false =>
    refine ⟨-2, ?_, ?_⟩
    · unfold f_X9_code
      rw [LXl h1.1, hz, ob_e, if_pos (show bi false = (0 : Int32) from rfl)]
    · unfold f_X10_code
      rw [m_isPoint h2.1 hn, hz, ob_e, if_pos (show bi false = (0 : Int32) from rfl), ob_e]
  | true =>
    obtain ⟨k, hk, rfl⟩ := isPt_of hn hz
    cases hy : inr y 0 3 with
    | false =>
      have ne : ∀ j, j < 4 → ¬ y = nI j := fun j hj e => by
        rw [e] at hy
        have : inr (nI j) 0 (nI 3) = true := by
          unfold inr
          rw [decide_eq_false (nI_pos (by omega)), decide_eq_false (nI_nlt (by omega) (by omega))]; rfl
        have this' : inr (nI j) 0 3 = true := this
        rw [this'] at hy; cases hy
      refine ⟨-2, ?_, ?_⟩
      · unfold f_X9_code
        rw [LXl h1.1, hz, ob_e, if_neg (show ¬ bi true = (0 : Int32) by decide), if_neg (show ¬ y = (0 : Int32) from ne 0 (by omega)), if_neg (show ¬ y = (1 : Int32) from ne 1 (by omega)), if_neg (show ¬ y = (2 : Int32) from ne 2 (by omega)), if_neg (show ¬ y = (3 : Int32) from ne 3 (by omega))]
      · unfold f_X10_code
        rw [m_isPoint h2.1 hn, hz, ob_e, if_neg (show ¬ bi true = (0 : Int32) by decide), m_in]
        show ob (ob (some (bi (inr y 0 3))) _) _ = _
        rw [hy, ob_e, if_pos (show bi false = (0 : Int32) from rfl), ob_e]
    | true =>
      obtain ⟨w, hw, rfl⟩ := inr_of (b := 3) (by omega) hy
      refine ⟨codv P k w, x_codeN hP h1 hk (by omega), ?_⟩
      unfold f_X10_code
      rw [m_isPoint h2.1 hn, hz, ob_e, if_neg (show ¬ bi true = (0 : Int32) by decide), m_in]
      show ob (ob (some (bi (inr (nI w) 0 3))) _) _ = _
      have hy' : inr (nI w) 0 3 = true := hy
      rw [hy', ob_e, if_neg (show ¬ bi true = (0 : Int32) by decide), m_codeOf hP h2.1 hk (by omega), ob_e, ob_e]
