def trn (s : sh_S) (k c p : Nat) : sh_S := ur (ur (ur (ur s 1 (upd (s 1) k (nI c))) 5 (upd (s 5) k (nI (if c = 5 ∧ 3 ≤ p then 4 else c)))) 8 (upd (s 8) k (bi (decide (3 ≤ c) && decide (c ≤ 5))))) 9 (upd (s 9) k (bi (decide (1 ≤ c) && decide (c ≤ 5) && decide (3 ≤ p))))
theorem trn_n (s : sh_S) (k c p : Nat) {j : Nat} (h1 : j ≠ 1) (h5 : j ≠ 5) (h8 : j ≠ 8) (h9 : j ≠ 9) : trn s k c p j = s j := by
  unfold trn; rw [ur_n _ _ h9, ur_n _ _ h8, ur_n _ _ h5, ur_n _ _ h1]
theorem trn_1 (s : sh_S) (k c p : Nat) : trn s k c p 1 = upd (s 1) k (nI c) := by
  unfold trn; rw [ur_n _ _ (by omega), ur_n _ _ (by omega), ur_n _ _ (by omega), ur_s]
theorem trn_5 (s : sh_S) (k c p : Nat) : trn s k c p 5 = upd (s 5) k (nI (if c = 5 ∧ 3 ≤ p then 4 else c)) := by
  unfold trn; rw [ur_n _ _ (by omega), ur_n _ _ (by omega), ur_s]
theorem trn_8 (s : sh_S) (k c p : Nat) : trn s k c p 8 = upd (s 8) k (bi (decide (3 ≤ c) && decide (c ≤ 5))) := by
  unfold trn; rw [ur_n _ _ (by omega), ur_s]
theorem trn_9 (s : sh_S) (k c p : Nat) : trn s k c p 9 = upd (s 9) k (bi (decide (1 ≤ c) && decide (c ≤ 5) && decide (3 ≤ p))) := by
  unfold trn; rw [ur_s]
theorem x_turn0 {s : sh_S} {k c p : Nat} (h7 : s 7 k = nI p) (hp : p < 6) (hk : k < 24) (hc : c < 10) : f_X4_turn (nI k) (nI c) s = some (trn s k c p) := by
  have i1 : inb (nI k) 24 := inb_n hk (by omega)
  have e3 : (nI p < (3 : Int32)) = (p < 3) := propext (nI_ltI (b := 3) (by omega) (by omega))
  have q1 : ∀ (a b : Int32) (x : sh_S) (y : Int32), (upd (ur x 8 (upd (x 8) k a) 8) k b) k = b := fun _ _ _ _ => by rw [upd_s]
  unfold f_X4_turn
  simp only [gu_t i1, lb_e, ix_n (show k < 2 ^ 31 by omega), h7, e3, c1 hc, c2 hc, c3 hc, c4 hc, c5 hc]
  have z0 : nz 0 = bi false := by decide
  have z1 : nz 1 = bi true := by decide
  have n5 : ∀ (x : sh_S) (g : Nat → Int32), ur x 1 g 5 = x 5 := fun _ _ => ur_n _ _ (by omega)
  have n8 : ∀ (x : sh_S) (g : Nat → Int32), ur x 1 g 8 = x 8 := fun _ _ => ur_n _ _ (by omega)
  have n9 : ∀ (x : sh_S) (g : Nat → Int32), ur x 1 g 9 = x 9 := fun _ _ => ur_n _ _ (by omega)
  have n58 : ∀ (x : sh_S) (g : Nat → Int32), ur x 5 g 8 = x 8 := fun _ _ => ur_n _ _ (by omega)
  have n59 : ∀ (x : sh_S) (g : Nat → Int32), ur x 5 g 9 = x 9 := fun _ _ => ur_n _ _ (by omega)
  have n89 : ∀ (x : sh_S) (g : Nat → Int32), ur x 8 g 9 = x 9 := fun _ _ => ur_n _ _ (by omega)
  have b1 : bi true = (1 : Int32) := rfl
  have b0 : bi false = (0 : Int32) := rfl
  unfold trn
  by_cases hp3 : p < 3
  · have hp4 : ¬ 3 ≤ p := by omega
    rcases lt10 hc with rfl | rfl | rfl | rfl | rfl | rfl | rfl | rfl | rfl | rfl <;> simp [hp3, hp4, ob, n5, n8, n9, n58, n59, n89, z0, z1, ur_s, upd_s, b1, b0]
  · have hp4 : 3 ≤ p := by omega
    rcases lt10 hc with rfl | rfl | rfl | rfl | rfl | rfl | rfl | rfl | rfl | rfl <;> simp [hp3, hp4, ob, n5, n8, n9, n58, n59, n89, z0, z1, ur_s, upd_s, b1, b0] <;> rfl
theorem LX_turn {P : Pg} {s : sh_S} (h : LX P s) {k c : Nat} : LX (setk P k c) (trn s k c (pp P k % 6)) := by
  refine ⟨by rw [trn_n _ _ _ _ (by omega) (by omega) (by omega) (by omega)]; exact h.1, fun j hj => ?_⟩
  obtain ⟨h1, h2, h3, h4, h5, h6, h7, h8, h9⟩ := h.2 j hj
  rw [trn_1, trn_5, trn_8, trn_9]
  simp only [trn_n s k c (pp P k % 6) (j := 2) (by omega) (by omega) (by omega) (by omega), trn_n s k c (pp P k % 6) (j := 3) (by omega) (by omega) (by omega) (by omega), trn_n s k c (pp P k % 6) (j := 4) (by omega) (by omega) (by omega) (by omega), trn_n s k c (pp P k % 6) (j := 6) (by omega) (by omega) (by omega) (by omega), trn_n s k c (pp P k % 6) (j := 7) (by omega) (by omega) (by omega) (by omega)]
  by_cases e : j = k
  · subst e
    have ek0 : pk (setk P j c) j = c := by show (if j = j then c else pk P j) = _; rw [if_pos rfl]
    have ep : pp (setk P j c) j = pp P j := rfl
    refine ⟨?_, h2, h3, h4, ?_, h6, h7, ?_, ?_⟩
    · rw [upd_s, ek0]
    · rw [upd_s]; simp only [ak, ek0, thr, ep, decide_eq_true_eq]
    · rw [upd_s]; simp only [lnd, ek0]
    · rw [upd_s]; simp only [gt, ek0, thr, ep]
  · have ek : pk (setk P k c) j = pk P j := by show (if j = k then c else pk P j) = _; rw [if_neg e]
    refine ⟨?_, h2, h3, h4, ?_, h6, h7, ?_, ?_⟩
    · rw [upd_n _ _ e, ek]; exact h1
    · rw [upd_n _ _ e]; simp only [ak, ek, thr]; exact h5
    · rw [upd_n _ _ e]; simp only [lnd, ek]; exact h8
    · rw [upd_n _ _ e]; simp only [gt, ek, thr]; exact h9
theorem setk_back (P : Pg) (k c : Nat) : setk (setk P k c) k (pk P k) = P := by
  unfold setk
  have : (fun j => if j = k then pk P k else (if j = k then c else pk P j)) = pk P := by
    funext j
    by_cases e : j = k
    · rw [if_pos e, e]
    · rw [if_neg e, if_neg e]
  show (pn P, (fun j => if j = k then pk P k else (if j = k then c else pk P j)), px P, pp P, pt P) = P
  rw [this]
def CKx (P : Pg) (s : sh_S) : Prop := s 10 1 = 0 ∨ (s 10 1 = 1 ∧ CX P s)
section PL
variable {P : Pg} {s : sh_S}
theorem x_exX (hX : LX P s) (ho : pOK P) (hc : CKx P s) : ∃ s1, f_X0_examine (rs em_CK s) = some s1 ∧ LX P (mg em_CK 0 s s1) ∧ mg em_CK 0 s s1 10 1 = 1 ∧ CX P (mg em_CK 0 s s1) ∧ ∀ k, 31 ≤ k → mg em_CK 0 s s1 k = s k := by
  have hX' : LX P (rs em_CK s) := hX.of (fun k hk => CK_rs s (by omega))
  have hc' : rs em_CK s 10 1 = 0 ∨ (rs em_CK s 10 1 = 1 ∧ CX P (rs em_CK s)) := by
    rw [CK_rs s (by omega)]
    rcases hc with hc | ⟨hc, hC⟩
    · exact Or.inl hc
    · exact Or.inr ⟨hc, hC.of (fun k h1 h2 => CK_rs s (by omega))⟩
  obtain ⟨s1, a1, a2, a3, a4⟩ := x_examine hX' ho hc'
  refine ⟨s1, a1, hX.of (fun k hk => ?_), ?_, a4.of (fun k h1 h2 => CK_in s s1 (by omega)), fun k hk => CK_out s s1 hk⟩
  · rw [CK_in s s1 (by omega), a2 k hk, CK_rs s (by omega)]
  · rw [CK_in s s1 (by omega)]; exact a3
theorem x_errorsWith (hX : LX P s) (hC : CX P s) (ho : pOK P) {k c : Nat} (hk : k < pn P) (hc : c < 10) : ∃ s', f_X5_errorsWith (nI k) (nI c) s = some (nI (TE (setk P k c)), s') ∧ LX P s' ∧ (∀ j, 10 ≤ j → j ≤ 30 → s' j = s j) ∧ ∀ j, 52 ≤ j → s' j = s j := by
  have hn := ho.1
  have i1 : inb (nI k) 24 := inb_n (by omega) (by omega)
  have hk10 := (ho.2 k).1
  have e29 : s 29 2 = nI (TE P) := hC.2.2.2.2.2.2.2.2.2.2.2
  unfold f_X5_errorsWith
  rw [gu_t i1, lb_e, ix_n (by omega), (hX.2 k (by omega)).1]
  by_cases e : pk P k = c
  · rw [if_pos (by rw [e]), e29, TE_setk ho hc (Or.inl e)]
    exact ⟨s, rfl, hX, fun _ _ _ => rfl, fun _ _ => rfl⟩
  · rw [if_neg (fun q => e ((nI_eq (by omega) (by omega)).mp q)), hC.2.1, x_hasBit (by omega), ob_e]
    cases hr : Rc P k with
    | false =>
      rw [if_pos (show bi false = (0 : Int32) from rfl), e29, TE_setk ho hc (Or.inr hr)]
      exact ⟨s, rfl, hX, fun _ _ _ => rfl, fun _ _ => rfl⟩
    | true =>
      rw [if_neg (show ¬ bi true = 0 by decide)]
      have hX1 : LX P (rs em_LI s) := hX.of (fun j hj => LI_rs s hj)
      rw [x_turn0 (hX1.2 k (by omega)).2.2.2.2.2.2.1 (by omega) (by omega) hc, ob_e, lb_e]
      have hX4 := LX_turn hX1 (k := k) (c := c)
      generalize trn (rs em_LI s) k c (pp P k % 6) = s4 at hX4 ⊢
      have q5 : ∀ j, 10 ≤ j → mg em_LI 0 s s4 j = s j := fun j hj => LI_out s s4 hj
      have hX5 : LX (setk P k c) (mg em_LI 0 s s4) := hX4.of (fun j hj => LI_in s s4 hj)
      generalize mg em_LI 0 s s4 = s5 at q5 hX5 ⊢
      unfold f_X0_forget
      rw [lb_e, ob_e, lb_e]
      have q7 : ∀ j, 10 ≤ j → j < 31 ∨ 52 ≤ j → mg em_TR 0 s5 (ur (rs em_TR s5) 10 (upd (rs em_TR s5 10) 1 0)) j = s5 j := fun j h1 h2 => TR_out _ _ h1 h2
      have hX7 : LX (setk P k c) (mg em_TR 0 s5 (ur (rs em_TR s5) 10 (upd (rs em_TR s5 10) 1 0))) := hX5.of (fun j hj => by rw [TR_in1 _ _ hj, ur_n _ _ (by omega), TR_rs1 _ hj])
      have z7 : mg em_TR 0 s5 (ur (rs em_TR s5) 10 (upd (rs em_TR s5 10) 1 0)) 31 1 = 0 := by
        have : mg em_TR 0 s5 (ur (rs em_TR s5) 10 (upd (rs em_TR s5 10) 1 0)) (10 + 21) = _ := TR_in2 _ _ (by omega) (by omega)
        rw [show (31 : Nat) = 10 + 21 from rfl, this, ur_s, upd_s]
      generalize mg em_TR 0 s5 (ur (rs em_TR s5) 10 (upd (rs em_TR s5 10) 1 0)) = s7 at q7 hX7 z7 ⊢
      have hX7' : LX (setk P k c) (rs em_TR s7) := hX7.of (fun j hj => TR_rs1 s7 hj)
      obtain ⟨s8, a1, a2, a3, a4⟩ := x_examine hX7' (setk_ok ho hc) (Or.inl (by rw [TR_rs2 s7 (by omega) (by omega)]; exact z7))
      rw [a1, ob_e, lb_e]
      have q9 : ∀ j, 10 ≤ j → j < 31 ∨ 52 ≤ j → mg em_TR 0 s7 s8 j = s7 j := fun j h1 h2 => TR_out _ _ h1 h2
      have hX9 : LX (setk P k c) (mg em_TR 0 s7 s8) := hX7.of (fun j hj => by rw [TR_in1 _ _ hj, a2 j hj, TR_rs1 _ hj])
      have t9 : mg em_TR 0 s7 s8 50 2 = nI (TE (setk P k c)) := by
        have : mg em_TR 0 s7 s8 (29 + 21) = _ := TR_in2 _ _ (by omega) (by omega)
        rw [show (50 : Nat) = 29 + 21 from rfl, this]
        exact a4.2.2.2.2.2.2.2.2.2.2.2
      generalize mg em_TR 0 s7 s8 = s9 at q9 hX9 t9 ⊢
      have hX9' : LX (setk P k c) (rs em_LI s9) := hX9.of (fun j hj => LI_rs s9 hj)
      rw [x_turn0 (hX9'.2 k (by omega)).2.2.2.2.2.2.1 (by omega) (by omega) hk10, ob_e, lb_e]
      have hX10 := LX_turn hX9' (k := k) (c := pk P k)
      rw [setk_back] at hX10
      generalize trn (rs em_LI s9) k (pk P k) (pp (setk P k c) k % 6) = s10 at hX10 ⊢
      have q11 : ∀ j, 10 ≤ j → mg em_LI 0 s9 s10 j = s9 j := fun j hj => LI_out s9 s10 hj
      have hX11 : LX P (mg em_LI 0 s9 s10) := hX10.of (fun j hj => LI_in s9 s10 hj)
      refine ⟨mg em_LI 0 s9 s10, by rw [q11 50 (by omega), t9], hX11, fun j h1 h2 => ?_, fun j h1 => ?_⟩
      · rw [q11 j h1, q9 j h1 (by omega), q7 j h1 (by omega), q5 j h1]
      · rw [q11 j (by omega), q9 j (by omega) (by omega), q7 j (by omega) (by omega), q5 j (by omega)]
def PLm (P : Pg) (s : sh_S) : Prop := s 52 5 = mdb (md P (pn P)) ∧ s 52 6 = mdl (md P (pn P))
def PLs (P : Pg) (s : sh_S) : Prop := s 52 7 = mkb (sf P)
theorem x_findMend (hX : LX P s) (ho : pOK P) (hc : CKx P s) (hm : s 52 3 = 0 ∨ (s 52 3 = 1 ∧ PLm P s)) : ∃ s', f_X5_findMend s = some s' ∧ LX P s' ∧ CKx P s' ∧ s' 52 3 = 1 ∧ PLm P s' ∧ s' 52 4 = s 52 4 ∧ s' 52 7 = s 52 7 ∧ ∀ j, 53 ≤ j → s' j = s j := by
  have hn := ho.1
  unfold f_X5_findMend
  rcases hm with hm | ⟨hm, hp⟩
  · rw [if_pos hm]
    obtain ⟨s1, a1, a2, a3, a4, a5⟩ := x_exX hX ho hc
    rw [a1, ob_e, lb_e, lb_e, lb_e, lb_e]
    generalize mg em_CK 0 s s1 = s2 at a2 a3 a4 a5 ⊢
    simp only [ur_s, ur_ur]
    have hh := lp_for (body := fun q : Int32 × sh_S => f_X5_findMend_L33 q.1 q.2) (fun j (t : sh_S) => (nI j, t)) (pn P)
      (fun j t => LX P t ∧ (∀ i, 10 ≤ i → i ≤ 30 → t i = s2 i) ∧ (∀ i, 53 ≤ i → t i = s2 i) ∧ t 52 5 = mdb (md P j) ∧ t 52 6 = mdl (md P j) ∧ t 52 3 = 1 ∧ t 52 4 = s 52 4 ∧ t 52 7 = s 52 7) (fun e => LX P e ∧ (∀ i, 10 ≤ i → i ≤ 30 → e i = s2 i) ∧ (∀ i, 53 ≤ i → e i = s2 i) ∧ e 52 5 = mdb (md P (pn P)) ∧ e 52 6 = mdl (md P (pn P)) ∧ e 52 3 = 1 ∧ e 52 4 = s 52 4 ∧ e 52 7 = s 52 7)
      (fun j t hj ⟨t1, t2, t3, t4, t5, t6, t7, t8⟩ => by
        have hCt : CX P t := a4.of (fun k h1 h2 => t2 k (by omega) h2)
        obtain ⟨t', b1, b2, b3, b4⟩ := x_errorsWith t1 hCt ho hj (c := 0) (by omega)
        have b1' : f_X5_errorsWith (nI j) (0 : Int32) t = some (nI (TE (setk P j 0)), t') := b1
        have tb := TE_le (setk_ok ho (k := j) (c := 0) (by omega))
        show ∃ a', f_X5_findMend_L33 (nI j) t = some (.inl (nI (j + 1), a')) ∧ _
        unfold f_X5_findMend_L33
        rw [t1.1, if_neg (nI_ge hj (by omega)), b1', ob2_e, b4 52 (by omega), t4, t5]
        have e : md P (j + 1) = (match md P j with
          | none => some (j, TE (setk P j 0))
          | some q => if TE (setk P j 0) < q.2 then some (j, TE (setk P j 0)) else some q) := rfl
        have fr1 : ∀ g, LX P (ur t' 52 g) := fun g => b2.ur (by omega) g
        have fr2 : ∀ g i, 10 ≤ i → i ≤ 30 → ur t' 52 g i = s2 i := fun g i h1 h2 => by rw [ur_n _ _ (by omega), b3 i h1 h2, t2 i h1 h2]
        have fr3 : ∀ g i, 53 ≤ i → ur t' 52 g i = s2 i := fun g i h1 => by rw [ur_n _ _ (by omega), b4 i (by omega), t3 i h1]
        have set : ∃ a', ob (lb (ur t' 52 (upd (t 52) 5 (nI j))) (fun s12 => lb (ur s12 52 (upd (s12 52) 6 (nI (TE (setk P j 0))))) (fun s13 => some s13))) (fun s11 => lb (nI j + (1 : Int32)) (fun v16 => some (Sum.inl (v16, s11) : (Int32 × sh_S) ⊕ sh_S))) = some (.inl (nI (j + 1), a')) ∧ LX P a' ∧ (∀ i, 10 ≤ i → i ≤ 30 → a' i = s2 i) ∧ (∀ i, 53 ≤ i → a' i = s2 i) ∧ a' 52 5 = nI j ∧ a' 52 6 = nI (TE (setk P j 0)) ∧ a' 52 3 = 1 ∧ a' 52 4 = s 52 4 ∧ a' 52 7 = s 52 7 := by
          rw [lb_e, lb_e, ob_e, lb_e, nI_1, ur_ur, ur_s]
          refine ⟨_, rfl, fr1 _, fr2 _, fr3 _, ?_, ?_, ?_, ?_, ?_⟩
          · rw [ur_s, upd_n _ _ (by omega), upd_s]
          · rw [ur_s, upd_s]
          · rw [ur_s, upd_n _ _ (by omega), upd_n _ _ (by omega)]; exact t6
          · rw [ur_s, upd_n _ _ (by omega), upd_n _ _ (by omega)]; exact t7
          · rw [ur_s, upd_n _ _ (by omega), upd_n _ _ (by omega)]; exact t8
        cases hm : md P j with
        | none =>
          rw [e, hm]
          simp only [mdb, mdl, if_true]
          exact set
        | some q =>
          have b := md_le ho j q hm
          have e1 : ¬ nI q.1 = (-1 : Int32) := neg1 (by omega)
          have e2 : (nI q.2 ≤ nI (TE (setk P j 0))) = (q.2 ≤ TE (setk P j 0)) := propext (nI_leI (by omega) (by omega))
          rw [e, hm]
          simp only [mdb, mdl, e1, if_false, e2]
          by_cases c : TE (setk P j 0) < q.2
          · rw [if_neg (by omega), if_pos c]
            exact set
          · rw [if_pos (by omega), if_neg c, ob_e, lb_e, nI_1]
            refine ⟨t', rfl, b2, fun i h1 h2 => by rw [b3 i h1 h2, t2 i h1 h2], fun i h1 => by rw [b4 i (by omega), t3 i h1], ?_, ?_, ?_, ?_, ?_⟩
            · rw [b4 52 (by omega), t4, hm]; rfl
            · rw [b4 52 (by omega), t5, hm]; rfl
            · rw [b4 52 (by omega)]; exact t6
            · rw [b4 52 (by omega)]; exact t7
            · rw [b4 52 (by omega)]; exact t8)
      (fun t ht => ⟨t, by
        show f_X5_findMend_L33 (nI (pn P)) t = _
        unfold f_X5_findMend_L33
        rw [ht.1.1, if_pos (nI_le (Nat.le_refl _) (by omega))], ht⟩)
      FU 0 (ur s2 52 (upd (upd (upd (s2 52) 3 1) 5 (-1)) 6 (-1))) (Nat.zero_le _) ⟨a2.ur (by omega) _, fun i h1 h2 => ur_n _ _ (by omega), fun i h1 => ur_n _ _ (by omega), by rw [ur_s, upd_n _ _ (by omega), upd_s]; rfl, by rw [ur_s, upd_s]; rfl, by rw [ur_s, upd_n _ _ (by omega), upd_n _ _ (by omega), upd_s], by rw [ur_s, upd_n _ _ (by omega), upd_n _ _ (by omega), upd_n _ _ (by omega), a5 52 (by omega)], by rw [ur_s, upd_n _ _ (by omega), upd_n _ _ (by omega), upd_n _ _ (by omega), a5 52 (by omega)]⟩ (FU_gt (by omega))
    obtain ⟨e, h1, h2, h3, h4, h5, h6, h7, h8, h9⟩ := hh
    have h1' : lp (fun q : Int32 × sh_S => f_X5_findMend_L33 q.1 q.2) FU ((0 : Int32), ur s2 52 (upd (upd (upd (s2 52) 3 1) 5 (-1)) 6 (-1))) = some e := h1
    rw [h1', ob_e]
    exact ⟨e, rfl, h2, Or.inr ⟨by rw [h3 10 (by omega) (by omega)]; exact a3, a4.of (fun k q1 q2 => h3 k (by omega) q2)⟩, h7, ⟨h5, h6⟩, h8, h9, fun j hj => by rw [h4 j hj, a5 j (by omega)]⟩
  · rw [if_neg (by rw [hm]; decide)]
    exact ⟨s, rfl, hX, hc, hm, hp, rfl, rfl, fun _ _ => rfl⟩
theorem x_findSoft (hX : LX P s) (ho : pOK P) (hc : CKx P s) (hm : s 52 4 = 0 ∨ (s 52 4 = 1 ∧ PLs P s)) : ∃ s', f_X5_findSoft s = some s' ∧ LX P s' ∧ CKx P s' ∧ s' 52 4 = 1 ∧ PLs P s' ∧ s' 52 3 = s 52 3 ∧ s' 52 5 = s 52 5 ∧ s' 52 6 = s 52 6 ∧ ∀ j, 53 ≤ j → s' j = s j := by
  have hn := ho.1
  unfold f_X5_findSoft
  rcases hm with hm | ⟨hm, hp⟩
  · rw [if_pos hm]
    obtain ⟨s1, a1, a2, a3, a4, a5⟩ := x_exX hX ho hc
    rw [a1, ob_e, lb_e, lb_e, lb_e]
    generalize mg em_CK 0 s s1 = s2 at a2 a3 a4 a5 ⊢
    simp only [ur_s, ur_ur]
    have tP := TE_le ho
    have hh := lp_for (body := fun q : Int32 × sh_S => f_X5_findSoft_L28 q.1 q.2) (fun j (t : sh_S) => (nI j, t)) (pn P)
      (fun j t => LX P t ∧ (∀ i, 10 ≤ i → i ≤ 30 → t i = s2 i) ∧ (∀ i, 53 ≤ i → t i = s2 i) ∧ t 52 7 = mkb (fun x => decide (x < j) && sf P x) ∧ t 52 4 = 1 ∧ t 52 3 = s 52 3 ∧ t 52 5 = s 52 5 ∧ t 52 6 = s 52 6) (fun t => LX P t ∧ (∀ i, 10 ≤ i → i ≤ 30 → t i = s2 i) ∧ (∀ i, 53 ≤ i → t i = s2 i) ∧ t 52 7 = mkb (sf P) ∧ t 52 4 = 1 ∧ t 52 3 = s 52 3 ∧ t 52 5 = s 52 5 ∧ t 52 6 = s 52 6)
      (fun j t hj ⟨t1, t2, t3, t4, t5, t6, t7, t8⟩ => by
        have hCt : CX P t := a4.of (fun k h1 h2 => t2 k (by omega) h2)
        obtain ⟨t', b1, b2, b3, b4⟩ := x_errorsWith t1 hCt ho hj (c := 3) (by omega)
        have b1' : f_X5_errorsWith (nI j) (3 : Int32) t = some (nI (TE (setk P j 3)), t') := b1
        have tb := TE_le (setk_ok ho (k := j) (c := 3) (by omega))
        have i1 : inb (nI j) 24 := inb_n (by omega) (by omega)
        have e29 : t' 29 2 = nI (TE P) := by rw [b3 29 (by omega) (by omega)]; exact hCt.2.2.2.2.2.2.2.2.2.2.2
        have el : (nI (TE P) < nI (TE (setk P j 3))) = (TE P < TE (setk P j 3)) := propext (nI_ltI (by omega) (by omega))
        have zero : sf P j = false → mkb (fun x => decide (x < j) && sf P x) = mkb (fun x => decide (x < j + 1) && sf P x) := by
          intro hz
          refine mkb_ext (fun l _ => ?_)
          by_cases e : l = j
          · subst e; simp [hz]
          · by_cases e2 : l < j
            · simp [e2, show l < j + 1 by omega]
            · simp [e2, show ¬ l < j + 1 by omega]
        have one : sf P j = true → mkb (fun x => decide (x < j) && sf P x) ||| ((1 : Int32) <<< (nI j &&& 31)) = mkb (fun x => decide (x < j + 1) && sf P x) := by
          intro hz
          rw [mkb_one (by omega), mkb_or]
          refine mkb_ext (fun l _ => ?_)
          by_cases e : l = j
          · subst e; simp [hz]
          · by_cases e2 : l < j
            · simp [e, e2, show l < j + 1 by omega]
            · simp [e, e2, show ¬ l < j + 1 by omega]
        have ev : sf P j = ((decide (pk P j = 4) || decide (pk P j = 5)) && decide (TE (setk P j 3) ≤ TE P)) := by simp [sf, hj]
        show ∃ a', f_X5_findSoft_L28 (nI j) t = some (.inl (nI (j + 1), a')) ∧ _
        have run : (pk P j = 4 ∨ pk P j = 5) → ∃ a', ob (ob2 (some (nI (TE (setk P j 3)), t')) (fun v11 s12 => (if (s12 29 2) < v11 then some s12 else lb (ur s12 52 (upd (s12 52) 7 ((s12 52 7) ||| ((1 : Int32) <<< (nI j &&& 31))))) (fun s13 => some s13)))) (fun s10 => lb (nI j + (1 : Int32)) (fun v17 => some (Sum.inl (v17, s10) : (Int32 × sh_S) ⊕ sh_S))) = some (.inl (nI (j + 1), a')) ∧ LX P a' ∧ (∀ i, 10 ≤ i → i ≤ 30 → a' i = s2 i) ∧ (∀ i, 53 ≤ i → a' i = s2 i) ∧ a' 52 7 = mkb (fun x => decide (x < j + 1) && sf P x) ∧ a' 52 4 = 1 ∧ a' 52 3 = s 52 3 ∧ a' 52 5 = s 52 5 ∧ a' 52 6 = s 52 6 := by
          intro hk
          rw [ob2_e, e29]
          simp only [el]
          by_cases c2 : TE P < TE (setk P j 3)
          · have hz : sf P j = false := by rw [ev]; simp; intro _; omega
            rw [if_pos c2, ob_e, lb_e, nI_1]
            refine ⟨t', rfl, b2, fun i h1 h2 => by rw [b3 i h1 h2, t2 i h1 h2], fun i h1 => by rw [b4 i (by omega), t3 i h1], ?_, ?_, ?_, ?_, ?_⟩
            · rw [b4 52 (by omega), t4]; exact zero hz
            · rw [b4 52 (by omega)]; exact t5
            · rw [b4 52 (by omega)]; exact t6
            · rw [b4 52 (by omega)]; exact t7
            · rw [b4 52 (by omega)]; exact t8
          · have hz : sf P j = true := by rw [ev]; simp [hk]; omega
            rw [if_neg c2, lb_e, ob_e, lb_e, nI_1, b4 52 (by omega), t4, one hz]
            refine ⟨_, rfl, b2.ur (by omega) _, fun i h1 h2 => by rw [ur_n _ _ (by omega), b3 i h1 h2, t2 i h1 h2], fun i h1 => by rw [ur_n _ _ (by omega), b4 i (by omega), t3 i h1], ?_, ?_, ?_, ?_, ?_⟩
            · rw [ur_s, upd_s]
            · rw [ur_s, upd_n _ _ (by omega)]; exact t5
            · rw [ur_s, upd_n _ _ (by omega)]; exact t6
            · rw [ur_s, upd_n _ _ (by omega)]; exact t7
            · rw [ur_s, upd_n _ _ (by omega)]; exact t8
        unfold f_X5_findSoft_L28
        rw [t1.1, if_neg (nI_ge hj (by omega)), gu_t i1, lb_e, ix_n (by omega), (t1.2 j (by omega)).1, b1']
        simp only [c4 (ho.2 j).1, c5 (ho.2 j).1]
        by_cases c : pk P j = 4
        · rw [if_pos c]; exact run (Or.inl c)
        · rw [if_neg c]
          by_cases c' : pk P j = 5
          · rw [if_pos c']; exact run (Or.inr c')
          · rw [if_neg c', ob_e, lb_e, nI_1]
            have hz : sf P j = false := by rw [ev]; simp [c, c']
            exact ⟨t, rfl, t1, t2, t3, by rw [t4]; exact zero hz, t5, t6, t7, t8⟩)
      (fun t ht => ⟨t, by
        show f_X5_findSoft_L28 (nI (pn P)) t = _
        unfold f_X5_findSoft_L28
        rw [ht.1.1, if_pos (nI_le (Nat.le_refl _) (by omega))], ht.1, ht.2.1, ht.2.2.1, by
        rw [ht.2.2.2.1]; exact mkb_ext (fun x _ => by unfold sf; cases decide (x < pn P) <;> simp), ht.2.2.2.2⟩)
      FU 0 (ur s2 52 (upd (upd (s2 52) 4 1) 7 0)) (Nat.zero_le _) ⟨a2.ur (by omega) _, fun i h1 h2 => ur_n _ _ (by omega), fun i h1 => ur_n _ _ (by omega), by rw [ur_s, upd_s, mkb_0]; exact mkb_ext (fun x _ => by simp), by rw [ur_s, upd_n _ _ (by omega), upd_s], by rw [ur_s, upd_n _ _ (by omega), upd_n _ _ (by omega), a5 52 (by omega)], by rw [ur_s, upd_n _ _ (by omega), upd_n _ _ (by omega), a5 52 (by omega)], by rw [ur_s, upd_n _ _ (by omega), upd_n _ _ (by omega), a5 52 (by omega)]⟩ (FU_gt (by omega))
    obtain ⟨e, h1, h2, h3, h4, h5, h6, h7, h8, h9⟩ := hh
    have h1' : lp (fun q : Int32 × sh_S => f_X5_findSoft_L28 q.1 q.2) FU ((0 : Int32), ur s2 52 (upd (upd (s2 52) 4 1) 7 0)) = some e := h1
    rw [h1', ob_e]
    exact ⟨e, rfl, h2, Or.inr ⟨by rw [h3 10 (by omega) (by omega)]; exact a3, a4.of (fun k q1 q2 => h3 k (by omega) q2)⟩, h6, h5, h7, h8, h9, fun j hj => by rw [h4 j hj, a5 j (by omega)]⟩
  · rw [if_neg (by rw [hm]; decide)]
    exact ⟨s, rfl, hX, hc, hm, hp, rfl, rfl, rfl, fun _ _ => rfl⟩
end PL
