def fd (g : Nat → Int64 → Int64) (n : Nat) (h : Int64) : Int64 := match n with
  | 0 => h
  | n + 1 => g n (fd g n h)
theorem lp_fd {I : sh_S → Prop} {body : Int64 × Int32 × sh_S → Option ((Int64 × Int32 × sh_S) ⊕ (Int64 × sh_S))} (g : Nat → Int64 → Int64) (n : Nat) (hn : n < 6000) (step : ∀ k h s, k < n → I s → ∃ s', body (h, nI k, s) = some (.inl (g k h, nI (k + 1), s')) ∧ I s') (fin : ∀ h s, I s → body (h, nI n, s) = some (.inr (h, s))) (h : Int64) (s : sh_S) (hs : I s) : ∃ s', lp body FU (h, (0 : Int32), s) = some (fd g n h, s') ∧ I s' := by
  have hh := lp_for (body := body) (fun k (a : Int64 × sh_S) => (a.1, nI k, a.2)) n (fun k a => a.1 = fd g k h ∧ I a.2) (fun e => e.1 = fd g n h ∧ I e.2)
    (fun k a hk ⟨a1, a2⟩ => by
      obtain ⟨s', b1, b2⟩ := step k a.1 a.2 hk a2
      refine ⟨(g k a.1, s'), b1, ?_, b2⟩
      show g k a.1 = g k (fd g k h)
      rw [a1])
    (fun a ⟨a1, a2⟩ => ⟨(a.1, a.2), fin a.1 a.2 a2, a1, a2⟩) FU 0 (h, s) (Nat.zero_le _) ⟨rfl, hs⟩ (FU_gt (by omega))
  obtain ⟨e, h1, h2, h3⟩ := hh
  refine ⟨e.2, ?_, h3⟩
  have h1' : lp body FU (h, (0 : Int32), s) = some e := h1
  rw [h1', ← h2]
theorem lp_fd0 {body : Int64 × Int32 → Option ((Int64 × Int32) ⊕ Int64)} (g : Nat → Int64 → Int64) (n : Nat) (hn : n < 6000) (step : ∀ k h, k < n → body (h, nI k) = some (.inl (g k h, nI (k + 1)))) (fin : ∀ h, body (h, nI n) = some (.inr h)) (h : Int64) : lp body FU (h, (0 : Int32)) = some (fd g n h) := by
  have hh := lp_fn (body := body) (fun k (a : Int64) => (a, nI k)) n (fun k => fd g k h) (fd g n h) (fun k hk => step k (fd g k h) hk) (fin (fd g n h)) (FU_gt (by omega))
  exact hh
def f31 (h : Int64) (v : Int32) : Int64 := (31 : Int64) * h + v.toInt64
def dP (P : Pg) (h : Int64) (k : Nat) : Int64 := f31 (f31 (f31 (fd (fun v h => f31 h (mkb (Ho P (8 * k + v)))) 8 (f31 (fd (fun w h => f31 h (codv P k w)) 4 h) (mkb (nx P k)))) (mkb (sSc P k))) (mkb (sAc P k))) (if Lo P k = true then mkb (Br P k) else -3)
def dE (P : Pg) (h : Int64) (i : Nat) : Int64 := f31 (f31 (fd (fun w h => f31 h (tl P i w)) 3 h) (witv P i none)) (witv P i (some 1))
def dR (P : Pg) (h : Int64) (p : Int32) : Int64 := fd (fun w h => f31 h (runv P p (nI 60) w)) 3 h
def dG (P : Pg) : Int64 := dR P (dR P (dR P (f31 (f31 (f31 (fd (fun i h => dE P h i) 30 (fd (fun k h => dP P h k) (pn P) (fd (fun v h => f31 (f31 h (mkb (Lv P v))) (mkb (Rg P v))) 8 (f31 (f31 (fd (fun w h => f31 h (cntv P w)) 8 17) (mkb (Rc P))) (mkb (Lo P)))))) (mdb (md P (pn P)))) (mdl (md P (pn P)))) (mkb (sf P))) 0) 5) 2147483647
section DG
variable {P : Pg} {T : SH}
theorem x_fold (h : Int64) (v : Int32) : f_X9_fold h v.toInt64 = some (f31 h v) := rfl
theorem qx_foldPoint (ho : pOK P) (h : Int64) {k : Nat} (hk : k < pn P) : QX P T (f_X9_foldPoint h (nI k)) (dP P h k) := by
  intro s hs
  unfold f_X9_foldPoint
  have l1 : lp (fun q : Int64 × Int32 => f_X9_foldPoint_L6 (nI k) s q.1 q.2) FU (h, (0 : Int32)) = some (fd (fun w h => f31 h (codv P k w)) 4 h) := lp_fd0 (fun w h => f31 h (codv P k w)) 4 (by omega) (fun w h hw => by
    show f_X9_foldPoint_L6 (nI k) s h (nI w) = _
    unfold f_X9_foldPoint_L6
    rw [if_neg (show ¬ (3 : Int32) < nI w from nI_nlt (a := 3) (by omega) (by omega)), x_codeN ho hs hk hw, ob_e, x_fold, ob_e, lb_e, nI_1]) (fun h => by
    show f_X9_foldPoint_L6 (nI k) s h (nI 4) = _
    unfold f_X9_foldPoint_L6
    rw [if_pos (by decide)]) h
  rw [l1, ob_e]
  obtain ⟨s1, a1, a2⟩ := qx_next (T := T) ho hk s hs
  rw [a1, ob2_e, x_fold, ob_e]
  obtain ⟨s2, b1, b2⟩ := lp_fd (I := XI P T) (body := fun q : Int64 × Int32 × sh_S => f_X9_foldPoint_L49 (nI k) q.1 q.2.1 q.2.2) (fun v h => f31 h (mkb (Ho P (8 * k + v)))) 8 (by omega) (fun v h s hv hI => by
    obtain ⟨s', z1, z2⟩ := qx_holds (T := T) ho hk hv s hI
    refine ⟨s', ?_, z2⟩
    show f_X9_foldPoint_L49 (nI k) h (nI v) s = _
    unfold f_X9_foldPoint_L49
    rw [if_neg (show ¬ (8 : Int32) ≤ nI v from nI_ge (b := 8) hv (by omega)), z1, ob2_e, x_fold, ob_e, lb_e, nI_1]) (fun h s _ => by
    show f_X9_foldPoint_L49 (nI k) h (nI 8) s = _
    unfold f_X9_foldPoint_L49
    rw [if_pos (by decide)]) (f31 (fd (fun w h => f31 h (codv P k w)) 4 h) (mkb (nx P k))) s1 a2
  rw [b1, ob2_e]
  obtain ⟨s3, d1, d2⟩ := qx_scope (T := T) ho hk s2 b2
  rw [d1, ob2_e, x_fold, ob_e]
  obtain ⟨s4, e1, e2⟩ := qx_active (T := T) ho hk s3 d2
  rw [e1, ob2_e, x_fold, ob_e]
  obtain ⟨s5, g1, g2⟩ := qx_bears (T := T) ho hk s4 e2
  rw [g1, ob2_e, x_fold, ob_e]
  exact ⟨s5, rfl, g2⟩
theorem qx_foldError (ho : pOK P) (h : Int64) {i : Nat} (hi : i < 30) : QX P T (f_X9_foldError h (nI i)) (dE P h i) := by
  intro s hs
  unfold f_X9_foldError
  obtain ⟨s2, b1, b2⟩ := lp_fd (I := XI P T) (body := fun q : Int64 × Int32 × sh_S => f_X9_foldError_L6 (nI i) q.1 q.2.1 q.2.2) (fun w h => f31 h (tl P i w)) 3 (by omega) (fun w h s hw hI => by
    obtain ⟨s', z1, z2⟩ := qx_error (T := T) ho (i := i) (by omega) hw s hI
    refine ⟨s', ?_, z2⟩
    show f_X9_foldError_L6 (nI i) h (nI w) s = _
    unfold f_X9_foldError_L6
    rw [if_neg (show ¬ (2 : Int32) < nI w from nI_nlt (a := 2) (by omega) (by omega)), z1, ob2_e, x_fold, ob_e, lb_e, nI_1]) (fun h s _ => by
    show f_X9_foldError_L6 (nI i) h (nI 3) s = _
    unfold f_X9_foldError_L6
    rw [if_pos (by decide)]) h s hs
  rw [b1, ob2_e]
  obtain ⟨s3, d1, d2⟩ := qx_witness (T := T) ho (i := i) (by omega) (j := none) (fun x e => by cases e) s2 b2
  have d1' : f_X9_witness (nI i) (-1 : Int32) s2 = some (witv P i none, s3) := d1
  rw [d1', ob2_e, x_fold, ob_e]
  obtain ⟨s4, e1, e2⟩ := qx_witness (T := T) ho (i := i) (by omega) (j := some 1) (fun x e => by cases e; omega) s3 d2
  have e1' : f_X9_witness (nI i) (1 : Int32) s3 = some (witv P i (some 1), s4) := e1
  rw [e1', ob2_e, x_fold, ob_e]
  exact ⟨s4, rfl, e2⟩
theorem qx_foldRun (ho : pOK P) (h : Int64) (p : Int32) : QX P T (f_X9_foldRun h p) (dR P h p) := by
  intro s hs
  unfold f_X9_foldRun
  obtain ⟨s2, b1, b2⟩ := lp_fd (I := XI P T) (body := fun q : Int64 × Int32 × sh_S => f_X9_foldRun_L6 p q.1 q.2.1 q.2.2) (fun w h => f31 h (runv P p (nI 60) w)) 3 (by omega) (fun w h s hw hI => by
    obtain ⟨s', z1, z2⟩ := qx_run (T := T) ho p (st := 60) (by omega) hw s hI
    have z1' : f_X9_run p (60 : Int32) (nI w) s = some (runv P p (nI 60) w, s') := z1
    refine ⟨s', ?_, z2⟩
    show f_X9_foldRun_L6 p h (nI w) s = _
    unfold f_X9_foldRun_L6
    rw [if_neg (show ¬ (2 : Int32) < nI w from nI_nlt (a := 2) (by omega) (by omega)), z1', ob2_e, x_fold, ob_e, lb_e, nI_1]) (fun h s _ => by
    show f_X9_foldRun_L6 p h (nI 3) s = _
    unfold f_X9_foldRun_L6
    rw [if_pos (by decide)]) h s hs
  rw [b1, ob2_e]
  exact ⟨s2, rfl, b2⟩
theorem qx_digest (ho : pOK P) : QX P T f_X9_digest (dG P) := by
  intro s hs
  have hn := ho.1
  unfold f_X9_digest
  obtain ⟨s1, a1, a2⟩ := lp_fd (I := XI P T) (body := fun q : Int64 × Int32 × sh_S => f_X9_digest_L6 q.1 q.2.1 q.2.2) (fun w h => f31 h (cntv P w)) 8 (by omega) (fun w h s hw hI => by
    obtain ⟨s', z1, z2⟩ := qx_count (T := T) ho hw s hI
    refine ⟨s', ?_, z2⟩
    show f_X9_digest_L6 h (nI w) s = _
    unfold f_X9_digest_L6
    rw [if_neg (show ¬ (7 : Int32) < nI w from nI_nlt (a := 7) (by omega) (by omega)), z1, ob2_e, x_fold, ob_e, lb_e, nI_1]) (fun h s _ => by
    show f_X9_digest_L6 h (nI 8) s = _
    unfold f_X9_digest_L6
    rw [if_pos (by decide)]) 17 s hs
  rw [a1, ob2_e]
  obtain ⟨s2, b1, b2⟩ := qx_reached (T := T) ho s1 a2
  rw [b1, ob2_e, x_fold, ob_e]
  obtain ⟨s3, c1, c2⟩ := qx_loans (T := T) ho s2 b2
  rw [c1, ob2_e, x_fold, ob_e]
  obtain ⟨s4, d1, d2⟩ := lp_fd (I := XI P T) (body := fun q : Int64 × Int32 × sh_S => f_X9_digest_L51 q.1 q.2.1 q.2.2) (fun v h => f31 (f31 h (mkb (Lv P v))) (mkb (Rg P v))) 8 (by omega) (fun v h s hv hI => by
    obtain ⟨s', z1, z2⟩ := qx_live (T := T) ho hv s hI
    obtain ⟨s'', y1, y2⟩ := qx_region (T := T) ho hv s' z2
    refine ⟨s'', ?_, y2⟩
    show f_X9_digest_L51 h (nI v) s = _
    unfold f_X9_digest_L51
    rw [if_neg (show ¬ (8 : Int32) ≤ nI v from nI_ge (b := 8) hv (by omega)), z1, ob2_e, x_fold, ob_e, y1, ob2_e, x_fold, ob_e, lb_e, nI_1]) (fun h s _ => by
    show f_X9_digest_L51 h (nI 8) s = _
    unfold f_X9_digest_L51
    rw [if_pos (by decide)]) (f31 (f31 (fd (fun w h => f31 h (cntv P w)) 8 17) (mkb (Rc P))) (mkb (Lo P))) s3 c2
  rw [d1, ob2_e]
  generalize hA : fd (fun v h => f31 (f31 h (mkb (Lv P v))) (mkb (Rg P v))) 8 (f31 (f31 (fd (fun w h => f31 h (cntv P w)) 8 17) (mkb (Rc P))) (mkb (Lo P))) = A
  obtain ⟨s5, e1, e2⟩ := lp_fd (I := XI P T) (body := fun q : Int64 × Int32 × sh_S => f_X9_digest_L87 q.1 q.2.1 q.2.2) (fun k h => dP P h k) (pn P) (by omega) (fun k h s hk hI => by
    obtain ⟨s', z1, z2⟩ := qx_foldPoint (T := T) ho h hk s hI
    refine ⟨s', ?_, z2⟩
    show f_X9_digest_L87 h (nI k) s = _
    unfold f_X9_digest_L87
    rw [hI.1.1, if_neg (nI_ge hk (by omega)), z1, ob2_e, lb_e, nI_1]) (fun h s hI => by
    show f_X9_digest_L87 h (nI (pn P)) s = _
    unfold f_X9_digest_L87
    rw [hI.1.1, if_pos (nI_le (Nat.le_refl _) (by omega))]) A s4 d2
  rw [e1, ob2_e]
  generalize hB : fd (fun k h => dP P h k) (pn P) A = B
  obtain ⟨s6, f1, f2⟩ := lp_fd (I := XI P T) (body := fun q : Int64 × Int32 × sh_S => f_X9_digest_L113 q.1 q.2.1 q.2.2) (fun i h => dE P h i) 30 (by omega) (fun i h s hi hI => by
    obtain ⟨s', z1, z2⟩ := qx_foldError (T := T) ho h hi s hI
    refine ⟨s', ?_, z2⟩
    show f_X9_digest_L113 h (nI i) s = _
    unfold f_X9_digest_L113
    rw [if_neg (show ¬ (30 : Int32) ≤ nI i from nI_ge (b := 30) hi (by omega)), z1, ob2_e, lb_e, nI_1]) (fun h s hI => by
    show f_X9_digest_L113 h (nI 30) s = _
    unfold f_X9_digest_L113
    rw [if_pos (by decide)]) B s5 e2
  rw [f1, ob2_e]
  generalize hC : fd (fun i h => dE P h i) 30 B = C
  obtain ⟨s7, g1, g2⟩ := qx_mend (T := T) ho (w := 0) (by omega) s6 f2
  have g1' : f_X9_mend (0 : Int32) s6 = some (mdb (md P (pn P)), s7) := g1
  rw [g1', ob2_e, x_fold, ob_e]
  obtain ⟨s8, i1, i2⟩ := qx_mend (T := T) ho (w := 1) (by omega) s7 g2
  have i1' : f_X9_mend (1 : Int32) s7 = some (mdl (md P (pn P)), s8) := i1
  rw [i1', ob2_e, x_fold, ob_e]
  obtain ⟨s9, j1, j2⟩ := qx_soft (T := T) ho s8 i2
  rw [j1, ob2_e, x_fold, ob_e]
  obtain ⟨s10, k1, k2⟩ := qx_foldRun (T := T) ho (f31 (f31 (f31 C (mdb (md P (pn P)))) (mdl (md P (pn P)))) (mkb (sf P))) 0 s9 j2
  rw [k1, ob2_e]
  obtain ⟨s11, l1, l2⟩ := qx_foldRun (T := T) ho (dR P (f31 (f31 (f31 C (mdb (md P (pn P)))) (mdl (md P (pn P)))) (mkb (sf P))) 0) 5 s10 k2
  rw [l1, ob2_e]
  obtain ⟨s12, m1, m2⟩ := qx_foldRun (T := T) ho (dR P (dR P (f31 (f31 (f31 C (mdb (md P (pn P)))) (mdl (md P (pn P)))) (mkb (sf P))) 0) 5) 2147483647 s11 l2
  rw [m1, ob2_e]
  refine ⟨s12, ?_, m2⟩
  unfold dG
  rw [hA, hB, hC]
theorem qm_pointDigest (ho : pOK P) (h : Int64) {k : Nat} (hk : k < pn P) : QM P T (f_X10_pointDigest h (nI k)) (dP P h k) := by
  intro m hm
  have hn := ho.1
  unfold f_X10_pointDigest
  have l1 : lp (fun q : Int64 × Int32 => f_X10_pointDigest_L6 (nI k) m q.1 q.2) FU (h, (0 : Int32)) = some (fd (fun w h => f31 h (codv P k w)) 4 h) := lp_fd0 (fun w h => f31 h (codv P k w)) 4 (by omega) (fun w h hw => by
    show f_X10_pointDigest_L6 (nI k) m h (nI w) = _
    unfold f_X10_pointDigest_L6
    rw [if_neg (show ¬ (4 : Int32) ≤ nI w from nI_ge (b := 4) hw (by omega)), m_codeOf ho hm.1 hk hw, ob_e, lb_e, lb_e, nI_1]
    rfl) (fun h => by
    show f_X10_pointDigest_L6 (nI k) m h (nI 4) = _
    unfold f_X10_pointDigest_L6
    rw [if_pos (by decide)]) h
  rw [l1, ob_e, m_nextOf hm.1 ho (by omega), ob_e, lb_e]
  obtain ⟨s2, b1, b2⟩ := lp_fd (I := MI P T) (body := fun q : Int64 × Int32 × sh_S => f_X10_pointDigest_L53 (nI k) q.1 q.2.1 q.2.2) (fun v h => f31 h (mkb (Ho P (8 * k + v)))) 8 (by omega) (fun v h s hv hI => by
    obtain ⟨s', z1, z2⟩ := qm_holdsOf (T := T) ho hk hv s hI
    refine ⟨s', ?_, z2⟩
    show f_X10_pointDigest_L53 (nI k) h (nI v) s = _
    unfold f_X10_pointDigest_L53
    rw [if_neg (show ¬ (8 : Int32) ≤ nI v from nI_ge (b := 8) hv (by omega)), z1, ob2_e, lb_e, lb_e, nI_1]
    rfl) (fun h s _ => by
    show f_X10_pointDigest_L53 (nI k) h (nI 8) s = _
    unfold f_X10_pointDigest_L53
    rw [if_pos (by decide)]) (f31 (fd (fun w h => f31 h (codv P k w)) 4 h) (mkb (nx P k))) m hm
  have b1' : lp (fun q : Int64 × Int32 × sh_S => f_X10_pointDigest_L53 (nI k) q.1 q.2.1 q.2.2) FU ((31 : Int64) * fd (fun w h => f31 h (codv P k w)) 4 h + (mkb (nx P k)).toInt64, (0 : Int32), m) = _ := b1
  rw [b1', ob2_e]
  obtain ⟨s3, d1, d2⟩ := qm_scopeOf (T := T) ho hk s2 b2
  rw [d1, ob2_e, lb_e]
  obtain ⟨s4, e1, e2⟩ := qm_activeOf (T := T) ho hk s3 d2
  rw [e1, ob2_e, lb_e]
  obtain ⟨s5, g1, g2⟩ := qm_bearsOf (T := T) ho hk s4 e2
  rw [g1, ob2_e]
  exact ⟨s5, rfl, g2⟩
theorem qm_errorDigest (ho : pOK P) (h : Int64) {i : Nat} (hi : i < 30) : QM P T (f_X10_errorDigest h (nI i)) (dE P h i) := by
  intro s hs
  unfold f_X10_errorDigest
  obtain ⟨s2, b1, b2⟩ := lp_fd (I := MI P T) (body := fun q : Int64 × Int32 × sh_S => f_X10_errorDigest_L6 (nI i) q.1 q.2.1 q.2.2) (fun w h => f31 h (tl P i w)) 3 (by omega) (fun w h s hw hI => by
    obtain ⟨s', z1, z2⟩ := qm_errorOf (T := T) ho (i := i) (by omega) hw s hI
    refine ⟨s', ?_, z2⟩
    show f_X10_errorDigest_L6 (nI i) h (nI w) s = _
    unfold f_X10_errorDigest_L6
    rw [if_neg (show ¬ (3 : Int32) ≤ nI w from nI_ge (b := 3) hw (by omega)), z1, ob2_e, lb_e, lb_e, nI_1]
    rfl) (fun h s _ => by
    show f_X10_errorDigest_L6 (nI i) h (nI 3) s = _
    unfold f_X10_errorDigest_L6
    rw [if_pos (by decide)]) h s hs
  rw [b1, ob2_e]
  obtain ⟨s3, d1, d2⟩ := qm_witnessOf (T := T) ho (i := i) (by omega) (j := none) (fun x e => by cases e) s2 b2
  have d1' : f_X10_witnessOf (nI i) (-1 : Int32) s2 = some (witv P i none, s3) := d1
  rw [d1', ob2_e, lb_e]
  obtain ⟨s4, e1, e2⟩ := qm_witnessOf (T := T) ho (i := i) (by omega) (j := some 1) (fun x e => by cases e; omega) s3 d2
  have e1' : f_X10_witnessOf (nI i) (1 : Int32) s3 = some (witv P i (some 1), s4) := e1
  rw [e1', ob2_e]
  exact ⟨s4, rfl, e2⟩
theorem qm_runDigest (ho : pOK P) (h : Int64) (p : Int32) : QM P T (f_X10_runDigest h p) (dR P h p) := by
  intro s hs
  unfold f_X10_runDigest
  obtain ⟨s2, b1, b2⟩ := lp_fd (I := MI P T) (body := fun q : Int64 × Int32 × sh_S => f_X10_runDigest_L6 p q.1 q.2.1 q.2.2) (fun w h => f31 h (runv P p (nI 60) w)) 3 (by omega) (fun w h s hw hI => by
    obtain ⟨s', z1, z2⟩ := qm_runOf (T := T) ho p (st := 60) (by omega) hw s hI
    have z1' : f_X10_runOf p (60 : Int32) (nI w) s = some (runv P p (nI 60) w, s') := z1
    refine ⟨s', ?_, z2⟩
    show f_X10_runDigest_L6 p h (nI w) s = _
    unfold f_X10_runDigest_L6
    rw [if_neg (show ¬ (3 : Int32) ≤ nI w from nI_ge (b := 3) hw (by omega)), z1', ob2_e, lb_e, lb_e, nI_1]
    rfl) (fun h s _ => by
    show f_X10_runDigest_L6 p h (nI 3) s = _
    unfold f_X10_runDigest_L6
    rw [if_pos (by decide)]) h s hs
  rw [b1, ob2_e]
  exact ⟨s2, rfl, b2⟩
theorem qm_digest (ho : pOK P) : QM P T f_X10_digest (dG P) := by
  intro s hs
  have hn := ho.1
  have ff : ∀ (h : Int64) (v : Int32), (31 : Int64) * h + v.toInt64 = f31 h v := fun _ _ => rfl
  unfold f_X10_digest
  obtain ⟨s1, a1, a2⟩ := lp_fd (I := MI P T) (body := fun q : Int64 × Int32 × sh_S => f_X10_digest_L6 q.1 q.2.1 q.2.2) (fun w h => f31 h (cntv P w)) 8 (by omega) (fun w h s hw hI => by
    obtain ⟨s', z1, z2⟩ := qm_count (T := T) ho hw s hI
    refine ⟨s', ?_, z2⟩
    show f_X10_digest_L6 h (nI w) s = _
    unfold f_X10_digest_L6
    rw [if_neg (show ¬ (8 : Int32) ≤ nI w from nI_ge (b := 8) hw (by omega)), z1, ob2_e, lb_e, lb_e, nI_1]
    rfl) (fun h s _ => by
    show f_X10_digest_L6 h (nI 8) s = _
    unfold f_X10_digest_L6
    rw [if_pos (by decide)]) 17 s hs
  rw [a1, ob2_e]
  obtain ⟨s2, b1, b2⟩ := qm_reachedOf (T := T) ho s1 a2
  rw [b1, ob2_e, lb_e, ff]
  obtain ⟨s3, c1, c2⟩ := qm_loansOf (T := T) ho s2 b2
  rw [c1, ob2_e, lb_e, ff]
  obtain ⟨s4, d1, d2⟩ := lp_fd (I := MI P T) (body := fun q : Int64 × Int32 × sh_S => f_X10_digest_L57 q.1 q.2.1 q.2.2) (fun v h => f31 (f31 h (mkb (Lv P v))) (mkb (Rg P v))) 8 (by omega) (fun v h s hv hI => by
    obtain ⟨s', z1, z2⟩ := qm_liveOf (T := T) ho hv s hI
    obtain ⟨s'', y1, y2⟩ := qm_regionOf (T := T) ho hv s' z2
    refine ⟨s'', ?_, y2⟩
    show f_X10_digest_L57 h (nI v) s = _
    unfold f_X10_digest_L57
    rw [if_neg (show ¬ (8 : Int32) ≤ nI v from nI_ge (b := 8) hv (by omega)), z1, ob2_e, lb_e, y1, ob2_e, lb_e, lb_e, nI_1]
    rfl) (fun h s _ => by
    show f_X10_digest_L57 h (nI 8) s = _
    unfold f_X10_digest_L57
    rw [if_pos (by decide)]) (f31 (f31 (fd (fun w h => f31 h (cntv P w)) 8 17) (mkb (Rc P))) (mkb (Lo P))) s3 c2
  rw [d1, ob2_e]
  generalize hA : fd (fun v h => f31 (f31 h (mkb (Lv P v))) (mkb (Rg P v))) 8 (f31 (f31 (fd (fun w h => f31 h (cntv P w)) 8 17) (mkb (Rc P))) (mkb (Lo P))) = A
  obtain ⟨s5, e1, e2⟩ := lp_fd (I := MI P T) (body := fun q : Int64 × Int32 × sh_S => f_X10_digest_L97 q.1 q.2.1 q.2.2) (fun k h => dP P h k) (pn P) (by omega) (fun k h s hk hI => by
    obtain ⟨s', z1, z2⟩ := qm_pointDigest (T := T) ho h hk s hI
    refine ⟨s', ?_, z2⟩
    show f_X10_digest_L97 h (nI k) s = _
    unfold f_X10_digest_L97
    rw [hI.1.1, if_neg (nI_ge hk (by omega)), z1, ob2_e, lb_e, nI_1]) (fun h s hI => by
    show f_X10_digest_L97 h (nI (pn P)) s = _
    unfold f_X10_digest_L97
    rw [hI.1.1, if_pos (nI_le (Nat.le_refl _) (by omega))]) A s4 d2
  rw [e1, ob2_e]
  generalize hB : fd (fun k h => dP P h k) (pn P) A = B
  obtain ⟨s6, f1, f2⟩ := lp_fd (I := MI P T) (body := fun q : Int64 × Int32 × sh_S => f_X10_digest_L120 q.1 q.2.1 q.2.2) (fun i h => dE P h i) 30 (by omega) (fun i h s hi hI => by
    obtain ⟨s', z1, z2⟩ := qm_errorDigest (T := T) ho h hi s hI
    refine ⟨s', ?_, z2⟩
    show f_X10_digest_L120 h (nI i) s = _
    unfold f_X10_digest_L120
    rw [if_neg (show ¬ (30 : Int32) ≤ nI i from nI_ge (b := 30) hi (by omega)), z1, ob2_e, lb_e, nI_1]) (fun h s hI => by
    show f_X10_digest_L120 h (nI 30) s = _
    unfold f_X10_digest_L120
    rw [if_pos (by decide)]) B s5 e2
  rw [f1, ob2_e]
  generalize hC : fd (fun i h => dE P h i) 30 B = C
  obtain ⟨s7, g1, g2⟩ := qm_mendOf (T := T) ho (w := 0) (by omega) s6 f2
  have g1' : f_X10_mendOf (0 : Int32) s6 = some (mdb (md P (pn P)), s7) := g1
  rw [g1', ob2_e, lb_e, ff]
  obtain ⟨s8, i1, i2⟩ := qm_mendOf (T := T) ho (w := 1) (by omega) s7 g2
  have i1' : f_X10_mendOf (1 : Int32) s7 = some (mdl (md P (pn P)), s8) := i1
  rw [i1', ob2_e, lb_e, ff]
  obtain ⟨s9, j1, j2⟩ := qm_softOf (T := T) ho s8 i2
  rw [j1, ob2_e, lb_e, ff]
  obtain ⟨s10, k1, k2⟩ := qm_runDigest (T := T) ho (f31 (f31 (f31 C (mdb (md P (pn P)))) (mdl (md P (pn P)))) (mkb (sf P))) 0 s9 j2
  rw [k1, ob2_e]
  obtain ⟨s11, l1, l2⟩ := qm_runDigest (T := T) ho (dR P (f31 (f31 (f31 C (mdb (md P (pn P)))) (mdl (md P (pn P)))) (mkb (sf P))) 0) 5 s10 k2
  rw [l1, ob2_e]
  obtain ⟨s12, m1, m2⟩ := qm_runDigest (T := T) ho (dR P (dR P (f31 (f31 (f31 C (mdb (md P (pn P)))) (mdl (md P (pn P)))) (mkb (sf P))) 0) 5) 2147483647 s11 l2
  rw [m1, ob2_e]
  refine ⟨s12, ?_, m2⟩
  unfold dG
  rw [hA, hB, hC]
end DG
theorem sim_digest : Sim f_X9_digest f_X10_digest := Sim.q (fun P T hP hT => ⟨_, qx_digest hP, qm_digest hP⟩)
