def rowU (m : sh_S) (c : Nat) (U : Nat → Bf) : Nat → Int32 := fun j => if j < 24 then mkb (U j) else m c j
theorem rowU_lt {m : sh_S} {c : Nat} {U : Nat → Bf} {j : Nat} (h : j < 24) : rowU m c U j = mkb (U j) := by simp [rowU, h]
theorem rowU_upd (m : sh_S) (c : Nat) (U : Nat → Bf) {p : Nat} (hp : p < 24) (w : Bf) : upd (rowU m c U) p (mkb w) = rowU m c (fun v => if v = p then w else U v) := by
  funext j
  unfold upd rowU
  by_cases e : j = p
  · subst e; simp [hp]
  · by_cases e2 : j < 24 <;> simp [e, e2]
theorem rowU_ext {m : sh_S} {c : Nat} {U U' : Nat → Bf} (h : ∀ v, v < 24 → ∀ b, b < 25 → U v b = U' v b) : rowU m c U = rowU m c U' := by
  funext j
  unfold rowU
  by_cases e : j < 24
  · simp only [e, if_true]
    exact mkb_ext (h j e)
  · simp [e]
def StU (m : sh_S) (U V : Nat → Bf) : sh_S := ur (ur m 8 (rowU m 8 U)) 9 (rowU m 9 V)
theorem StU_8 (m : sh_S) (U V : Nat → Bf) : StU m U V 8 = rowU m 8 U := by unfold StU; rw [ur_n _ _ (by omega), ur_s]
theorem StU_9 (m : sh_S) (U V : Nat → Bf) : StU m U V 9 = rowU m 9 V := by unfold StU; rw [ur_s]
theorem StU_o (m : sh_S) (U V : Nat → Bf) {k : Nat} (h1 : k ≠ 8) (h2 : k ≠ 9) : StU m U V k = m k := by unfold StU; rw [ur_n _ _ h2, ur_n _ _ h1]
theorem StU_u8 (m : sh_S) (U U' V : Nat → Bf) : ur (StU m U V) 8 (rowU m 8 U') = StU m U' V := by
  funext k
  unfold StU ur
  by_cases e : k = 8
  · subst e; simp
  · by_cases e2 : k = 9 <;> simp [e, e2]
theorem StU_u9 (m : sh_S) (U V V' : Nat → Bf) : ur (StU m U V) 9 (rowU m 9 V') = StU m U V' := by unfold StU; rw [ur_ur]
theorem StU_ext {m : sh_S} {U U' V V' : Nat → Bf} (h1 : ∀ v, v < 24 → ∀ b, b < 25 → U v b = U' v b) (h2 : ∀ v, v < 24 → ∀ b, b < 25 → V v b = V' v b) : StU m U V = StU m U' V' := by
  unfold StU
  rw [rowU_ext h1, rowU_ext h2]
theorem PM.stU {P : Pg} {m : sh_S} (h : PM P m) (U V : Nat → Bf) : PM P (StU m U V) := (h.row (by omega) _).row (by omega) _
section AL
variable {P : Pg} {m : sh_S}
theorem mA_213 (h : PM P m) (ho : pOK P) {l : Nat} (hl : l < 24) (R A : Bf) (U V : Nat → Bf) :
    lp (fun q : Int32 × sh_S => f_X10_findsScope_L213 (nI l) (mkb R) (mkb A) q.1 q.2) FU ((0 : Int32), StU m U V) = some (StU m (fun j b => U j b || (decide (j < pn P) && (decide (b = l) && (R j || A j)))) (fun j b => V j b || (decide (j < pn P) && (decide (b = l) && A j)))) := by
  have hn := ho.1
  have key := lp_fn (body := fun q : Int32 × sh_S => f_X10_findsScope_L213 (nI l) (mkb R) (mkb A) q.1 q.2) (fun k (s : sh_S) => (nI k, s)) (pn P) (fun k => StU m (fun j b => U j b || (decide (j < k) && (decide (b = l) && (R j || A j)))) (fun j b => V j b || (decide (j < k) && (decide (b = l) && A j)))) (StU m (fun j b => U j b || (decide (j < pn P) && (decide (b = l) && (R j || A j)))) (fun j b => V j b || (decide (j < pn P) && (decide (b = l) && A j))))
    (fun k hk => by
      generalize hU : (fun j b => U j b || (decide (j < k) && (decide (b = l) && (R j || A j)))) = U1
      generalize hV : (fun j b => V j b || (decide (j < k) && (decide (b = l) && A j))) = V1
      show f_X10_findsScope_L213 (nI l) (mkb R) (mkb A) (nI k) (StU m U1 V1) = _
      have i1 : inb (nI k) 24 := inb_n (by omega) (by omega)
      unfold f_X10_findsScope_L213
      have e0 : StU m U1 V1 0 0 = nI (pn P) := by rw [StU_o m _ _ (by omega) (by omega)]; exact h.1
      rw [e0, if_neg (nI_ge hk (by omega)), gu_t i1, mkb_or, m_isIn (by omega), ob_e]
      have c1 : ∀ z : Bool, (if bi z = 0 then some (0 : Int32) else some ((1 : Int32) <<< (nI l &&& 31))) = some (mkb (fun b => decide (b = l) && z)) := by
        intro z
        rw [mkb_one (by omega)]
        cases z
        · simp [bi, mkb_0]
        · simp [bi]
      rw [c1, ob_e, m_isIn (by omega)]
      simp only [ob_e, c1, gu_t i1, lb_e, ix_n (show k < 2 ^ 31 by omega), StU_8, rowU_lt (show k < 24 by omega), mkb_or, rowU_upd m 8 U1 (show k < 24 by omega), StU_u8, StU_9, rowU_upd m 9 V1 (show k < 24 by omega), StU_u9, nI_1]
      refine congrArg (fun z => some (Sum.inl (nI (k + 1), z))) (StU_ext ?_ ?_)
      · intro j _ b _
        subst hU
        by_cases e : j = k
        · subst e; simp
        · by_cases e2 : j < k
          · simp [e, e2, show j < k + 1 by omega]
          · simp [e, e2, show ¬ j < k + 1 by omega]
      · intro j _ b _
        subst hV
        by_cases e : j = k
        · subst e; simp
        · by_cases e2 : j < k
          · simp [e, e2, show j < k + 1 by omega]
          · simp [e, e2, show ¬ j < k + 1 by omega])
    (by
      generalize (fun j b => U j b || (decide (j < pn P) && (decide (b = l) && (R j || A j)))) = U1
      generalize (fun j b => V j b || (decide (j < pn P) && (decide (b = l) && A j))) = V1
      show f_X10_findsScope_L213 (nI l) (mkb R) (mkb A) (nI (pn P)) (StU m U1 V1) = _
      unfold f_X10_findsScope_L213
      have e0 : StU m U1 V1 0 0 = nI (pn P) := by rw [StU_o m _ _ (by omega) (by omega)]; exact h.1
      rw [e0, if_pos (nI_le (Nat.le_refl _) (by omega))])
    (FU_gt (show pn P < 6000 by omega))
  have e1 : StU m U V = StU m (fun j b => U j b || (decide (j < 0) && (decide (b = l) && (R j || A j)))) (fun j b => V j b || (decide (j < 0) && (decide (b = l) && A j))) := StU_ext (fun j _ b _ => by simp) (fun j _ b _ => by simp)
  rw [e1]
  exact key
theorem m_findsScope (h : PM P m) (ho : pOK P) (hG : ∀ v, v < 8 → m 6 v = mkb (Rg P v)) (hH : ∀ i, i < 192 → m 7 i = mkb (Ho P i)) {l : Nat} (hl : l < 24) (U V : Nat → Bf) :
    f_X10_findsScope (nI l) (StU m U V) = some (StU m (fun j b => U j b || (decide (j < pn P) && (decide (b = l) && Sc P l j))) (fun j b => V j b || (decide (j < pn P) && (decide (b = l) && Ac P l j)))) := by
  have hn := ho.1
  have hP := h.stU U V
  obtain ⟨h1, h2, h3, h4⟩ := hP.2 l hl
  obtain ⟨o1, o2, o3, o4⟩ := ho.2 l
  have i1 : inb (nI l) 24 := inb_n hl (by omega)
  have i2 : inb (nI (px P l)) 8 := inb_n o2 (by omega)
  unfold f_X10_findsScope
  rw [m_isNever hP ho hl, ob_e, gu_t i1, ix_n (by omega), h2, gu_t i2, ix_n (by omega), StU_o m _ _ (show (6 : Nat) ≠ 8 by omega) (by omega), hG _ o2]
  have c1 : (if bi (nvr P l) = 0 then some (mkb (Rg P (px P l))) else some (0 : Int32)) = some (mkb (rgn P l)) := by
    simp only [bi_0]
    unfold rgn
    cases nvr P l
    · simp
    · simp [mkb_0]
  rw [c1, ob_e, m_nextOf hP ho hl, ob_e, lb_e, mkb_and]
  have hH2 : ∀ i, i < 192 → StU m U V 7 i = mkb (Ho P i) := fun i hi => by rw [StU_o m _ _ (by omega) (by omega)]; exact hH i hi
  rw [mS_all hP ho hH2 hl, ob2_e, mA_213 h ho hl, ob_e]
  refine congrArg some (StU_ext ?_ ?_)
  · intro j hj b _
    simp [Sc, hj]
  · intro j hj b _
    simp [Ac, hj]
def sSc (P : Pg) (j : Nat) : Bf := fun l => decide (j < pn P) && (Lo P l && Sc P l j)
def sAc (P : Pg) (j : Nat) : Bf := fun l => decide (j < pn P) && (Lo P l && Ac P l j)
def MF (P : Pg) (m : sh_S) : Prop := PM P m ∧ m 0 5 = mkb (Rc P) ∧ m 0 6 = mkb (Lo P) ∧ (∀ v, v < 8 → m 5 v = mkb (Lv P v)) ∧ (∀ v, v < 8 → m 6 v = mkb (Rg P v)) ∧ (∀ i, i < 192 → m 7 i = mkb (Ho P i)) ∧ (∀ j, j < 24 → m 8 j = mkb (sSc P j)) ∧ ∀ j, j < 24 → m 9 j = mkb (sAc P j)
/-- what a finding leaves as it was -/
def Mk (m m' : sh_S) : Prop := (∀ j, j ≠ 5 → j ≠ 6 → m' 0 j = m 0 j) ∧ (∀ k, 1 ≤ k → k ≤ 4 → m' k = m k) ∧ ∀ k, 10 ≤ k → m' k = m k
theorem m_findsAll (h : PM P m) (ho : pOK P) : ∃ m', f_X10_findsAll m = some m' ∧ MF P m' ∧ Mk m m' := by
  have hn := ho.1
  unfold f_X10_findsAll
  rw [m_findsReached h ho, ob_e]
  generalize hm1 : St6 m (Rc P) (Lo P) = m1
  have p1 : PM P m1 := by
    have q := (h.st5 (Rc P)).slot (j := 6) (by omega) (mkb (Lo P))
    unfold St5 at q
    rw [ur_ur, ur_s] at q
    rw [← hm1]
    exact q
  have r1 : m1 0 5 = mkb (Rc P) := by rw [← hm1]; unfold St6; rw [ur_s, upd_n _ _ (by omega), upd_s]
  have r2 : m1 0 6 = mkb (Lo P) := by rw [← hm1]; unfold St6; rw [ur_s, upd_s]
  have r3 : ∀ j, j ≠ 5 → j ≠ 6 → m1 0 j = m 0 j := fun j h5 h6 => by rw [← hm1]; unfold St6; rw [ur_s, upd_n _ _ h6, upd_n _ _ h5]
  have r4 : ∀ k, k ≠ 0 → m1 k = m k := fun k hk => by rw [← hm1]; unfold St6; rw [ur_n _ _ hk]
  rw [m_findsLive p1 ho, ob_e]
  generalize hm2 : ur m1 5 (rowL P m1 8) = m2
  have p2 : PM P m2 := by rw [← hm2]; exact p1.row (by omega) _
  have a0 : m2 0 = m1 0 := by rw [← hm2, ur_n _ _ (by omega)]
  have a5 : ∀ v, v < 8 → m2 5 v = mkb (Lv P v) := fun v hv => by rw [← hm2, ur_s]; simp [rowL, hv]
  rw [m_findsRegions p2 ho (by rw [a0]; exact r1) a5, ob_e]
  generalize hm3 : ur m2 6 (rowR m2 (Rg P)) = m3
  have p3 : PM P m3 := by rw [← hm3]; exact p2.row (by omega) _
  have b0' : m3 0 = m1 0 := by rw [← hm3, ur_n _ _ (by omega), a0]
  rw [m_findsHolding p3 ho (by rw [b0']; exact r1), ob_e]
  generalize hm4 : ur m3 7 (rowH m3 (Ho P)) = m4
  have p4 : PM P m4 := by rw [← hm4]; exact p3.row (by omega) _
  have c0 : m4 0 = m1 0 := by rw [← hm4, ur_n _ _ (by omega), b0']
  have c7 : ∀ i, i < 192 → m4 7 i = mkb (Ho P i) := fun i hi => by rw [← hm4, ur_s, rowH_lt hi]
  have c6 : ∀ v, v < 8 → m4 6 v = mkb (Rg P v) := fun v hv => by rw [← hm4, ur_n _ _ (by omega), ← hm3, ur_s, rowR_lt hv]
  have c5 : ∀ v, v < 8 → m4 5 v = mkb (Lv P v) := fun v hv => by rw [← hm4, ur_n _ _ (by omega), ← hm3, ur_n _ _ (by omega)]; exact a5 v hv
  have ck : ∀ k, k ≠ 0 → k ≠ 5 → k ≠ 6 → k ≠ 7 → m4 k = m k := fun k h0 h5 h6 h7 => by rw [← hm4, ur_n _ _ h7, ← hm3, ur_n _ _ h6, ← hm2, ur_n _ _ h5]; exact r4 k h0
  have key := lp_fn (body := fun q : Int32 × sh_S => f_X10_findsAll_L18 q.1 q.2) (fun k (s : sh_S) => (nI k, s)) 24 (fun k => ur (ur m4 8 (fun j => if j < k then 0 else m4 8 j)) 9 (fun j => if j < k then 0 else m4 9 j)) (StU m4 (fun _ _ => false) (fun _ _ => false))
    (fun k hk => by
      show f_X10_findsAll_L18 (nI k) (ur (ur m4 8 (fun j => if j < k then 0 else m4 8 j)) 9 (fun j => if j < k then 0 else m4 9 j)) = _
      have i1 : inb (nI k) 24 := inb_n hk (by omega)
      unfold f_X10_findsAll_L18
      rw [if_neg (show ¬ (24 : Int32) ≤ nI k from nI_ge (b := 24) hk (by omega)), gu_t i1, lb_e, gu_t i1, lb_e, lb_e, nI_1, ix_n (by omega)]
      refine congrArg (fun z => some (Sum.inl (nI (k + 1), z))) ?_
      funext c j
      unfold ur upd
      by_cases e9 : c = 9
      · subst e9
        by_cases e : j = k
        · subst e; simp
        · by_cases e2 : j < k
          · simp [e, e2, show j < k + 1 by omega]
          · simp [e, e2, show ¬ j < k + 1 by omega]
      · by_cases e8 : c = 8
        · subst e8
          by_cases e : j = k
          · subst e; simp
          · by_cases e2 : j < k
            · simp [e, e2, show j < k + 1 by omega]
            · simp [e, e2, show ¬ j < k + 1 by omega]
        · simp [e9, e8])
    (by
      show f_X10_findsAll_L18 (nI 24) _ = _
      unfold f_X10_findsAll_L18
      rw [if_pos (by decide)]
      unfold StU rowU
      simp only [← mkb_0])
    (FU_gt (show 24 < 6000 by omega))
  have e0 : ur (ur m4 8 (fun j => if j < 0 then 0 else m4 8 j)) 9 (fun j => if j < 0 then 0 else m4 9 j) = m4 := by
    funext c j
    unfold ur
    by_cases e9 : c = 9
    · subst e9; simp
    · by_cases e8 : c = 8
      · subst e8; simp
      · simp [e9, e8]
  rw [e0] at key
  have key' : lp (fun q : Int32 × sh_S => f_X10_findsAll_L18 q.1 q.2) FU ((0 : Int32), m4) = some (StU m4 (fun _ _ => false) (fun _ _ => false)) := key
  rw [key', ob_e]
  have fin := lp_fn (body := fun q : Int32 × sh_S => f_X10_findsAll_L46 q.1 q.2) (fun k (s : sh_S) => (nI k, s)) (pn P) (fun k => StU m4 (fun j l => decide (l < k) && sSc P j l) (fun j l => decide (l < k) && sAc P j l)) (StU m4 (sSc P) (sAc P))
    (fun k hk => by
      show f_X10_findsAll_L46 (nI k) (StU m4 (fun j l => decide (l < k) && sSc P j l) (fun j l => decide (l < k) && sAc P j l)) = _
      unfold f_X10_findsAll_L46
      rw [StU_o m4 _ _ (show (0 : Nat) ≠ 8 by omega) (by omega), p4.1, if_neg (nI_ge hk (by omega)), c0, r2, m_isIn (by omega), ob_e, m_findsScope p4 ho c6 c7 (by omega), ob_e]
      simp only [bi_0]
      cases hlk : Lo P k
      · simp only [if_true, ob_e, lb_e, nI_1]
        refine congrArg (fun z => some (Sum.inl (nI (k + 1), z))) (StU_ext ?_ ?_)
        · intro j _ b _
          by_cases e : b = k
          · subst e; simp [sSc, hlk]
          · by_cases e2 : b < k
            · simp [e2, show b < k + 1 by omega]
            · simp [e2, show ¬ b < k + 1 by omega]
        · intro j _ b _
          by_cases e : b = k
          · subst e; simp [sAc, hlk]
          · by_cases e2 : b < k
            · simp [e2, show b < k + 1 by omega]
            · simp [e2, show ¬ b < k + 1 by omega]
      · simp only [Bool.true_eq_false, if_false, ob_e, lb_e, nI_1]
        refine congrArg (fun z => some (Sum.inl (nI (k + 1), z))) (StU_ext ?_ ?_)
        · intro j _ b _
          by_cases e : b = k
          · subst e; simp [sSc, hlk]
          · by_cases e2 : b < k
            · simp [e, e2, show b < k + 1 by omega]
            · simp [e, e2, show ¬ b < k + 1 by omega]
        · intro j _ b _
          by_cases e : b = k
          · subst e; simp [sAc, hlk]
          · by_cases e2 : b < k
            · simp [e, e2, show b < k + 1 by omega]
            · simp [e, e2, show ¬ b < k + 1 by omega])
    (by
      show f_X10_findsAll_L46 (nI (pn P)) (StU m4 (fun j l => decide (l < pn P) && sSc P j l) (fun j l => decide (l < pn P) && sAc P j l)) = _
      unfold f_X10_findsAll_L46
      rw [StU_o m4 _ _ (show (0 : Nat) ≠ 8 by omega) (by omega), p4.1, if_pos (nI_le (Nat.le_refl _) (by omega))]
      have lo : ∀ l, Lo P l = true → l < pn P := fun l hl => by
        simp only [Lo, Bool.and_eq_true] at hl
        exact Rc_lt hl.1
      refine congrArg (fun z => some (Sum.inr z)) (StU_ext ?_ ?_)
      · intro j _ l _
        by_cases e : l < pn P
        · simp [e]
        · simp only [e, decide_false, Bool.false_and, sSc]
          cases q : Lo P l with
          | false => simp
          | true => exact absurd (lo l q) e
      · intro j _ l _
        by_cases e : l < pn P
        · simp [e]
        · simp only [e, decide_false, Bool.false_and, sAc]
          cases q : Lo P l with
          | false => simp
          | true => exact absurd (lo l q) e)
    (FU_gt (show pn P < 6000 by omega))
  have e1 : StU m4 (fun j l => decide (l < 0) && sSc P j l) (fun j l => decide (l < 0) && sAc P j l) = StU m4 (fun _ _ => false) (fun _ _ => false) := StU_ext (fun j _ l _ => by simp) (fun j _ l _ => by simp)
  rw [e1] at fin
  refine ⟨StU m4 (sSc P) (sAc P), (congrArg (fun z => ob z _) fin).trans rfl, ⟨p4.stU _ _, ?_, ?_, ?_, ?_, ?_, ?_, ?_⟩, ?_, ?_, ?_⟩
  · rw [StU_o _ _ _ (by omega) (by omega), c0]; exact r1
  · rw [StU_o _ _ _ (by omega) (by omega), c0]; exact r2
  · intro v hv; rw [StU_o _ _ _ (by omega) (by omega)]; exact c5 v hv
  · intro v hv; rw [StU_o _ _ _ (by omega) (by omega)]; exact c6 v hv
  · intro v hv; rw [StU_o _ _ _ (by omega) (by omega)]; exact c7 v hv
  · intro j hj; rw [StU_8, rowU_lt hj]
  · intro j hj; rw [StU_9, rowU_lt hj]
  · intro j h5 h6; rw [StU_o _ _ _ (by omega) (by omega), c0]; exact r3 j h5 h6
  · intro k h1 h2; rw [StU_o _ _ _ (by omega) (by omega)]; exact ck k (by omega) (by omega) (by omega) (by omega)
  · intro k h1; rw [StU_o _ _ _ (by omega) (by omega)]; exact ck k (by omega) (by omega) (by omega) (by omega)
end AL
