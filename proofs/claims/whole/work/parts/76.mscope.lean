def kil (P : Pg) (k l : Nat) : Bool := thr P l && wr P k (pv P l)
def nvr (P : Pg) (l : Nat) : Bool := thr P l && decide (pv P l = px P l)
def rgn (P : Pg) (l : Nat) : Bf := fun x => !nvr P l && Rg P (px P l) x
def act (P : Pg) (k l : Nat) : Bool := decide (ak P l = 5) && (gt P k && Ho P (8 * k + pv P k) l)
def FSc (P : Pg) (l : Nat) : Bf → Bf := fun f x => if x < 24 then decide (x < pn P) && rgn P l x && ex (pn P) (fun k => nx P k x && !kil P k l && (f k && !act P k l)) else decide (x < 48) && (rgn P l (x - 24) && ex (pn P) (fun k => nx P k (x - 24) && !kil P k l && (f (24 + k) || (f k && act P k l))))
def bSc (P : Pg) (l : Nat) : Bf := fun x => decide (x < 24) && (nx P l x && rgn P l x)
def Tsc (P : Pg) (l : Nat) : Bf := lfp (FSc P l) (bSc P l) 48
def Sc (P : Pg) (l k : Nat) : Bool := decide (k < 24) && (Tsc P l k || Tsc P l (24 + k))
def Ac (P : Pg) (l k : Nat) : Bool := decide (k < 24) && Tsc P l (24 + k)
theorem FSc_lt (P : Pg) (l : Nat) (f : Bf) (x : Nat) (h : FSc P l f x = true) : x < 48 := by
  unfold FSc at h
  split at h
  · omega
  · simp only [Bool.and_eq_true, decide_eq_true_eq] at h
    exact h.1
theorem bSc_lt (P : Pg) (l x : Nat) (h : bSc P l x = true) : x < 48 := by
  simp only [bSc, Bool.and_eq_true, decide_eq_true_eq] at h
  omega
theorem FSc_mon {P : Pg} (ho : pOK P) (l : Nat) : Mon (FSc P l) 48 := by
  have hn := ho.1
  intro f g h x hx e
  unfold FSc at e ⊢
  split at e
  · rename_i hx2
    rw [if_pos hx2]
    simp only [Bool.and_eq_true, decide_eq_true_eq] at e ⊢
    refine ⟨e.1, ex_mon (fun k hk e3 => ?_) e.2⟩
    simp only [Bool.and_eq_true] at e3 ⊢
    exact ⟨e3.1, h k (by omega) e3.2.1, e3.2.2⟩
  · rename_i hx2
    rw [if_neg hx2]
    simp only [Bool.and_eq_true, decide_eq_true_eq] at e ⊢
    refine ⟨e.1, e.2.1, ex_mon (fun k hk e3 => ?_) e.2.2⟩
    simp only [Bool.and_eq_true, Bool.or_eq_true] at e3 ⊢
    refine ⟨e3.1, ?_⟩
    rcases e3.2 with q | q
    · exact Or.inl (h _ (by omega) q)
    · exact Or.inr ⟨h _ (by omega) q.1, q.2⟩
def cb (R A : Bf) : Bf := fun x => if x < 24 then R x else decide (x < 48) && A (x - 24)
section SC
variable {P : Pg} {m : sh_S}
theorem m_kills (h : PM P m) (ho : pOK P) {k l : Nat} (hk : k < 24) (hl : l < 24) : f_X10_kills (nI k) (nI l) m = some (bi (kil P k l)) := by
  obtain ⟨h1, h2, h3, h4⟩ := h.2 l hl
  obtain ⟨o1, o2, o3, o4⟩ := ho.2 l
  have hp := pv_lt ho l
  have ev : f_X10_variable (nI (pp P l)) = some (nI (pv P l)) := m_variable _ o3
  have et : f_X10_through (nI (pp P l)) = some (bi (thr P l)) := m_through _ o3
  have hi : inb (nI l) 24 := inb_n hl (by omega)
  unfold f_X10_kills
  simp only [gu_t hi, ix_n (show l < 2 ^ 31 by omega), h3, ev, et, ob_e, m_writesOf h ho hk, m_isIn (show pv P l < 25 by omega), bi_0]
  unfold kil
  cases thr P l <;> cases wr P k (pv P l) <;> simp [ob, gu, bi]
theorem m_isNever (h : PM P m) (ho : pOK P) {l : Nat} (hl : l < 24) : f_X10_isNever (nI l) m = some (bi (nvr P l)) := by
  obtain ⟨h1, h2, h3, h4⟩ := h.2 l hl
  obtain ⟨o1, o2, o3, o4⟩ := ho.2 l
  have hp := pv_lt ho l
  have ev : f_X10_variable (nI (pp P l)) = some (nI (pv P l)) := m_variable _ o3
  have et : f_X10_through (nI (pp P l)) = some (bi (thr P l)) := m_through _ o3
  have hi : inb (nI l) 24 := inb_n hl (by omega)
  have q3 : (nI (pv P l) = nI (px P l)) = (pv P l = px P l) := nI_eqb (by omega) (by omega)
  unfold f_X10_isNever
  simp only [gu_t hi, ix_n (show l < 2 ^ 31 by omega), h2, h3, ev, et, ob_e, q3, bi_0]
  unfold nvr
  cases thr P l <;> by_cases c : pv P l = px P l <;> simp [ob, gu, bi, c]
def to (P : Pg) (k l : Nat) : Bf := fun x => !kil P k l && (nx P k x && rgn P l x)
theorem mS_48 (h : PM P m) (ho : pOK P) (hH : ∀ i, i < 192 → m 7 i = mkb (Ho P i)) {k l : Nat} (hk : k < pn P) (hl : l < 24) (R A : Bf) :
    f_X10_findsScope_L48 (nI l) m (mkb (rgn P l)) (mkb R) (mkb A) (nI k) = some (.inl (mkb (fun x => R x || (R k && !act P k l && to P k l x)), mkb (fun x => A x || ((A k || (R k && act P k l)) && to P k l x)), nI (k + 1))) := by
  have hn := ho.1
  have hp := pv_lt ho k
  obtain ⟨o1, o2, o3, o4⟩ := ho.2 l
  unfold f_X10_findsScope_L48
  rw [h.1, if_neg (nI_ge hk (by omega)), m_kills h ho (by omega) hl, ob_e, m_nextOf h ho (by omega), ob_e, mkb_and, m_goesBy h ho (by omega)]
  have ea : ak P l < 10 := by unfold ak; split <;> omega
  have e5 : (nI (ak P l) = (5 : Int32)) = (ak P l = 5) := nI_lt10 (c := 5) ea (by omega)
  have c1 : (if bi (kil P k l) = 0 then some (mkb (fun i => nx P k i && rgn P l i)) else some (0 : Int32)) = some (mkb (to P k l)) := by
    simp only [bi_0]
    unfold to
    cases kil P k l
    · simp
    · simp [mkb_0]
  rw [c1, ob_e, ob_e, m_kind h ho hl, ob_e]
  have c2 : (if nI (ak P l) = (5 : Int32) then (if (if gt P k = true then nI (pv P k) else -1) = (-1 : Int32) then some (0 : Int32) else ob (if 0 ≤ (if gt P k = true then nI (pv P k) else -1) then some (if gt P k = true then nI (pv P k) else -1) else some (0 : Int32)) (fun v23 => gu (inb (((8 : Int32) * nI k) + v23) 192) (ob (f_X10_isIn (m 7 (ix (((8 : Int32) * nI k) + v23))) (nI l)) (fun v25 => (if v25 = 0 then some (0 : Int32) else some (1 : Int32)))))) else some (0 : Int32)) = some (bi (act P k l)) := by
    simp only [e5]
    unfold act
    by_cases q1 : ak P l = 5
    · cases q2 : gt P k
      · simp [q1, bi]
      · have a1 : ¬ nI (pv P k) = (-1 : Int32) := by
          intro e
          have := nI_pos' (n := pv P k) (by omega)
          rw [e] at this
          exact absurd this (by decide)
        simp only [q1, if_true, a1, if_false, nI_pos' (show pv P k < 2 ^ 31 by omega), ob_e, ix8, gu_t (inb_n (show 8 * k + pv P k < 192 by omega) (by omega)), ix_n (show 8 * k + pv P k < 2 ^ 31 by omega), hH _ (show 8 * k + pv P k < 192 by omega), m_isIn (show l < 25 by omega), bi_0]
        cases Ho P (8 * k + pv P k) l <;> simp [bi]
    · simp [q1, bi]
  refine (congrArg (fun z => ob z _) c2).trans ?_
  rw [ob_e, m_isIn (by omega), ob_e, m_isIn (by omega), ob_e]
  simp only [bi_0, lb_e, ob_e, nI_1]
  cases qA : A k <;> cases qR : R k <;> cases qc : act P k l <;> simp [ob, lb, mkb_or]
theorem mS_38 (h : PM P m) (ho : pOK P) (hH : ∀ i, i < 192 → m 7 i = mkb (Ho P i)) {l : Nat} (hl : l < 24) (R A : Bf) (hR : ∀ x, R x = true → x < 24) (hA : ∀ x, A x = true → x < 24) :
    ∃ R' A', lp (fun q : Int32 × Int32 × Int32 => f_X10_findsScope_L48 (nI l) m (mkb (rgn P l)) q.1 q.2.1 q.2.2) FU (mkb R, mkb A, (0 : Int32)) = some (mkb R', mkb A') ∧ (∀ x, R' x = true → x < 24) ∧ (∀ x, A' x = true → x < 24) ∧ GS (FSc P l) 48 (cb R A) (cb R' A') := by
  have hn := ho.1
  have hh := lp_for (body := fun q : Int32 × Int32 × Int32 => f_X10_findsScope_L48 (nI l) m (mkb (rgn P l)) q.1 q.2.1 q.2.2) (fun k (a : Bf × Bf) => (mkb a.1, mkb a.2, nI k)) (pn P)
    (fun k a => (∀ x, a.1 x = true → x < 24) ∧ (∀ x, a.2 x = true → x < 24) ∧ (∀ x, R x = true → a.1 x = true) ∧ (∀ x, A x = true → a.2 x = true) ∧
      (∀ j x, j < k → to P j l x = true → (R j = true → act P j l = false → a.1 x = true) ∧ ((A j = true ∨ (R j = true ∧ act P j l = true)) → a.2 x = true)) ∧
      ∀ C : Bf, (∀ x, x < 48 → FSc P l C x = true → C x = true) → (∀ x, cb R A x = true → C x = true) → (∀ x, a.1 x = true → C x = true) ∧ ∀ x, a.2 x = true → C (24 + x) = true)
    (fun e => ∃ R' A', e = (mkb R', mkb A') ∧ (∀ x, R' x = true → x < 24) ∧ (∀ x, A' x = true → x < 24) ∧ GS (FSc P l) 48 (cb R A) (cb R' A'))
    (fun k a hk hi => by
      obtain ⟨R1, A1⟩ := a
      obtain ⟨i1, i2, i3, i4, i5, i6⟩ := hi
      simp only at i1 i2 i3 i4 i5 i6
      have tolt : ∀ x, to P k l x = true → x < pn P := fun x hx => by
        simp only [to, Bool.and_eq_true] at hx
        exact nx_lt hx.2.1
      refine ⟨(fun x => R1 x || (R1 k && !act P k l && to P k l x), fun x => A1 x || ((A1 k || (R1 k && act P k l)) && to P k l x)), mS_48 h ho hH hk hl R1 A1, ?_, ?_, ?_, ?_, ?_, ?_⟩
      · intro x hx
        simp only [Bool.or_eq_true, Bool.and_eq_true] at hx
        rcases hx with hx | hx
        · exact i1 x hx
        · have := tolt x hx.2; omega
      · intro x hx
        simp only [Bool.or_eq_true, Bool.and_eq_true] at hx
        rcases hx with hx | hx
        · exact i2 x hx
        · have := tolt x hx.2; omega
      · intro x hx; simp [i3 x hx]
      · intro x hx; simp [i4 x hx]
      · intro j x hj ht
        by_cases e : j = k
        · subst e
          refine ⟨fun a1 a2 => by simp [i3 j a1, a2, ht], fun a1 => ?_⟩
          rcases a1 with a1 | ⟨a1, a2⟩
          · simp [i4 j a1, ht]
          · simp [i3 j a1, a2, ht]
        · obtain ⟨p1, p2⟩ := i5 j x (by omega) ht
          exact ⟨fun a1 a2 => by simp [p1 a1 a2], fun a1 => by simp [p2 a1]⟩
      · intro C hC hg
        obtain ⟨p1, p2⟩ := i6 C hC hg
        refine ⟨fun x hx => ?_, fun x hx => ?_⟩
        · simp only [Bool.or_eq_true, Bool.and_eq_true, Bool.not_eq_true'] at hx
          rcases hx with hx | ⟨⟨q1, q2⟩, q3⟩
          · exact p1 x hx
          · have hx24 := tolt x q3
            refine hC x (by omega) ?_
            simp only [to, Bool.and_eq_true, Bool.not_eq_true'] at q3
            unfold FSc
            rw [if_pos (show x < 24 by omega)]
            simp only [Bool.and_eq_true, decide_eq_true_eq]
            exact ⟨⟨hx24, q3.2.2⟩, ex_iff.mpr ⟨k, hk, by simp [q3.1, q3.2.1, p1 k q1, q2]⟩⟩
        · simp only [Bool.or_eq_true, Bool.and_eq_true] at hx
          rcases hx with hx | ⟨q1, q3⟩
          · exact p2 x hx
          · have hx24 := tolt x q3
            refine hC (24 + x) (by omega) ?_
            simp only [to, Bool.and_eq_true, Bool.not_eq_true'] at q3
            unfold FSc
            rw [if_neg (show ¬ 24 + x < 24 by omega), show 24 + x - 24 = x by omega]
            simp only [Bool.and_eq_true, decide_eq_true_eq]
            refine ⟨by omega, q3.2.2, ex_iff.mpr ⟨k, hk, ?_⟩⟩
            rcases q1 with q1 | ⟨q1, q2⟩
            · simp [q3.1, q3.2.1, p2 k q1]
            · simp [q3.1, q3.2.1, p1 k q1, q2])
    (fun a hi => ⟨(mkb a.1, mkb a.2), by
      show f_X10_findsScope_L48 (nI l) m (mkb (rgn P l)) (mkb a.1) (mkb a.2) (nI (pn P)) = _
      unfold f_X10_findsScope_L48
      rw [h.1, if_pos (nI_le (Nat.le_refl _) (by omega))], a.1, a.2, rfl, hi.1, hi.2.1, by
      obtain ⟨i1, i2, i3, i4, i5, i6⟩ := hi
      refine ⟨fun x hx => ?_, fun x hx hF => ?_, fun C hC hg x hx => ?_⟩
      · unfold cb at hx ⊢
        split
        · rename_i q; rw [if_pos q] at hx; exact i3 x hx
        · rename_i q
          rw [if_neg q] at hx
          simp only [Bool.and_eq_true, decide_eq_true_eq] at hx ⊢
          exact ⟨hx.1, i4 _ hx.2⟩
      · unfold FSc at hF
        unfold cb
        split at hF
        · rename_i q
          rw [if_pos q]
          simp only [Bool.and_eq_true, decide_eq_true_eq] at hF
          obtain ⟨k, hk, hz⟩ := ex_iff.mp hF.2
          simp only [Bool.and_eq_true, Bool.not_eq_true', cb, show k < 24 by omega, if_true] at hz
          exact (i5 k x hk (by simp [to, hz.1.2, hz.1.1, hF.1.2])).1 hz.2.1 hz.2.2
        · rename_i q
          rw [if_neg q]
          simp only [Bool.and_eq_true, decide_eq_true_eq] at hF ⊢
          obtain ⟨k, hk, hz⟩ := ex_iff.mp hF.2.2
          simp only [Bool.and_eq_true, Bool.or_eq_true, Bool.not_eq_true', cb, show k < 24 by omega, if_true, show ¬ 24 + k < 24 by omega, if_false, show 24 + k < 48 by omega, decide_true, true_and, show 24 + k - 24 = k by omega] at hz
          exact ⟨hx, (i5 k (x - 24) hk (by simp [to, hz.1.2, hz.1.1, hF.2.1])).2 hz.2⟩
      · obtain ⟨p1, p2⟩ := i6 C hC hg
        unfold cb at hx
        split at hx
        · exact p1 x hx
        · rename_i q
          simp only [Bool.and_eq_true, decide_eq_true_eq] at hx
          have := p2 _ hx.2
          rwa [show 24 + (x - 24) = x by omega] at this⟩)
    FU 0 (R, A) (Nat.zero_le _) ⟨hR, hA, fun _ hx => hx, fun _ hx => hx, fun j x hj => by omega, fun C _ hg => ⟨fun x hx => hg x (by unfold cb; rw [if_pos (hR x hx)]; exact hx), fun x hx => hg (24 + x) (by
      have := hA x hx
      unfold cb
      rw [if_neg (by omega), show 24 + x - 24 = x by omega, show A x = true from hx]
      simp; omega)⟩⟩ (FU_gt (by omega))
  obtain ⟨e, h1, R', A', rfl, h2⟩ := hh
  exact ⟨R', A', h1, h2⟩
theorem mS_all (h : PM P m) (ho : pOK P) (hH : ∀ i, i < 192 → m 7 i = mkb (Ho P i)) {l : Nat} (hl : l < 24) :
    lp (fun q : Int32 × Int32 × Int32 => f_X10_findsScope_L38 (nI l) m (mkb (rgn P l)) q.1 q.2.1 q.2.2) FU (mkb (fun x => nx P l x && rgn P l x), (0 : Int32), (0 : Int32)) = some (mkb (fun x => decide (x < 24) && Tsc P l x), mkb (fun x => decide (x < 24) && Tsc P l (24 + x))) := by
  have hn := ho.1
  have hh := lp_for (body := fun q : Int32 × Int32 × Int32 => f_X10_findsScope_L38 (nI l) m (mkb (rgn P l)) q.1 q.2.1 q.2.2) (fun k (a : Bf × Bf) => (mkb a.1, mkb a.2, nI k)) 48
    (fun r a => (∀ x, a.1 x = true → x < 24) ∧ (∀ x, a.2 x = true → x < 24) ∧ RI (FSc P l) (bSc P l) 48 r (cb a.1 a.2))
    (fun e => e = (mkb (fun x => decide (x < 24) && Tsc P l x), mkb (fun x => decide (x < 24) && Tsc P l (24 + x))))
    (fun k a hk hi => by
      obtain ⟨R', A', e1, e2, e3, e4⟩ := mS_38 h ho hH hl a.1 a.2 hi.1 hi.2.1
      refine ⟨(R', A'), ?_, e2, e3, hi.2.2.step (FSc_mon ho l) (FSc_lt P l) (bSc_lt P l) e4⟩
      show f_X10_findsScope_L38 (nI l) m (mkb (rgn P l)) (mkb a.1) (mkb a.2) (nI k) = _
      unfold f_X10_findsScope_L38
      rw [if_neg (show ¬ (48 : Int32) ≤ nI k from nI_ge (b := 48) hk (by omega)), e1, ob2_e, lb_e, nI_1])
    (fun a hi => ⟨(mkb a.1, mkb a.2), by
      show f_X10_findsScope_L38 (nI l) m (mkb (rgn P l)) (mkb a.1) (mkb a.2) (nI 48) = _
      unfold f_X10_findsScope_L38
      rw [if_pos (by decide)], by
      have hf := hi.2.2.fin (FSc_mon ho l) (FSc_lt P l) (bSc_lt P l) (Nat.le_refl _)
      have g1 : mkb a.1 = mkb (fun x => decide (x < 24) && Tsc P l x) := by
        apply mkb_ext; intro x _
        by_cases q : x < 24
        · have := hf x
          unfold cb at this
          rw [if_pos q] at this
          simp [q, this, Tsc]
        · simp only [q, decide_false, Bool.false_and]
          cases e : a.1 x with
          | false => rfl
          | true => exact absurd (hi.1 x e) q
      have g2 : mkb a.2 = mkb (fun x => decide (x < 24) && Tsc P l (24 + x)) := by
        apply mkb_ext; intro x _
        by_cases q : x < 24
        · have := hf (24 + x)
          unfold cb at this
          rw [if_neg (by omega), show 24 + x - 24 = x by omega, show decide (24 + x < 48) = true by simp; omega] at this
          simp [q, Tsc, ← this]
        · simp only [q, decide_false, Bool.false_and]
          cases e : a.2 x with
          | false => rfl
          | true => exact absurd (hi.2.1 x e) q
      rw [g1, g2]⟩)
    FU 0 (fun x => nx P l x && rgn P l x, fun _ => false) (Nat.zero_le _) ⟨(fun x hx => by
      simp only [Bool.and_eq_true] at hx
      have := nx_lt hx.1
      omega), (fun x hx => by cases hx), by
      have e : cb (fun x => nx P l x && rgn P l x) (fun _ => false) = bSc P l := by
        funext x
        unfold cb bSc
        by_cases q : x < 24 <;> simp [q]
      simp only
      rw [e]
      exact RI.zero (bSc_lt P l)⟩ (FU_gt (by omega))
  obtain ⟨e, h1, rfl⟩ := hh
  rw [← h1]
  show lp _ FU (_, (0 : Int32), _) = lp _ FU (_, mkb (fun _ => false), _)
  rw [← mkb_0]
  rfl
end SC
