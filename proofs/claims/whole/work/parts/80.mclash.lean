def cla (P : Pg) (k l p : Nat) (w f : Bool) : Bool := (w || decide (ak P l = 4) || sAc P k l) && (ovl p (pp P l) && !(f && !decide (3 ≤ p % 6) && thr P l))
def clg (P : Pg) (k p : Nat) (w f : Bool) : Bf := fun l => sSc P k l && cla P k l p w f
def clh (P : Pg) (k : Nat) : Bf := fun l =>
  ((decide (ak P k = 1) || decide (ak P k = 3) || decide (ak P k = 5)) && clg P k (pp P k) false false l) || (decide (ak P k = 5) && (clg P k (pp P k) true false l && decide (l = k))) || ((decide (ak P k = 2) || decide (ak P k = 4)) && clg P k (pp P k) true (decide (ak P k = 2)) l) || (decide (ak P k = 6) && clg P k (6 * pv P k) true false l) || ((decide (3 ≤ ak P k) && decide (ak P k ≤ 6)) && clg P k (6 * px P k) true true l) || (gt P k && ex (pn P) (fun q => Lo P q && decide (ak P q = 5) && Ho P (8 * k + pv P k) q && (clg P k (pp P q) true false l && !decide (l = q))))
theorem ak_lt {P : Pg} (ho : pOK P) (k : Nat) : ak P k < 10 := by
  have := (ho.2 k).1
  unfold ak
  split <;> omega
theorem sSc_lt {P : Pg} {k l : Nat} (h : sSc P k l = true) : l < pn P := by
  simp only [sSc, Lo, Bool.and_eq_true] at h
  exact Rc_lt h.2.1.1
section CH
variable {P : Pg} {m : sh_S}
theorem m_isClash (h : MF P m) (ho : pOK P) {k l p : Nat} (hk : k < 24) (hl : l < 24) (hp : p < 48) (w f : Bool) : f_X10_isClash (nI k) (nI l) (nI p) (bi w) (bi f) m = some (bi (cla P k l p w f)) := by
  obtain ⟨hM, -, -, -, -, -, -, h9⟩ := h
  obtain ⟨h1, h2, h3, h4⟩ := hM.2 l hl
  obtain ⟨o1, o2, o3, o4⟩ := ho.2 l
  have i1 : inb (nI k) 24 := inb_n hk (by omega)
  have i2 : inb (nI l) 24 := inb_n hl (by omega)
  have e4 : (nI (ak P l) = (4 : Int32)) = (ak P l = 4) := nI_lt10 (c := 4) (ak_lt ho l) (by omega)
  have et : f_X10_through (nI (pp P l)) = some (bi (thr P l)) := m_through _ o3
  unfold f_X10_isClash
  simp only [gu_t i1, gu_t i2, ix_n (show k < 2 ^ 31 by omega), ix_n (show l < 2 ^ 31 by omega), h3, h9 k hk, m_kind hM ho hl, m_isIn (show l < 25 by omega), m_overlap hp o3, m_through _ hp, et, ob_e, e4, bi_0]
  unfold cla
  cases w <;> cases f <;> cases sAc P k l <;> cases ovl p (pp P l) <;> cases thr P l <;> by_cases c4 : ak P l = 4 <;> by_cases c3 : 3 ≤ p % 6 <;> simp [ob, gu, bi, c4, c3]
theorem m_clashing (h : MF P m) (ho : pOK P) {k p : Nat} (hk : k < 24) (hp : p < 48) (w f : Bool) : f_X10_clashing (nI k) (nI p) (bi w) (bi f) m = some (mkb (clg P k p w f)) := by
  have hn := ho.1
  have hM := h.1
  have h8 := h.2.2.2.2.2.2.1
  unfold f_X10_clashing
  have key := lp_fn (body := fun q : Int32 × Int32 => f_X10_clashing_L6 (nI k) (nI p) (bi w) (bi f) m q.1 q.2) (fun j (g : Bf) => (mkb g, nI j)) (pn P) (fun j => fun l => decide (l < j) && clg P k p w f l) (mkb (clg P k p w f))
    (fun j hj => by
      show f_X10_clashing_L6 (nI k) (nI p) (bi w) (bi f) m (mkb (fun l => decide (l < j) && clg P k p w f l)) (nI j) = _
      unfold f_X10_clashing_L6
      rw [hM.1, if_neg (nI_ge hj (by omega)), gu_t (inb_n hk (by omega)), ix_n (by omega), h8 k hk, m_isIn (by omega), ob_e, m_isClash h ho hk (by omega) hp, ob_e, mkb_one (by omega)]
      simp only [bi_0, lb_e, nI_1]
      have fin : ∀ z : Bf, (∀ l, l < 25 → ((decide (l < j) && clg P k p w f l) || z l) = (decide (l < j + 1) && clg P k p w f l)) → (some (Sum.inl (mkb (fun l => decide (l < j) && clg P k p w f l) ||| mkb z, nI (j + 1))) : Option ((Int32 × Int32) ⊕ Int32)) = some (Sum.inl (mkb (fun l => decide (l < j + 1) && clg P k p w f l), nI (j + 1))) := by
        intro z hz
        rw [mkb_or, mkb_ext hz]
      cases c1 : sSc P k j with
      | false =>
        simp only [if_true, ob_e]
        rw [mkb_0]
        refine fin _ (fun l _ => ?_)
        by_cases e : l = j
        · subst e; simp [clg, c1]
        · by_cases e2 : l < j
          · simp [e2, show l < j + 1 by omega]
          · simp [e2, show ¬ l < j + 1 by omega]
      | true =>
        cases c2 : cla P k j p w f with
        | false =>
          simp only [if_true, Bool.true_eq_false, if_false, ob_e]
          rw [mkb_0]
          refine fin _ (fun l _ => ?_)
          by_cases e : l = j
          · subst e; simp [clg, c2]
          · by_cases e2 : l < j
            · simp [e2, show l < j + 1 by omega]
            · simp [e2, show ¬ l < j + 1 by omega]
        | true =>
          simp only [Bool.true_eq_false, if_false, ob_e]
          refine fin _ (fun l _ => ?_)
          by_cases e : l = j
          · subst e; simp [clg, c1, c2]
          · by_cases e2 : l < j
            · simp [e2, e, show l < j + 1 by omega]
            · simp [e2, e, show ¬ l < j + 1 by omega])
    (by
      show f_X10_clashing_L6 (nI k) (nI p) (bi w) (bi f) m (mkb (fun l => decide (l < pn P) && clg P k p w f l)) (nI (pn P)) = _
      unfold f_X10_clashing_L6
      rw [hM.1, if_pos (nI_le (Nat.le_refl _) (by omega))]
      refine congrArg (fun z => some (Sum.inr z)) (mkb_ext (fun l _ => ?_))
      by_cases e : l < pn P
      · simp [e]
      · simp only [e, decide_false, Bool.false_and, clg]
        cases q : sSc P k l with
        | false => rfl
        | true => exact absurd (sSc_lt q) e)
    (FU_gt (show pn P < 6000 by omega))
  have e0 : (mkb (fun l => decide (l < 0) && clg P k p w f l), nI 0) = ((0 : Int32), (0 : Int32)) := by
    rw [show mkb (fun l => decide (l < 0) && clg P k p w f l) = 0 from by rw [mkb_0]; exact mkb_ext (fun l _ => by simp)]
    rfl
  have key2 : lp (fun q : Int32 × Int32 => f_X10_clashing_L6 (nI k) (nI p) (bi w) (bi f) m q.1 q.2) FU ((0 : Int32), (0 : Int32)) = some (mkb (clg P k p w f)) := by rw [← e0]; exact key
  rw [key2, ob_e]
theorem or_if {c : Bool} {f g : Bf} : (if c = true then some (mkb f ||| mkb g) else some (mkb f)) = some (mkb (fun l => f l || (c && g l))) := by
  cases c
  · simp
  · simp [mkb_or]
theorem six {a : Nat} : (6 : Int32) * nI a = nI (6 * a) := pk_mul 6 a
theorem dn1 (p : Prop) [Decidable p] : (if p then (1 : Int32) else 0) = bi (decide p) := by by_cases h : p <;> simp [h, bi]
theorem mC_164 (h : MF P m) (ho : pOK P) {k : Nat} (hk : k < pn P) (g : Bf) : lp (fun q : Int32 × Int32 => f_X10_clashes_L164 (nI k) m (if gt P k = true then nI (pv P k) else -1) q.1 q.2) FU (mkb g, (0 : Int32)) = some (mkb (fun l => g l || (gt P k && ex (pn P) (fun q => Lo P q && decide (ak P q = 5) && Ho P (8 * k + pv P k) q && (clg P k (pp P q) true false l && !decide (l = q)))))) := by
  have hn := ho.1
  have hM := h.1
  have hp := pv_lt ho k
  have h6 := h.2.2.1
  have h7 := h.2.2.2.2.2.1
  cases hg : gt P k with
  | false =>
    have hx := lp_fx (body := fun q : Int32 × Int32 => f_X10_clashes_L164 (nI k) m (-1) q.1 q.2) (fun j (g : Bf) => (mkb g, nI j)) 1 (fun _ f => f = g) (fun e => e = mkb g)
      (fun j f hj hf => Or.inr ⟨mkb f, by
        show f_X10_clashes_L164 (nI k) m (-1) (mkb f) (nI j) = _
        unfold f_X10_clashes_L164
        split
        · rfl
        · rw [if_pos rfl], by rw [hf]⟩)
      (fun f hf => ⟨mkb f, by
        show f_X10_clashes_L164 (nI k) m (-1) (mkb f) (nI 1) = _
        unfold f_X10_clashes_L164
        split
        · rfl
        · rw [if_pos rfl], by rw [hf]⟩) FU 0 g (by omega) rfl (FU_gt (by omega))
    obtain ⟨e, h1, rfl⟩ := hx
    simp only [Bool.false_eq_true, if_false, Bool.false_and, Bool.or_false]
    exact h1
  | true =>
    simp only [if_true, Bool.true_and]
    have hv : ¬ nI (pv P k) = (-1 : Int32) := by
      intro e
      have := nI_pos' (n := pv P k) (by omega)
      rw [e] at this
      exact absurd this (by decide)
    have i8 : inb (nI (8 * k + pv P k)) 192 := inb_n (by omega) (by omega)
    have key := lp_fn (body := fun q : Int32 × Int32 => f_X10_clashes_L164 (nI k) m (nI (pv P k)) q.1 q.2) (fun j (g : Bf) => (mkb g, nI j)) (pn P) (fun j => fun l => g l || ex j (fun q => Lo P q && decide (ak P q = 5) && Ho P (8 * k + pv P k) q && (clg P k (pp P q) true false l && !decide (l = q)))) (mkb (fun l => g l || ex (pn P) (fun q => Lo P q && decide (ak P q = 5) && Ho P (8 * k + pv P k) q && (clg P k (pp P q) true false l && !decide (l = q)))))
      (fun j hj => by
        generalize hG : (fun l => g l || ex j (fun q => Lo P q && decide (ak P q = 5) && Ho P (8 * k + pv P k) q && (clg P k (pp P q) true false l && !decide (l = q)))) = g1
        show f_X10_clashes_L164 (nI k) m (nI (pv P k)) (mkb g1) (nI j) = _
        have ij : inb (nI j) 24 := inb_n (by omega) (by omega)
        have e5 : (nI (ak P j) = (5 : Int32)) = (ak P j = 5) := nI_lt10 (c := 5) (ak_lt ho j) (by omega)
        unfold f_X10_clashes_L164
        rw [hM.1, if_neg (nI_ge hj (by omega)), if_neg hv, h6, m_isIn (by omega), ob_e, m_kind hM ho (by omega), ob_e, ix8, gu_t i8, ix_n (show 8 * k + pv P k < 2 ^ 31 by omega), h7 _ (by omega), m_isIn (by omega), ob_e]
        have c1 : (if bi (Lo P j) = 0 then some (0 : Int32) else (if nI (ak P j) = (5 : Int32) then (if bi (Ho P (8 * k + pv P k) j) = 0 then some (0 : Int32) else some (1 : Int32)) else some (0 : Int32))) = some (bi (Lo P j && decide (ak P j = 5) && Ho P (8 * k + pv P k) j)) := by
          simp only [e5, bi_0]
          cases Lo P j <;> cases Ho P (8 * k + pv P k) j <;> by_cases c5 : ak P j = 5 <;> simp [c5, bi]
        rw [c1, ob_e, gu_t ij, ix_n (by omega), (hM.2 j (by omega)).2.2.1]
        have c2 : f_X10_clashing (nI k) (nI (pp P j)) (1 : Int32) (0 : Int32) m = some (mkb (clg P k (pp P j) true false)) := m_clashing h ho (by omega) (ho.2 j).2.2.1 true false
        rw [c2, ob_e, mkb_one (by omega), mkb_nand]
        simp only [bi_0, lb_e, nI_1]
        have c3 : (fun l => g l || ex (j + 1) (fun q => Lo P q && decide (ak P q = 5) && Ho P (8 * k + pv P k) q && (clg P k (pp P q) true false l && !decide (l = q)))) = (fun l => g1 l || ((Lo P j && decide (ak P j = 5) && Ho P (8 * k + pv P k) j) && (clg P k (pp P j) true false l && !decide (l = j)))) := by
          subst hG
          funext l
          show (g l || (ex j _ || _)) = ((g l || ex j _) || _)
          rw [Bool.or_assoc]
        rw [c3]
        cases (Lo P j && decide (ak P j = 5) && Ho P (8 * k + pv P k) j)
        · simp [ob]
        · simp [ob, mkb_or])
      (by
        show f_X10_clashes_L164 (nI k) m (nI (pv P k)) _ (nI (pn P)) = _
        unfold f_X10_clashes_L164
        rw [hM.1, if_pos (nI_le (Nat.le_refl _) (by omega))])
      (FU_gt (show pn P < 6000 by omega))
    have e0 : (fun l => g l || ex 0 (fun q => Lo P q && decide (ak P q = 5) && Ho P (8 * k + pv P k) q && (clg P k (pp P q) true false l && !decide (l = q)))) = g := by
      funext l; simp [ex]
    rw [e0] at key
    exact key
theorem m_clashes (h : MF P m) (ho : pOK P) {k : Nat} (hk : k < pn P) : f_X10_clashes (nI k) m = some (mkb (clh P k)) := by
  have hn := ho.1
  have hM := h.1
  have hp := pv_lt ho k
  obtain ⟨h1, h2, h3, h4⟩ := hM.2 k (by omega)
  obtain ⟨o1, o2, o3, o4⟩ := ho.2 k
  have ha := ak_lt ho k
  have i1 : inb (nI k) 24 := inb_n (by omega) (by omega)
  have e1 : (nI (ak P k) = (1 : Int32)) = (ak P k = 1) := nI_lt10 (c := 1) ha (by omega)
  have e2 : (nI (ak P k) = (2 : Int32)) = (ak P k = 2) := nI_lt10 (c := 2) ha (by omega)
  have e3 : (nI (ak P k) = (3 : Int32)) = (ak P k = 3) := nI_lt10 (c := 3) ha (by omega)
  have e4 : (nI (ak P k) = (4 : Int32)) = (ak P k = 4) := nI_lt10 (c := 4) ha (by omega)
  have e5 : (nI (ak P k) = (5 : Int32)) = (ak P k = 5) := nI_lt10 (c := 5) ha (by omega)
  have e6 : (nI (ak P k) = (6 : Int32)) = (ak P k = 6) := nI_lt10 (c := 6) ha (by omega)
  have ei : f_X10_in (nI (ak P k)) (3 : Int32) (6 : Int32) = some (bi (decide (3 ≤ ak P k) && decide (ak P k ≤ 6))) := m_inN (lo := 3) (hi := 6) (by omega) (by omega) (by omega)
  have ev : f_X10_variable (nI (pp P k)) = some (nI (pv P k)) := m_variable _ o3
  have q1 : f_X10_clashing (nI k) (nI (pp P k)) (0 : Int32) (0 : Int32) m = some (mkb (clg P k (pp P k) false false)) := m_clashing h ho (by omega) o3 false false
  have q2 : f_X10_clashing (nI k) (nI (pp P k)) (1 : Int32) (0 : Int32) m = some (mkb (clg P k (pp P k) true false)) := m_clashing h ho (by omega) o3 true false
  have q3 : f_X10_clashing (nI k) (nI (pp P k)) (1 : Int32) (1 : Int32) m = some (mkb (clg P k (pp P k) true true)) := m_clashing h ho (by omega) o3 true true
  have q4 : f_X10_clashing (nI k) (nI (6 * pv P k)) (1 : Int32) (0 : Int32) m = some (mkb (clg P k (6 * pv P k) true false)) := m_clashing h ho (by omega) (by omega) true false
  have q5 : f_X10_clashing (nI k) (nI (6 * px P k)) (1 : Int32) (1 : Int32) m = some (mkb (clg P k (6 * px P k) true true)) := m_clashing h ho (by omega) (by omega) true true
  unfold f_X10_clashes f_X10_clashes_B31_1
  rw [gu_t i1, lb_e, ix_n (by omega), h3, h2, m_kind hM ho (by omega), ob_e, q1, ob_e, lb_e]
  have z0 : (0 : Int32) ||| mkb (clg P k (pp P k) false false) = mkb (clg P k (pp P k) false false) := by rw [mkb_0, mkb_or]; simp
  have s1 : (if nI (ak P k) = (1 : Int32) then some ((0 : Int32) ||| mkb (clg P k (pp P k) false false)) else (if nI (ak P k) = (3 : Int32) then some ((0 : Int32) ||| mkb (clg P k (pp P k) false false)) else (if nI (ak P k) = (5 : Int32) then some ((0 : Int32) ||| mkb (clg P k (pp P k) false false)) else some (0 : Int32)))) = some (mkb (fun l => (decide (ak P k = 1) || decide (ak P k = 3) || decide (ak P k = 5)) && clg P k (pp P k) false false l)) := by
    simp only [e1, e3, e5, z0]
    by_cases c1 : ak P k = 1
    · simp [c1]
    · by_cases c3 : ak P k = 3
      · simp [c3]
      · by_cases c5 : ak P k = 5
        · simp [c5]
        · simp [c1, c3, c5, mkb_0]
  refine (congrArg (fun z => ob z _) s1).trans ?_
  generalize hf1 : (fun l => (decide (ak P k = 1) || decide (ak P k = 3) || decide (ak P k = 5)) && clg P k (pp P k) false false l) = f1
  rw [ob_e, q2, ob_e, lb_e, mkb_one (by omega), mkb_and]
  have s2 : (if nI (ak P k) = (5 : Int32) then some (mkb f1 ||| mkb (fun i => clg P k (pp P k) true false i && decide (i = k))) else some (mkb f1)) = some (mkb (fun l => f1 l || (decide (ak P k = 5) && (clg P k (pp P k) true false l && decide (l = k))))) := by
    simp only [e5]
    have := or_if (c := decide (ak P k = 5)) (f := f1) (g := fun i => clg P k (pp P k) true false i && decide (i = k))
    simpa using this
  refine (congrArg (fun z => ob z _) s2).trans ?_
  generalize hf2 : (fun l => f1 l || (decide (ak P k = 5) && (clg P k (pp P k) true false l && decide (l = k)))) = f2
  rw [ob_e]
  have s3 : (if nI (ak P k) = (2 : Int32) then ob (if nI (ak P k) = (2 : Int32) then some (1 : Int32) else some (0 : Int32)) (fun v13 => ob (f_X10_clashing (nI k) (nI (pp P k)) (1 : Int32) v13 m) (fun v14 => lb (mkb f2 ||| v14) (fun v15 => some v15))) else (if nI (ak P k) = (4 : Int32) then ob (if nI (ak P k) = (2 : Int32) then some (1 : Int32) else some (0 : Int32)) (fun v16 => ob (f_X10_clashing (nI k) (nI (pp P k)) (1 : Int32) v16 m) (fun v17 => lb (mkb f2 ||| v17) (fun v18 => some v18))) else some (mkb f2))) = some (mkb (fun l => f2 l || ((decide (ak P k = 2) || decide (ak P k = 4)) && clg P k (pp P k) true (decide (ak P k = 2)) l))) := by
    simp only [e2, e4]
    by_cases c2 : ak P k = 2
    · simp [c2, ob_e, q3, lb_e, mkb_or]
    · by_cases c4 : ak P k = 4
      · simp [c4, ob_e, q2, lb_e, mkb_or]
      · simp [c2, c4]
  refine (congrArg (fun z => ob z _) s3).trans ?_
  generalize hf3 : (fun l => f2 l || ((decide (ak P k = 2) || decide (ak P k = 4)) && clg P k (pp P k) true (decide (ak P k = 2)) l)) = f3
  rw [ob_e, ev, ob_e, six, q4, ob_e, lb_e]
  have s4 : (if nI (ak P k) = (6 : Int32) then some (mkb f3 ||| mkb (clg P k (6 * pv P k) true false)) else some (mkb f3)) = some (mkb (fun l => f3 l || (decide (ak P k = 6) && clg P k (6 * pv P k) true false l))) := by
    simp only [e6]
    have := or_if (c := decide (ak P k = 6)) (f := f3) (g := clg P k (6 * pv P k) true false)
    simpa using this
  refine (congrArg (fun z => ob z _) s4).trans ?_
  generalize hf4 : (fun l => f3 l || (decide (ak P k = 6) && clg P k (6 * pv P k) true false l)) = f4
  rw [ob_e, ei, ob_e, gu_t i1, six, q5, ob_e, lb_e]
  have s5 : (if bi (decide (3 ≤ ak P k) && decide (ak P k ≤ 6)) = 0 then some (mkb f4) else some (mkb f4 ||| mkb (clg P k (6 * px P k) true true))) = some (mkb (fun l => f4 l || ((decide (3 ≤ ak P k) && decide (ak P k ≤ 6)) && clg P k (6 * px P k) true true l))) := by
    simp only [bi_0]
    cases (decide (3 ≤ ak P k) && decide (ak P k ≤ 6))
    · simp
    · simp [mkb_or]
  refine (congrArg (fun z => ob z _) s5).trans ?_
  generalize hf5 : (fun l => f4 l || ((decide (3 ≤ ak P k) && decide (ak P k ≤ 6)) && clg P k (6 * px P k) true true l)) = f5
  rw [ob_e, m_goesBy hM ho (by omega), ob_e, mC_164 h ho hk, ob_e]
  subst hf5; subst hf4; subst hf3; subst hf2; subst hf1
  rfl
end CH
