def wk (P : Pg) (d : Nat → Nat) (f : Nat) (q : Option Nat) : List Nat := match f with
  | 0 => []
  | f + 1 => match q with
    | none => []
    | some k => k :: (if d k = 0 then [] else wk P d f (nrl P 25 d k (pn P)))
theorem wk_len (P : Pg) (d : Nat → Nat) : ∀ f q, (wk P d f q).length ≤ f
  | 0, _ => Nat.le_refl _
  | f + 1, none => Nat.zero_le _
  | f + 1, some k => by
    show (k :: (if d k = 0 then [] else wk P d f (nrl P 25 d k (pn P)))).length ≤ f + 1
    have := wk_len P d f (nrl P 25 d k (pn P))
    split
    · simp
    · simp; omega
def G1 (a : Nat) : Bf := fun k => decide (k = a)
def Q1 (P : Pg) (l : Nat) : Bf := fun k => decide (k < pn P) && (Rg P (px P l) k && !kil P k l)
def G2 (P : Pg) (l : Nat) : Bf := fun k => decide (k < pn P) && ex 8 (fun v => rd P k v && Br P l v)
def Q2 (P : Pg) : Bf := fun k => decide (k < pn P)
def way (P : Pg) (l a : Nat) : List Nat := l :: (wk P (dl P (G1 a) (Q1 P l)) 25 (nrl P 25 (dl P (G1 a) (Q1 P l)) l (pn P)) ++ wk P (dl P (G2 P l) (Q2 P)) 25 (nrl P 25 (dl P (G2 P l) (Q2 P)) a (pn P)))
def WM (L : List Nat) (m : sh_S) : Prop := m 0 17 = nI L.length ∧ ∀ i x, L[i]? = some x → m 14 i = nI x
def Wf (m m' : sh_S) : Prop := (∀ j, j ≠ 17 → m' 0 j = m 0 j) ∧ ∀ k, k ≠ 0 → k ≠ 13 → k ≠ 14 → m' k = m k
theorem Wf.rf {m : sh_S} : Wf m m := ⟨fun _ _ => rfl, fun _ _ _ _ => rfl⟩
theorem Wf.tr {a b c : sh_S} (h1 : Wf a b) (h2 : Wf b c) : Wf a c := ⟨fun j hj => (h2.1 j hj).trans (h1.1 j hj), fun k x y z => (h2.2 k x y z).trans (h1.2 k x y z)⟩
theorem Wf.f13 {m : sh_S} (g : Nat → Int32) : Wf m (ur m 13 g) := ⟨fun j _ => by rw [ur_n _ _ (by omega)], fun k h0 h1 _ => by rw [ur_n _ _ h1]⟩
theorem MF.wf {P : Pg} {m m' : sh_S} (h : MF P m) (e : Wf m m') : MF P m' := by
  obtain ⟨h0, h1, h2, h3, h4, h5, h6, h7⟩ := h
  have ek : ∀ k, 1 ≤ k → k ≤ 9 → m' k = m k := fun k a b => e.2 k (by omega) (by omega) (by omega)
  refine ⟨⟨by rw [e.1 0 (by omega)]; exact h0.1, fun k hk => ?_⟩, by rw [e.1 5 (by omega)]; exact h1, by rw [e.1 6 (by omega)]; exact h2, ?_, ?_, ?_, ?_, ?_⟩
  · rw [ek 1 (by omega) (by omega), ek 2 (by omega) (by omega), ek 3 (by omega) (by omega), ek 4 (by omega) (by omega)]
    exact h0.2 k hk
  · intro v hv; rw [ek 5 (by omega) (by omega)]; exact h3 v hv
  · intro v hv; rw [ek 6 (by omega) (by omega)]; exact h4 v hv
  · intro v hv; rw [ek 7 (by omega) (by omega)]; exact h5 v hv
  · intro v hv; rw [ek 8 (by omega) (by omega)]; exact h6 v hv
  · intro v hv; rw [ek 9 (by omega) (by omega)]; exact h7 v hv
theorem Wf.mp {m m' : sh_S} (h : Wf m m') : Mp m m' := ⟨h.1 0 (by omega), h.1 35 (by omega), fun k x y => h.2 k (by omega) (by omega) (by omega), fun k x => h.2 k (by omega) (by omega) (by omega)⟩
theorem WM.f13 {L : List Nat} {m : sh_S} (h : WM L m) (g : Nat → Int32) : WM L (ur m 13 g) := ⟨by rw [ur_n _ _ (by omega)]; exact h.1, fun i x hx => by rw [ur_n _ _ (by omega)]; exact h.2 i x hx⟩
section WT
variable {P : Pg} {m : sh_S} {L : List Nat}
theorem m_goesTo (h : WM L m) (hl : L.length < 60) (a : Nat) : ∃ m', f_X10_goesTo (nI a) m = some m' ∧ WM (L ++ [a]) m' ∧ Wf m m' ∧ m' 13 = m 13 := by
  have hi : inb (nI L.length) 60 := inb_n hl (by omega)
  unfold f_X10_goesTo
  rw [h.1, gu_t hi, lb_e, lb_e, ix_n (by omega)]
  refine ⟨_, rfl, ⟨?_, ?_⟩, ⟨?_, ?_⟩, ?_⟩
  · rw [ur_s, upd_s, ur_n _ _ (by omega), h.1, nI_1, List.length_append]
    rfl
  · intro i e he
    rw [ur_n _ _ (by omega), ur_s]
    by_cases e1 : i < L.length
    · rw [List.getElem?_append_left e1] at he
      rw [upd_n _ _ (by omega)]
      exact h.2 i e he
    · rw [List.getElem?_append_right (by omega)] at he
      have hz : i - L.length < 1 := (List.getElem?_eq_some_iff.mp he).1
      have e2 : i = L.length := by omega
      subst e2
      rw [Nat.sub_self] at he
      cases he
      rw [upd_s]
  · intro j hj
    rw [ur_s, upd_n _ _ hj, ur_n _ _ (by omega)]
  · intro k h1 h2 h3
    rw [ur_n _ _ h1, ur_n _ _ h3]
  · rw [ur_n _ _ (by omega), ur_n _ _ (by omega)]
theorem m_walks (h : MF P m) (ho : pOK P) (hw : WM L m) (hl : L.length + 25 ≤ 60) {d D : Nat → Nat} (hD : ∀ k, k < pn P → m 13 k = nI (D k)) (hd : ∀ k, k < pn P → D k = if d k < 25 then d k else 99) {a : Nat} (ha : a < pn P) :
    ∃ m', f_X10_walks (nI a) m = some m' ∧ WM (L ++ wk P d 25 (nrl P 25 d a (pn P))) m' ∧ Wf m m' := by
  have hn := ho.1
  have hb : ∀ k, k < pn P → m 13 k = nI (D k) ∧ D k < 1000 := fun k hk => ⟨hD k hk, by rw [hd k hk]; split <;> omega⟩
  have en : ∀ k, nrl P 99 D k (pn P) = nrl P 25 d k (pn P) := fun k => nrl_ext (fun x hx => by
    have := hd x hx
    by_cases c : d x < 25
    · rw [if_pos c] at this
      exact ⟨by omega, fun _ => this⟩
    · rw [if_neg c] at this
      exact ⟨by omega, fun q => by omega⟩)
  unfold f_X10_walks
  rw [m_nearest h.1 ho hb ha, ob_e, en a]
  have hh := lp_fx (body := fun q : Int32 × Int32 × sh_S => f_X10_walks_L8 q.1 q.2.1 q.2.2) (fun j (x : Option Nat × sh_S) => (oe x.1, nI j, x.2)) 25
    (fun j x => Wf m x.2 ∧ x.2 13 = m 13 ∧ (∀ k, x.1 = some k → k < pn P) ∧ ∃ L', WM L' x.2 ∧ L'.length = L.length + j ∧ L' ++ wk P d (25 - j) x.1 = L ++ wk P d 25 (nrl P 25 d a (pn P)))
    (fun e => WM (L ++ wk P d 25 (nrl P 25 d a (pn P))) e ∧ Wf m e)
    (fun j x hj hi => by
      obtain ⟨q, s⟩ := x
      obtain ⟨i1, i2, i3, L', i4, i5, i6⟩ := hi
      simp only at i1 i2 i3 i4 i6
      cases q with
      | none =>
        refine Or.inr ⟨s, ?_, ?_, i1⟩
        · show f_X10_walks_L8 (-1) (nI j) s = _
          unfold f_X10_walks_L8
          rw [if_neg (show ¬ (25 : Int32) ≤ nI j from nI_ge (b := 25) hj (by omega)), if_pos rfl]
        · rw [← i6, show 25 - j = (24 - j) + 1 by omega]
          show WM (L' ++ []) s
          rw [List.append_nil]
          exact i4
      | some k =>
        have hk := i3 k rfl
        obtain ⟨s', e1, e2, e3, e4⟩ := m_goesTo i4 (by omega) k
        have hS := h.wf (i1.tr e3)
        have h13 : ∀ y, y < pn P → s' 13 y = nI (D y) ∧ D y < 1000 := fun y hy => ⟨by rw [e4, i2]; exact hD y hy, (hb y hy).2⟩
        have ik : inb (nI k) 24 := inb_n (by omega) (by omega)
        have z0 : (nI (D k) = (0 : Int32)) = (d k = 0) := by
          have b := (hb k hk).2
          have e : (nI (D k) = (0 : Int32)) = (D k = 0) := nI_eqb (b := 0) (by omega) (by omega)
          rw [e]
          have := hd k hk
          apply propext
          by_cases c : d k < 25
          · rw [if_pos c] at this; omega
          · rw [if_neg c] at this; omega
        refine Or.inl ⟨((if d k = 0 then none else nrl P 25 d k (pn P)), s'), ?_, i1.tr e3, e4.trans i2, ?_, L' ++ [k], e2, ?_, ?_⟩
        · show f_X10_walks_L8 (nI k) (nI j) s = _
          unfold f_X10_walks_L8
          rw [if_neg (show ¬ (25 : Int32) ≤ nI j from nI_ge (b := 25) hj (by omega)), if_neg (neg1 (by omega)), e1, ob_e, gu_t ik, ix_n (by omega), (h13 k hk).1, m_nearest hS.1 ho h13 hk, ob_e, en k]
          simp only [z0]
          by_cases c : d k = 0
          · simp [c, oe, ob, lb, nI_1]
          · simp [c, ob, lb, nI_1]
        · intro y hy
          simp only at hy
          split at hy
          · cases hy
          · exact (nrl_some hy).1
        · rw [List.length_append, i5]
          simp; omega
        · rw [← i6, show 25 - j = (25 - (j + 1)) + 1 by omega]
          show (L' ++ [k]) ++ wk P d (25 - (j + 1)) (if d k = 0 then none else nrl P 25 d k (pn P)) = L' ++ (k :: (if d k = 0 then [] else wk P d (25 - (j + 1)) (nrl P 25 d k (pn P))))
          rw [List.append_assoc]
          congr 1
          show k :: wk P d (25 - (j + 1)) (if d k = 0 then none else nrl P 25 d k (pn P)) = _
          congr 1
          split
          · cases 25 - (j + 1) <;> rfl
          · rfl)
    (fun x hi => by
      obtain ⟨q, s⟩ := x
      obtain ⟨i1, i2, i3, L', i4, i5, i6⟩ := hi
      refine ⟨s, ?_, ?_, i1⟩
      · show f_X10_walks_L8 (oe q) (nI 25) s = _
        unfold f_X10_walks_L8
        rw [if_pos (by decide)]
      · rw [← i6]
        show WM (L' ++ []) s
        rw [List.append_nil]
        exact i4)
    FU 0 (nrl P 25 d a (pn P), m) (Nat.zero_le _) ⟨Wf.rf, rfl, fun k hk => (nrl_some hk).1, L, hw, rfl, rfl⟩ (FU_gt (by omega))
  obtain ⟨e, h1, h2⟩ := hh
  have h1' : lp (fun q : Int32 × Int32 × sh_S => f_X10_walks_L8 q.1 q.2.1 q.2.2) FU (oe (nrl P 25 d a (pn P)), (0 : Int32), m) = some e := h1
  rw [h1', ob_e]
  exact ⟨e, rfl, h2⟩
theorem ones : ∀ n, n < 25 → (1 : Int32) <<< (nI n &&& 31) - 1 = mkb (fun i => decide (i < n)) := by decide +kernel
theorem mW_18 (h : MF P m) (ho : pOK P) {l : Nat} (hl : l < 24) : lp (fun q : Int32 × Int32 => f_X10_findsWay_L18 (nI l) m (mkb (Rg P (px P l))) q.1 q.2) FU ((0 : Int32), (0 : Int32)) = some (mkb (Q1 P l)) := by
  have hn := ho.1
  have key := lp_fn (body := fun q : Int32 × Int32 => f_X10_findsWay_L18 (nI l) m (mkb (Rg P (px P l))) q.1 q.2) (fun j (g : Bf) => (mkb g, nI j)) (pn P) (fun j => fun x => decide (x < j) && Q1 P l x) (mkb (Q1 P l))
    (fun j hj => by
      show f_X10_findsWay_L18 (nI l) m (mkb (Rg P (px P l))) (mkb (fun x => decide (x < j) && Q1 P l x)) (nI j) = _
      unfold f_X10_findsWay_L18
      rw [h.1.1, if_neg (nI_ge hj (by omega)), m_isIn (by omega), ob_e, m_kills h.1 ho (by omega) hl, ob_e, mkb_one (by omega)]
      simp only [bi_0, lb_e, nI_1]
      have ev : Q1 P l j = (Rg P (px P l) j && !kil P j l) := by simp [Q1, hj]
      have fin : ∀ z : Bf, (∀ x, x < 25 → ((decide (x < j) && Q1 P l x) || z x) = (decide (x < j + 1) && Q1 P l x)) → (some (Sum.inl (mkb (fun x => decide (x < j) && Q1 P l x) ||| mkb z, nI (j + 1))) : Option ((Int32 × Int32) ⊕ Int32)) = some (Sum.inl (mkb (fun x => decide (x < j + 1) && Q1 P l x), nI (j + 1))) := fun z hz => by rw [mkb_or, mkb_ext hz]
      have zero : Q1 P l j = false → (some (Sum.inl (mkb (fun x => decide (x < j) && Q1 P l x) ||| 0, nI (j + 1))) : Option ((Int32 × Int32) ⊕ Int32)) = some (Sum.inl (mkb (fun x => decide (x < j + 1) && Q1 P l x), nI (j + 1))) := by
        intro hz
        rw [mkb_0]
        refine fin _ (fun x _ => ?_)
        by_cases e : x = j
        · subst e; simp [hz]
        · by_cases e2 : x < j
          · simp [e2, show x < j + 1 by omega]
          · simp [e2, show ¬ x < j + 1 by omega]
      have one : Q1 P l j = true → (some (Sum.inl (mkb (fun x => decide (x < j) && Q1 P l x) ||| mkb (fun i => decide (i = j)), nI (j + 1))) : Option ((Int32 × Int32) ⊕ Int32)) = some (Sum.inl (mkb (fun x => decide (x < j + 1) && Q1 P l x), nI (j + 1))) := by
        intro hz
        refine fin _ (fun x _ => ?_)
        by_cases e : x = j
        · subst e; simp [hz]
        · by_cases e2 : x < j
          · simp [e, e2, show x < j + 1 by omega]
          · simp [e, e2, show ¬ x < j + 1 by omega]
      cases c1 : Rg P (px P l) j <;> cases c2 : kil P j l
      · simp only [if_true, ob_e]; exact zero (by rw [ev, c1]; rfl)
      · simp only [if_true, ob_e]; exact zero (by rw [ev, c1]; rfl)
      · simp only [if_true, Bool.true_eq_false, if_false, ob_e]; exact one (by rw [ev, c1, c2]; rfl)
      · simp only [Bool.true_eq_false, if_false, ob_e]; exact zero (by rw [ev, c1, c2]; rfl))
    (by
      show f_X10_findsWay_L18 (nI l) m (mkb (Rg P (px P l))) (mkb (fun x => decide (x < pn P) && Q1 P l x)) (nI (pn P)) = _
      unfold f_X10_findsWay_L18
      rw [h.1.1, if_pos (nI_le (Nat.le_refl _) (by omega))]
      refine congrArg (fun z => some (Sum.inr z)) (mkb_ext (fun x _ => ?_))
      unfold Q1
      cases decide (x < pn P) <;> simp)
    (FU_gt (show pn P < 6000 by omega))
  have e0 : mkb (fun x => decide (x < 0) && Q1 P l x) = 0 := by rw [mkb_0]; exact mkb_ext (fun x _ => by simp)
  rw [← key]
  show lp _ FU (_, nI 0) = lp _ FU (mkb (fun x => decide (x < 0) && Q1 P l x), nI 0)
  rw [e0]
theorem mW_102 (h : MF P m) (ho : pOK P) (l : Nat) : lp (fun q : Int32 × Int32 => f_X10_findsWay_L102 m (mkb (Br P l)) q.1 q.2) FU ((0 : Int32), (0 : Int32)) = some (mkb (G2 P l)) := by
  have hn := ho.1
  have key := lp_fn (body := fun q : Int32 × Int32 => f_X10_findsWay_L102 m (mkb (Br P l)) q.1 q.2) (fun j (g : Bf) => (mkb g, nI j)) (pn P) (fun j => fun x => decide (x < j) && G2 P l x) (mkb (G2 P l))
    (fun j hj => by
      show f_X10_findsWay_L102 m (mkb (Br P l)) (mkb (fun x => decide (x < j) && G2 P l x)) (nI j) = _
      unfold f_X10_findsWay_L102
      rw [h.1.1, if_neg (nI_ge hj (by omega)), m_readsOf h.1 ho (by omega), ob_e, mkb_one (by omega)]
      have hr : ∀ x, rd P j x = true → x < 8 := fun x hx => by
        simp only [rd, Bool.and_eq_true, decide_eq_true_eq] at hx
        rw [hx.1]
        exact pv_lt ho j
      simp only [mkb_meet (f := rd P j) (g := Br P l) (show (8 : Nat) ≤ 25 by omega) hr, lb_e, nI_1]
      have ev : G2 P l j = ex 8 (fun v => rd P j v && Br P l v) := by simp [G2, hj]
      have fin : ∀ z : Bf, (∀ x, x < 25 → ((decide (x < j) && G2 P l x) || z x) = (decide (x < j + 1) && G2 P l x)) → (some (Sum.inl (mkb (fun x => decide (x < j) && G2 P l x) ||| mkb z, nI (j + 1))) : Option ((Int32 × Int32) ⊕ Int32)) = some (Sum.inl (mkb (fun x => decide (x < j + 1) && G2 P l x), nI (j + 1))) := fun z hz => by rw [mkb_or, mkb_ext hz]
      cases c1 : ex 8 (fun v => rd P j v && Br P l v)
      · simp only [if_true, ob_e]
        rw [mkb_0]
        refine fin _ (fun x _ => ?_)
        by_cases e : x = j
        · subst e; simp [ev, c1]
        · by_cases e2 : x < j
          · simp [e2, show x < j + 1 by omega]
          · simp [e2, show ¬ x < j + 1 by omega]
      · simp only [Bool.true_eq_false, if_false, ob_e]
        refine fin _ (fun x _ => ?_)
        by_cases e : x = j
        · subst e; simp [ev, c1]
        · by_cases e2 : x < j
          · simp [e, e2, show x < j + 1 by omega]
          · simp [e, e2, show ¬ x < j + 1 by omega])
    (by
      show f_X10_findsWay_L102 m (mkb (Br P l)) (mkb (fun x => decide (x < pn P) && G2 P l x)) (nI (pn P)) = _
      unfold f_X10_findsWay_L102
      rw [h.1.1, if_pos (nI_le (Nat.le_refl _) (by omega))]
      refine congrArg (fun z => some (Sum.inr z)) (mkb_ext (fun x _ => ?_))
      unfold G2
      cases decide (x < pn P) <;> simp)
    (FU_gt (show pn P < 6000 by omega))
  have e0 : mkb (fun x => decide (x < 0) && G2 P l x) = 0 := by rw [mkb_0]; exact mkb_ext (fun x _ => by simp)
  rw [← key]
  show lp _ FU (_, nI 0) = lp _ FU (mkb (fun x => decide (x < 0) && G2 P l x), nI 0)
  rw [e0]
theorem m_findsWay (h : MF P m) (ho : pOK P) {l a : Nat} (hl : l < pn P) (ha : a < pn P) : ∃ m', f_X10_findsWay (nI l) (nI a) m = some m' ∧ WM (way P l a) m' ∧ Wf m m' := by
  have hn := ho.1
  have o2 := (ho.2 l).2.1
  unfold f_X10_findsWay
  rw [gu_t (inb_n (show l < 24 by omega) (by omega)), ix_n (by omega), (h.1.2 l (by omega)).2.1, gu_t (inb_n o2 (by omega)), lb_e, ix_n (by omega), h.2.2.2.2.1 _ o2, mW_18 h ho (by omega), ob_e, lb_e]
  generalize hm1 : ur m 0 (upd (m 0) 17 0) = m1
  have w1 : Wf m m1 := by
    rw [← hm1]
    exact ⟨fun j hj => by rw [ur_s, upd_n _ _ hj], fun k h0 _ _ => by rw [ur_n _ _ h0]⟩
  have wm1 : WM [] m1 := ⟨by rw [← hm1, ur_s, upd_s]; rfl, fun i x hx => by cases hx⟩
  obtain ⟨m2, a1, a2, a3, -⟩ := m_goesTo wm1 (by simp) l
  have w2 := w1.tr a3
  rw [a1, ob_e, mkb_one (by omega)]
  obtain ⟨D1, b1, b2⟩ := m_measures (h.wf w2).1 ho (G1 a) (Q1 P l)
  have b1' : f_X10_measures (mkb (fun i => decide (i = a))) (mkb (Q1 P l)) m2 = some (ur m2 13 (rowF m2 D1)) := b1
  rw [b1', ob_e]
  have w3 := w2.tr (Wf.f13 (rowF m2 D1))
  obtain ⟨m4, c1, c2, c3⟩ := m_walks (h.wf w3) ho (a2.f13 _) (by simp) (D := D1) (d := dl P (G1 a) (Q1 P l)) (fun k hk => by rw [ur_s, rowF_lt (by omega)]) b2 hl
  rw [c1, ob_e]
  have w4 := w3.tr c3
  have h4 := h.wf w4
  rw [m_bearing h4.1 ho h4.2.1 (by omega), ob_e, mW_102 h4 ho l, ob_e, h4.1.1, ones _ (by omega)]
  obtain ⟨D2, d1, d2⟩ := m_measures h4.1 ho (G2 P l) (Q2 P)
  have d1' : f_X10_measures (mkb (G2 P l)) (mkb (fun i => decide (i < pn P))) m4 = some (ur m4 13 (rowF m4 D2)) := d1
  rw [d1', ob_e]
  have w5 := w4.tr (Wf.f13 (rowF m4 D2))
  obtain ⟨m6, e1, e2, e3⟩ := m_walks (h.wf w5) ho (c2.f13 _) (by
    have := wk_len P (dl P (G1 a) (Q1 P l)) 25 (nrl P 25 (dl P (G1 a) (Q1 P l)) l (pn P))
    rw [List.length_append]
    simp
    omega) (D := D2) (d := dl P (G2 P l) (Q2 P)) (fun k hk => by rw [ur_s, rowF_lt (by omega)]) d2 ha
  rw [e1, ob_e]
  refine ⟨m6, rfl, ?_, w5.tr e3⟩
  have : way P l a = [] ++ [l] ++ wk P (dl P (G1 a) (Q1 P l)) 25 (nrl P 25 (dl P (G1 a) (Q1 P l)) l (pn P)) ++ wk P (dl P (G2 P l) (Q2 P)) 25 (nrl P 25 (dl P (G2 P l) (Q2 P)) a (pn P)) := by
    unfold way
    simp
  rw [this]
  exact e2
end WT
