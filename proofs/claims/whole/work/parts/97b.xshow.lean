def WX (L : List Nat) (s : sh_S) : Prop := s 53 5 = nI L.length ∧ ∀ i x, L[i]? = some x → s 55 i = nI x
section YS
variable {P : Pg} {s t : sh_S} {L : List Nat}
def Tf (s t : sh_S) : Prop := (∀ j, j ≠ 5 → t 53 j = s 53 j) ∧ ∀ k, k ≠ 53 → k ≠ 54 → k ≠ 55 → t k = s k
theorem Tf.rf : Tf s s := ⟨fun _ _ => rfl, fun _ _ _ _ => rfl⟩
theorem Tf.tr {a b c : sh_S} (h1 : Tf a b) (h2 : Tf b c) : Tf a c := ⟨fun j hj => (h2.1 j hj).trans (h1.1 j hj), fun k x y z => (h2.2 k x y z).trans (h1.2 k x y z)⟩
theorem Tf.f54 (D : Nat → Nat) : Tf s (S54 P s D) := ⟨fun j _ => by rw [S54_n D (by omega)], fun k _ h _ => S54_n D h⟩
theorem Tf.nx (h : Tf s t) (hN : NX P s) : NX P t := hN.of (by rw [h.2 11 (by omega) (by omega) (by omega)]) (h.2 12 (by omega) (by omega) (by omega)) (h.2 13 (by omega) (by omega) (by omega))
theorem WX.f54 (h : WX L s) (D : Nat → Nat) : WX L (S54 P s D) := ⟨by rw [S54_n D (by omega)]; exact h.1, fun i x hx => by rw [S54_n D (by omega)]; exact h.2 i x hx⟩
theorem x_lengthen (h : WX L s) (hl : L.length < 60) (a : Nat) : ∃ t, f_X7_lengthen (nI a) s = some t ∧ WX (L ++ [a]) t ∧ Tf s t ∧ t 54 = s 54 := by
  unfold f_X7_lengthen
  rw [h.1, if_neg (show ¬ (60 : Int32) ≤ nI L.length from nI_ge (b := 60) hl (by omega)), gu_t (inb_n hl (by omega)), lb_e, lb_e, ix_n (by omega), ob_e]
  refine ⟨_, rfl, ⟨?_, ?_⟩, ⟨?_, ?_⟩, ?_⟩
  · rw [ur_s, upd_s, ur_n _ _ (by omega), h.1, nI_1, List.length_append]
    rfl
  · intro i e he
    rw [ur_n _ _ (by omega), ur_s]
    by_cases e1 : i < L.length
    · rw [List.getElem?_append_left e1] at he
      rw [upd_n _ _ (by omega)]
      exact h.2 i e he
    · rw [List.getElem?_append_right (by omega)] at he
      have hz : i - L.length < 1 := (List.getElem?_eq_some_iff.mp he).1
      have e2 : i = L.length := by omega
      subst e2
      rw [Nat.sub_self] at he
      cases he
      rw [upd_s]
  · intro j hj
    rw [ur_s, upd_n _ _ hj, ur_n _ _ (by omega)]
  · intro k h1 h2 h3
    rw [ur_n _ _ h1, ur_n _ _ h3]
  · rw [ur_n _ _ (by omega), ur_n _ _ (by omega)]
theorem x_follow (hN : NX P s) (ho : pOK P) (hw : WX L s) (hl : L.length + 24 ≤ 60) {d D : Nat → Nat} (hD : ∀ k, k < pn P → s 54 k = nI (D k)) (hd : ∀ k, k < pn P → D k = if d k < 25 then d k else 1000) {a : Nat} (ha : a < pn P) :
    ∃ t, f_X7_follow (nI a) s = some t ∧ WX (L ++ wk P d 24 (nrl P 25 d a (pn P))) t ∧ Tf s t := by
  have hn := ho.1
  have hb : ∀ k, k < pn P → s 54 k = nI (D k) ∧ D k ≤ 1000 := fun k hk => ⟨hD k hk, by rw [hd k hk]; split <;> omega⟩
  have en : ∀ k, nrl P 1000 D k (pn P) = nrl P 25 d k (pn P) := fun k => nrl_ext (fun x hx => by
    have := hd x hx
    by_cases c : d x < 25
    · rw [if_pos c] at this
      exact ⟨by omega, fun _ => this⟩
    · rw [if_neg c] at this
      exact ⟨by omega, fun q => by omega⟩)
  unfold f_X7_follow
  rw [x_nearest hN ho hb ha, ob_e, en a]
  have hh := lp_fx (body := fun q : Int32 × Int32 × sh_S => f_X7_follow_L8 q.1 q.2.1 q.2.2) (fun j (x : Option Nat × sh_S) => (oe x.1, nI j, x.2)) 24
    (fun j x => Tf s x.2 ∧ x.2 54 = s 54 ∧ (∀ k, x.1 = some k → k < pn P) ∧ ∃ L', WX L' x.2 ∧ L'.length = L.length + j ∧ L' ++ wk P d (24 - j) x.1 = L ++ wk P d 24 (nrl P 25 d a (pn P)))
    (fun e => WX (L ++ wk P d 24 (nrl P 25 d a (pn P))) e ∧ Tf s e)
    (fun j x hj hi => by
      obtain ⟨q, u⟩ := x
      obtain ⟨i1, i2, i3, L', i4, i5, i6⟩ := hi
      simp only at i1 i2 i3 i4 i6
      cases q with
      | none =>
        refine Or.inr ⟨u, ?_, ?_, i1⟩
        · show f_X7_follow_L8 (-1) (nI j) u = _
          unfold f_X7_follow_L8
          rw [if_pos rfl]
        · rw [← i6, show 24 - j = (23 - j) + 1 by omega]
          show WX (L' ++ []) u
          rw [List.append_nil]
          exact i4
      | some k =>
        have hk := i3 k rfl
        obtain ⟨u', e1, e2, e3, e4⟩ := x_lengthen i4 (by omega) k
        have h54 : ∀ y, y < pn P → u' 54 y = nI (D y) ∧ D y ≤ 1000 := fun y hy => ⟨by rw [e4, i2]; exact hD y hy, (hb y hy).2⟩
        have ik : inb (nI k) 24 := inb_n (by omega) (by omega)
        have z0 : (nI (D k) = (0 : Int32)) = (d k = 0) := by
          have b := (hb k hk).2
          have e : (nI (D k) = (0 : Int32)) = (D k = 0) := nI_eqb (b := 0) (by omega) (by omega)
          rw [e]
          have := hd k hk
          apply propext
          by_cases c : d k < 25
          · rw [if_pos c] at this; omega
          · rw [if_neg c] at this; omega
        refine Or.inl ⟨((if d k = 0 then none else nrl P 25 d k (pn P)), u'), ?_, i1.tr e3, e4.trans i2, ?_, L' ++ [k], e2, ?_, ?_⟩
        · show f_X7_follow_L8 (nI k) (nI j) u = _
          unfold f_X7_follow_L8
          rw [if_neg (neg1 (by omega)), if_neg (show ¬ (24 : Int32) ≤ nI j from nI_ge (b := 24) hj (by omega)), e1, ob_e, gu_t ik, ix_n (by omega), (h54 k hk).1, x_nearest ((i1.tr e3).nx hN) ho h54 hk, ob_e, en k]
          simp only [z0]
          by_cases c : d k = 0
          · simp [c, oe, ob, lb, nI_1]
          · simp [c, ob, lb, nI_1]
        · intro y hy
          simp only at hy
          split at hy
          · cases hy
          · exact (nrl_some hy).1
        · rw [List.length_append, i5]
          simp; omega
        · rw [← i6, show 24 - j = (24 - (j + 1)) + 1 by omega]
          show (L' ++ [k]) ++ wk P d (24 - (j + 1)) (if d k = 0 then none else nrl P 25 d k (pn P)) = L' ++ (k :: (if d k = 0 then [] else wk P d (24 - (j + 1)) (nrl P 25 d k (pn P))))
          rw [List.append_assoc]
          congr 1
          show k :: wk P d (24 - (j + 1)) (if d k = 0 then none else nrl P 25 d k (pn P)) = _
          congr 1
          split
          · cases 24 - (j + 1) <;> rfl
          · rfl)
    (fun x hi => by
      obtain ⟨q, u⟩ := x
      obtain ⟨i1, i2, i3, L', i4, i5, i6⟩ := hi
      refine ⟨u, ?_, ?_, i1⟩
      · show f_X7_follow_L8 (oe q) (nI 24) u = _
        unfold f_X7_follow_L8
        rw [if_pos (show (24 : Int32) ≤ nI 24 by decide)]
        split <;> rfl
      · rw [← i6]
        show WX (L' ++ []) u
        rw [List.append_nil]
        exact i4)
    FU 0 (nrl P 25 d a (pn P), s) (Nat.zero_le _) ⟨Tf.rf, rfl, fun k hk => (nrl_some hk).1, L, hw, rfl, rfl⟩ (FU_gt (by omega))
  obtain ⟨e, h1, h2⟩ := hh
  have h1' : lp (fun q : Int32 × Int32 × sh_S => f_X7_follow_L8 q.1 q.2.1 q.2.2) FU (oe (nrl P 25 d a (pn P)), (0 : Int32), s) = some e := h1
  rw [h1', ob_e]
  exact ⟨e, rfl, h2⟩
theorem x_usesOf (hX : LX P s) (hC : CX P s) (ho : pOK P) {l : Nat} (hl : l < 24) : f_X7_usesOf (nI l) s = some (mkb (G2 P l)) := by
  have hn := ho.1
  unfold f_X7_usesOf
  have hX' : LX P (rs em_CK s) := hX.of (fun k hk => CK_rs s (by omega))
  have hC' : CX P (rs em_CK s) := hC.of (fun k h1 h2 => CK_rs s (by omega))
  rw [x_bearers hX' hC'.1.1 hC'.2.1 hC'.2.2.1 ho hl, ob_e]
  have key := lp_fn (body := fun q : Int32 × Int32 => f_X7_usesOf_L21 s (mkb (Br P l)) q.1 q.2) (fun j (g : Bf) => (mkb g, nI j)) (pn P) (fun j => fun x => decide (x < j) && G2 P l x) (mkb (G2 P l))
    (fun j hj => by
      show f_X7_usesOf_L21 s (mkb (Br P l)) (mkb (fun x => decide (x < j) && G2 P l x)) (nI j) = _
      unfold f_X7_usesOf_L21
      rw [hX.1, if_neg (nI_ge hj (by omega)), gu_t (inb_n (show j < 24 by omega) (by omega)), ix_n (by omega), (hC.2.2.1 j hj).1]
      have hr : ∀ x, rd P j x = true → x < 8 := fun x hx => rd_lt8 ho hx
      simp only [mkb_meet (f := rd P j) (g := Br P l) (show (8 : Nat) ≤ 25 by omega) hr, lb_e, nI_1, mkb_one (show j < 25 by omega), mkb_or]
      have ev : G2 P l j = ex 8 (fun v => rd P j v && Br P l v) := by simp [G2, hj]
      cases c1 : ex 8 (fun v => rd P j v && Br P l v)
      · simp only [if_true, ob_e]
        congr 3
        refine mkb_ext (fun x _ => ?_)
        by_cases e : x = j
        · subst e; simp [ev, c1]
        · by_cases e2 : x < j
          · simp [e2, show x < j + 1 by omega]
          · simp [e2, show ¬ x < j + 1 by omega]
      · simp only [Bool.true_eq_false, if_false, ob_e]
        congr 3
        refine mkb_ext (fun x _ => ?_)
        by_cases e : x = j
        · subst e; simp [ev, c1]
        · by_cases e2 : x < j
          · simp [e, e2, show x < j + 1 by omega]
          · simp [e, e2, show ¬ x < j + 1 by omega])
    (by
      show f_X7_usesOf_L21 s (mkb (Br P l)) (mkb (fun x => decide (x < pn P) && G2 P l x)) (nI (pn P)) = _
      unfold f_X7_usesOf_L21
      rw [hX.1, if_pos (nI_le (Nat.le_refl _) (by omega))]
      refine congrArg (fun z => some (Sum.inr z)) (mkb_ext (fun x _ => ?_))
      unfold G2
      cases decide (x < pn P) <;> simp)
    (FU_gt (show pn P < 6000 by omega))
  have e0 : mkb (fun x => decide (x < 0) && G2 P l x) = 0 := by rw [mkb_0]; exact mkb_ext (fun x _ => by simp)
  have key' : lp (fun q : Int32 × Int32 => f_X7_usesOf_L21 s (mkb (Br P l)) q.1 q.2) FU (mkb (fun x => decide (x < 0) && G2 P l x), (0 : Int32)) = some (mkb (G2 P l)) := key
  rw [e0] at key'
  rw [key', ob_e]
/-- an error of the list: its point is reached, and what a clash names is a loan -/
theorem sg_mem {k c : Nat} {f : Bf} {e : Er3} : ∀ {n : Nat}, e ∈ sg k c f n → e.1 = k ∧ e.2.1 = c ∧ f e.2.2 = true ∧ e.2.2 < n
  | 0, h => by cases h
  | n + 1, h => by
    have h' : e ∈ sg k c f n ++ (if f n then [(k, c, n)] else []) := h
    rcases List.mem_append.mp h' with h1 | h1
    · obtain ⟨a, b, d, g⟩ := sg_mem h1
      exact ⟨a, b, d, by omega⟩
    · cases hf : f n with
      | false => rw [hf] at h1; cases h1
      | true =>
        rw [hf] at h1
        have : e = (k, c, n) := by simpa using h1
        subst this
        exact ⟨rfl, rfl, hf, Nat.lt_succ_self _⟩
theorem eA_mem {e : Er3} : ∀ {n : Nat}, e ∈ eA P n → e.1 < n ∧ Rc P e.1 = true ∧ EB P e.1 e.2.1 e.2.2 = true ∧ e.2.1 < 4
  | 0, h => by cases h
  | n + 1, h => by
    have h' : e ∈ eA P n ++ (if Rc P n then erAt P n else []) := h
    rcases List.mem_append.mp h' with h1 | h1
    · obtain ⟨a, b, d⟩ := eA_mem h1
      exact ⟨by omega, b, d⟩
    · cases hr : Rc P n with
      | false => rw [hr] at h1; cases h1
      | true =>
        rw [hr] at h1
        have h2 : e ∈ sg n 0 (EB P n 0) 24 ++ sg n 1 (EB P n 1) 24 ++ sg n 2 (EB P n 2) 24 ++ sg n 3 (EB P n 3) 24 := h1
        have fin : ∀ c, c < 4 → e ∈ sg n c (EB P n c) 24 → e.1 < n + 1 ∧ Rc P e.1 = true ∧ EB P e.1 e.2.1 e.2.2 = true ∧ e.2.1 < 4 := fun c hc h3 => by
          obtain ⟨a, b, d, -⟩ := sg_mem h3
          rw [a, b]
          exact ⟨by omega, hr, d, hc⟩
        rcases List.mem_append.mp h2 with h3 | h3
        · rcases List.mem_append.mp h3 with h4 | h4
          · rcases List.mem_append.mp h4 with h5 | h5
            · exact fin 0 (by omega) h5
            · exact fin 1 (by omega) h5
          · exact fin 2 (by omega) h4
        · exact fin 3 (by omega) h3
theorem way_eq (ho : pOK P) {l a : Nat} (hr : Rc P a = true) : way P l a = [] ++ [l] ++ wk P (dl P (G1 a) (Q1 P l)) 24 (nrl P 25 (dl P (G1 a) (Q1 P l)) l (pn P)) ++ wk P (dl P (G2 P l) (Rc P)) 24 (nrl P 25 (dl P (G2 P l) (Rc P)) a (pn P)) := by
  have hn := ho.1
  have ha := Rc_lt hr
  rw [wk_24 hn, wk_24 hn]
  have e1 : nrl P 25 (dl P (G2 P l) (Rc P)) a (pn P) = nrl P 25 (dl P (G2 P l) (Q2 P)) a (pn P) := nrl_ext2 (fun x _ hx => dl_rc (Rc_nx ha hr hx))
  rw [e1, wk_congr (d := dl P (G2 P l) (Rc P)) (d' := dl P (G2 P l) (Q2 P)) (fun k hk => dl_rc hk) 25 _ (fun k hk => Rc_nx ha hr (nrl_some hk).2.1)]
  unfold way
  simp
theorem way_len (l a : Nat) : (way P l a).length ≤ 51 := by
  unfold way
  have h1 := wk_len P (dl P (G1 a) (Q1 P l)) 25 (nrl P 25 (dl P (G1 a) (Q1 P l)) l (pn P))
  have h2 := wk_len P (dl P (G2 P l) (Q2 P)) 25 (nrl P 25 (dl P (G2 P l) (Q2 P)) a (pn P))
  simp only [List.length_cons, List.length_append]
  omega
def TX (P : Pg) (i : Nat) (s : sh_S) : Prop := ∃ e, (eA P (pn P))[i]? = some e ∧ e.2.1 = 0 ∧ WX (way P e.2.2 e.1) s
theorem x_show (hX : LX P s) (hC : CX P s) (ho : pOK P) {i : Nat} (hi : i < 1000) {e : Er3} (he : (eA P (pn P))[i]? = some e) (h0 : e.2.1 = 0) (hs : s 53 3 = nI i → TX P i s) : ∃ t, f_X7_show (nI i) s = some t ∧ WX (way P e.2.2 e.1) t ∧ t 53 3 = nI i ∧ ∀ k, k ≠ 53 → k ≠ 54 → k ≠ 55 → t k = s k := by
  have hn := ho.1
  unfold f_X7_show
  by_cases c : s 53 3 = nI i
  · rw [if_pos c]
    obtain ⟨e', h1, h2, h3⟩ := hs c
    rw [he] at h1; cases h1
    exact ⟨s, rfl, h3, c, fun _ _ _ _ => rfl⟩
  · rw [if_neg c]
    obtain ⟨m1, m2, m3, m4⟩ := eA_mem (List.mem_of_getElem? he)
    rw [h0] at m3
    have hl : Lo P e.2.2 = true := sSc_Lo (clh_sc (show clh P e.1 e.2.2 = true from m3))
    have hln := Lo_lt hl
    simp only [lb_e, ur_ur, ur_s]
    generalize hs2 : ur s 53 (upd (upd (s 53) 3 (nI i)) 5 0) = s2
    have F2 : ∀ k, k ≠ 53 → s2 k = s k := fun k hk => by rw [← hs2, ur_n _ _ hk]
    have e3 : s2 53 3 = nI i := by rw [← hs2, ur_s, upd_n _ _ (by omega), upd_s]
    have W2 : WX [] s2 := ⟨by rw [← hs2, ur_s, upd_s]; rfl, fun i x hx => by cases hx⟩
    have X2 : LX P s2 := hX.of (fun k hk => F2 k (by omega))
    have C2 : CX P s2 := hC.of (fun k h1 h2 => F2 k (by omega))
    have CXr : ∀ {u : sh_S}, CX P u → CX P (rs em_CK u) := fun {u} h => h.of (fun k h1 h2 => CK_rs u (by omega))
    have LXr : ∀ {u : sh_S}, LX P u → LX P (rs em_CK u) := fun {u} h => h.of (fun k hk => CK_rs u (by omega))
    have B2 := CXr C2
    have t0 : f_X1_tell (nI i) (0 : Int32) (rs em_CK s2) = some (nI e.1) := by
      have := x_tell ho B2.2.2.2.2.2.2.2.2.2.1 B2.2.2.2.2.2.2.2.2.2.2.1 hi (what := 0) (by omega)
      rw [show (0 : Int32) = nI 0 from rfl, this]
      simp [tl, he]
    have t2 : f_X1_tell (nI i) (2 : Int32) (rs em_CK s2) = some (nI e.2.2) := by
      have := x_tell ho B2.2.2.2.2.2.2.2.2.2.1 B2.2.2.2.2.2.2.2.2.2.2.1 hi (what := 2) (by omega)
      rw [show (2 : Int32) = nI 2 from rfl, this]
      simp [tl, he]
    rw [t0, ob_e, t2, ob_e, x_has (P := P) (s := rs em_LI s2) X2.1, ob_e, isPt_n hn (by omega), decide_eq_true m1, if_neg (by decide), x_has (P := P) (s := rs em_LI s2) X2.1, ob_e, isPt_n hn (by omega), decide_eq_true hln, if_neg (by decide)]
    obtain ⟨s7, a1, a2, a3, a4⟩ := x_lengthen W2 (by simp) e.2.2
    rw [a1, ob_e]
    have X7 : LX P s7 := X2.of (fun k hk => a3.2 k (by omega) (by omega) (by omega))
    have C7 : CX P s7 := C2.of (fun k h1 h2 => a3.2 k (by omega) (by omega) (by omega))
    obtain ⟨Q, q1, q2⟩ := x_passable (LXr X7) (CXr C7).2.2.2.2.1 (CXr C7).2.2.2.2.2.2.2.1 ho hl
    rw [q1, ob_e, mkb_one (by omega)]
    obtain ⟨D1, b1, b2⟩ := x_measure X7.1 C7.1 ho (G1 e.1) Q
    have b1' : f_X7_measure (mkb (fun i => decide (i = e.1))) (mkb Q) s7 = some (S54 P s7 D1) := b1
    rw [b1', ob_e]
    have T9 : Tf s7 (S54 P s7 D1) := Tf.f54 D1
    obtain ⟨s10, d1, d2, d3⟩ := x_follow (T9.nx C7.1) ho (a2.f54 D1) (by simp) (D := D1) (d := dl P (G1 e.1) (Q1 P e.2.2)) (fun k hk => S54_r D1 hk) (fun k hk => by rw [b2 k hk, dl_congr q2 k]) hln
    rw [d1, ob_e]
    have T10 := (a3.tr T9).tr d3
    have X10 : LX P s10 := X2.of (fun k hk => T10.2 k (by omega) (by omega) (by omega))
    have C10 : CX P s10 := C2.of (fun k h1 h2 => T10.2 k (by omega) (by omega) (by omega))
    rw [x_usesOf X10 C10 ho (by omega), ob_e, C10.2.1]
    obtain ⟨D2, f1, f2⟩ := x_measure X10.1 C10.1 ho (G2 P e.2.2) (Rc P)
    rw [f1, ob_e]
    have T12 : Tf s10 (S54 P s10 D2) := Tf.f54 D2
    obtain ⟨s13, g1, g2, g3⟩ := x_follow (T12.nx C10.1) ho (d2.f54 D2) (by
      have := wk_len P (dl P (G1 e.1) (Q1 P e.2.2)) 24 (nrl P 25 (dl P (G1 e.1) (Q1 P e.2.2)) e.2.2 (pn P))
      rw [List.length_append]
      simp
      omega) (D := D2) (d := dl P (G2 P e.2.2) (Rc P)) (fun k hk => S54_r D2 hk) f2 m1
    rw [g1, ob_e]
    have T13 := (T10.tr T12).tr g3
    refine ⟨s13, rfl, by rw [way_eq ho m2]; exact g2, by rw [T13.1 3 (by omega)]; exact e3, fun k h1 h2 h3 => by rw [T13.2 k h1 h2 h3]; exact F2 k h1⟩
end YS
