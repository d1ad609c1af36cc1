def FB (P : Pg) : Bf → Bf := fun f x => decide (x < 8) && ex (pn P) (fun k => ed P k && (f (pv P k) && decide (px P k = x)))
def bB (P : Pg) (l : Nat) : Bf := fun x => decide (x = px P l)
def Br (P : Pg) (l : Nat) : Bf := lfp (FB P) (bB P l) 8
theorem FB_mon {P : Pg} (ho : pOK P) : Mon (FB P) 8 := by
  intro f g h x hx e
  simp only [FB, Bool.and_eq_true, decide_eq_true_eq] at e ⊢
  refine ⟨hx, ex_mon (fun k hk e3 => ?_) e.2⟩
  simp only [Bool.and_eq_true] at e3 ⊢
  exact ⟨e3.1, h _ (pv_lt ho k) e3.2.1, e3.2.2⟩
theorem FB_lt (P : Pg) (f : Bf) (x : Nat) (h : FB P f x = true) : x < 8 := by
  simp only [FB, Bool.and_eq_true, decide_eq_true_eq] at h
  exact h.1
theorem bB_lt {P : Pg} (ho : pOK P) (l x : Nat) (h : bB P l x = true) : x < 8 := by
  simp only [bB, decide_eq_true_eq] at h
  rw [h]
  exact (ho.2 l).2.1
section BR
variable {P : Pg} {m : sh_S}
theorem mB_20 (h : PM P m) (ho : pOK P) (hr : m 0 5 = mkb (Rc P)) (f : Bf) : ∃ g, lp (fun q : Int32 × Int32 => f_X10_bearing_L20 m q.1 q.2) FU (mkb f, (0 : Int32)) = some (mkb g) ∧ GS (FB P) 8 f g := by
  have hn := ho.1
  have hh := lp_for (body := fun q : Int32 × Int32 => f_X10_bearing_L20 m q.1 q.2) (fun k (g : Bf) => (mkb g, nI k)) (pn P)
    (fun k g => (∀ x, f x = true → g x = true) ∧ (∀ j, j < k → ed P j = true → f (pv P j) = true → g (px P j) = true) ∧ ∀ C : Bf, (∀ x, x < 8 → FB P C x = true → C x = true) → (∀ x, f x = true → C x = true) → ∀ x, g x = true → C x = true)
    (fun e => ∃ g, e = mkb g ∧ GS (FB P) 8 f g)
    (fun k g hk ⟨i1, i2, i3⟩ => by
      obtain ⟨h1, h2, h3, h4⟩ := h.2 k (by omega)
      obtain ⟨o1, o2, o3, o4⟩ := ho.2 k
      have hpv := pv_lt ho k
      have hik : inb (nI k) 24 := inb_n (by omega) (by omega)
      have e6 : (nI (pk P k) = (6 : Int32)) = (pk P k = 6) := nI_lt10 (c := 6) o1 (by omega)
      have ev : f_X10_variable (nI (pp P k)) = some (nI (pv P k)) := m_variable _ o3
      have et : f_X10_through (nI (pp P k)) = some (bi (thr P k)) := m_through _ o3
      refine ⟨fun x => g x || (ed P k && (g (pv P k) && decide (x = px P k))), ?_, fun x hx => by simp [i1 x hx], fun j hj hE hF => ?_, fun C hC hg x hx => ?_⟩
      · show f_X10_bearing_L20 m (mkb g) (nI k) = _
        unfold f_X10_bearing_L20
        rw [h.1, if_neg (nI_ge hk (by omega)), gu_t hik, ix_n (by omega), h1, h2, h3, m_lends h ho (by omega), et, ev, hr, m_isIn (by omega), mkb_one (show px P k < 25 by omega)]
        have c : (if nI (pk P k) = (6 : Int32) then some (1 : Int32) else ob (some (bi (lnd P k))) (fun v11 => (if v11 = 0 then some (0 : Int32) else gu (inb (nI k) 24) (ob (some (bi (thr P k))) (fun v13 => (if v13 = 0 then some (0 : Int32) else some (1 : Int32))))))) = some (bi (mvs P k)) := by
          have m1 : mvs P k = (decide (pk P k = 6) || (lnd P k && thr P k)) := rfl
          rw [m1]
          simp only [e6, gu_t hik, ob_e, bi_0]
          by_cases c6 : pk P k = 6
          · simp [c6, bi]
          · cases c1 : lnd P k <;> cases c3 : thr P k <;> simp [c6, bi]
        refine (congrArg (fun z => ob z _) c).trans ?_
        rw [ob_e]
        simp only [ob_e, gu_t hik, m_isIn (show pv P k < 25 by omega), bi_0, lb_e, nI_1]
        have eE : ed P k = (mvs P k && Rc P k) := rfl
        rw [eE]
        cases mvs P k <;> cases Rc P k <;> cases g (pv P k) <;> simp [ob, lb, mkb_or]
      · by_cases e : j = k
        · subst e; simp [hE, i1 _ hF]
        · simp [i2 j (by omega) hE hF]
      · simp only [Bool.or_eq_true, Bool.and_eq_true, decide_eq_true_eq] at hx
        rcases hx with hx | ⟨hE, hG, rfl⟩
        · exact i3 C hC hg x hx
        · refine hC _ o2 ?_
          simp only [FB, Bool.and_eq_true, decide_eq_true_eq]
          exact ⟨o2, ex_iff.mpr ⟨k, hk, by simp [hE, i3 C hC hg _ hG]⟩⟩)
    (fun g ⟨i1, i2, i3⟩ => ⟨mkb g, by
      show f_X10_bearing_L20 m (mkb g) (nI (pn P)) = _
      unfold f_X10_bearing_L20
      rw [h.1, if_pos (nI_le (Nat.le_refl _) (by omega))], g, rfl, i1, fun x hx hF => by
        simp only [FB, Bool.and_eq_true, decide_eq_true_eq] at hF
        obtain ⟨k, hk, hz⟩ := ex_iff.mp hF.2
        simp only [Bool.and_eq_true, decide_eq_true_eq] at hz
        rw [← hz.2.2]
        exact i2 k hk hz.1 hz.2.1, i3⟩)
    FU 0 f (Nat.zero_le _) ⟨fun _ hx => hx, fun j hj => by omega, fun C _ hg x hx => hg x hx⟩ (FU_gt (by omega))
  obtain ⟨e, h1, g, rfl, h2⟩ := hh
  exact ⟨g, h1, h2⟩
theorem m_bearing (h : PM P m) (ho : pOK P) (hr : m 0 5 = mkb (Rc P)) {l : Nat} (hl : l < 24) : f_X10_bearing (nI l) m = some (mkb (Br P l)) := by
  have o2 := (ho.2 l).2.1
  unfold f_X10_bearing
  rw [gu_t (inb_n hl (by omega)), ix_n (by omega), (h.2 l hl).2.1, lb_e, mkb_one (by omega)]
  have hh := lp_for (body := fun q : Int32 × Int32 => f_X10_bearing_L11 m q.1 q.2) (fun r (g : Bf) => (mkb g, nI r)) 8
    (fun r g => RI (FB P) (bB P l) 8 r g) (fun e => e = mkb (Br P l))
    (fun k g hk hi => by
      obtain ⟨g', e1, e2⟩ := mB_20 h ho hr g
      refine ⟨g', ?_, hi.step (FB_mon ho) (FB_lt P) (bB_lt ho l) e2⟩
      show f_X10_bearing_L11 m (mkb g) (nI k) = _
      unfold f_X10_bearing_L11
      rw [if_neg (show ¬ (8 : Int32) ≤ nI k from nI_ge (b := 8) hk (by omega)), e1, ob_e, lb_e, nI_1])
    (fun g hi => ⟨mkb g, by
      show f_X10_bearing_L11 m (mkb g) (nI 8) = _
      unfold f_X10_bearing_L11
      rw [if_pos (by decide)], by
      rw [mkb_ext (fun x _ => hi.fin (FB_mon ho) (FB_lt P) (bB_lt ho l) (Nat.le_refl _) x)]; rfl⟩)
    FU 0 (bB P l) (Nat.zero_le _) (RI.zero (bB_lt ho l)) (FU_gt (by omega))
  obtain ⟨e, h1, rfl⟩ := hh
  have h1' : lp (fun q : Int32 × Int32 => f_X10_bearing_L11 m q.1 q.2) FU (mkb (fun i => decide (i = px P l)), (0 : Int32)) = some (mkb (Br P l)) := h1
  rw [h1', ob_e]
def oe (q : Option Nat) : Int32 := match q with
  | none => -1
  | some c => nI c
theorem m_nearest (h : PM P m) (ho : pOK P) {D : Nat → Nat} (hD : ∀ k, k < pn P → m 13 k = nI (D k) ∧ D k < 1000) {k : Nat} (hk : k < pn P) : f_X10_nearest (nI k) m = some (oe (nrl P 99 D k (pn P))) := by
  have hn := ho.1
  unfold f_X10_nearest
  have key := lp_fn (body := fun q : Int32 × Int32 => f_X10_nearest_L4 (nI k) m q.1 q.2) (fun j (v : Int32) => (v, nI j)) (pn P) (fun j => oe (nrl P 99 D k j)) (oe (nrl P 99 D k (pn P)))
    (fun j hj => by
      show f_X10_nearest_L4 (nI k) m (oe (nrl P 99 D k j)) (nI j) = some (.inl (oe (nrl P 99 D k (j + 1)), nI (j + 1)))
      obtain ⟨d1, d2⟩ := hD j hj
      have ij : inb (nI j) 24 := inb_n (by omega) (by omega)
      have e99 : ((99 : Int32) ≤ nI (D j)) = (99 ≤ D j) := propext (nI_leI (a := 99) (by omega) (by omega))
      unfold f_X10_nearest_L4
      rw [h.1, if_neg (nI_ge hj (by omega)), m_nextOf h ho (by omega), ob_e, m_isIn (by omega), ob_e, gu_t ij, ix_n (by omega), d1]
      have c1 : (if bi (nx P k j) = 0 then some (0 : Int32) else (if (99 : Int32) ≤ nI (D j) then some (0 : Int32) else some (1 : Int32))) = some (bi (decide (nx P k j = true ∧ D j < 99))) := by
        simp only [bi_0, e99]
        cases nx P k j
        · simp [bi]
        · by_cases q : 99 ≤ D j
          · simp [q, bi]
          · simp [q, bi, show D j < 99 by omega]
      rw [c1, ob_e]
      have en : nrl P 99 D k (j + 1) = (if nx P k j = true ∧ D j < 99 then (match nrl P 99 D k j with
        | none => some j
        | some c => if D j < D c then some j else some c) else nrl P 99 D k j) := rfl
      rw [en]
      simp only [bi_0, decide_eq_false_iff_not, lb_e, nI_1]
      by_cases q : nx P k j = true ∧ D j < 99
      · simp only [q, not_true, if_false, and_self, if_true]
        cases hm : nrl P 99 D k j with
        | none => simp [oe, ob]
        | some c =>
          obtain ⟨n1, n2, n3, -, -⟩ := nrl_some hm
          obtain ⟨f1, f2⟩ := hD c (by omega)
          have ec : (nI (D c) ≤ nI (D j)) = (D c ≤ D j) := propext (nI_leI (by omega) (by omega))
          simp only [oe, neg1 (show c < 2 ^ 31 by omega), if_false, gu_t ij, gu_t (inb_n (show c < 24 by omega) (by omega)), ix_n (show c < 2 ^ 31 by omega), f1, ec]
          by_cases z : D j < D c
          · rw [if_neg (by omega), ob_e, if_pos z]
          · rw [if_pos (by omega), ob_e, if_neg z]
      · simp only [q, not_false_iff, if_true, if_false, ob_e])
    (by
      show f_X10_nearest_L4 (nI k) m (oe (nrl P 99 D k (pn P))) (nI (pn P)) = _
      unfold f_X10_nearest_L4
      rw [h.1, if_pos (nI_le (Nat.le_refl _) (by omega))])
    (FU_gt (show pn P < 6000 by omega))
  have key' : lp (fun q : Int32 × Int32 => f_X10_nearest_L4 (nI k) m q.1 q.2) FU ((-1 : Int32), (0 : Int32)) = some (oe (nrl P 99 D k (pn P))) := key
  rw [key', ob_e]
def rowF (m : sh_S) (D : Nat → Nat) : Nat → Int32 := fun j => if j < 24 then nI (D j) else m 13 j
theorem rowF_lt {m : sh_S} {D : Nat → Nat} {j : Nat} (h : j < 24) : rowF m D j = nI (D j) := by simp [rowF, h]
theorem rowF_upd (m : sh_S) (D : Nat → Nat) {p : Nat} (hp : p < 24) (w : Nat) : upd (rowF m D) p (nI w) = rowF m (fun x => if x = p then w else D x) := by
  funext j
  unfold upd rowF
  by_cases e : j = p
  · subst e; simp [hp]
  · by_cases e2 : j < 24 <;> simp [e, e2]
theorem mD_47 (h : PM P m) (ho : pOK P) {G Q : Bf} {r : Nat} (D : Nat → Nat) (hj : DJ P 99 G Q D r (fun _ => False)) : ∃ D', lp (fun q : Int32 × sh_S => f_X10_measures_L47 (mkb Q) q.1 q.2) FU ((0 : Int32), ur m 13 (rowF m D)) = some (ur m 13 (rowF m D')) ∧ DJ P 99 G Q D' (r + 1) (fun _ => False) := by
  have hn := ho.1
  have hh := lp_for (body := fun q : Int32 × sh_S => f_X10_measures_L47 (mkb Q) q.1 q.2) (fun k (D : Nat → Nat) => (nI k, ur m 13 (rowF m D))) (pn P)
    (fun k E => DJ P 99 G Q E r (fun x => x < k)) (fun e => ∃ E, e = ur m 13 (rowF m E) ∧ DJ P 99 G Q E r (fun x => x < pn P))
    (fun k E hk hi => by
      have bound : ∀ x, x < pn P → E x ≤ 99 := fun x hx => by
        rcases hi.1 x hx with q | q <;> omega
      have hP : PM P (ur m 13 (rowF m E)) := h.row (by omega) _
      have hE : ∀ x, x < pn P → ur m 13 (rowF m E) 13 x = nI (E x) ∧ E x < 1000 := fun x hx => ⟨by rw [ur_s, rowF_lt (by omega)], by have := bound x hx; omega⟩
      have ik : inb (nI k) 24 := inb_n (by omega) (by omega)
      refine ⟨dst P 99 Q E k, ?_, ?_⟩
      · show f_X10_measures_L47 (mkb Q) (nI k) (ur m 13 (rowF m E)) = some (.inl (nI (k + 1), ur m 13 (rowF m (dst P 99 Q E k))))
        have same : ∀ w, dst P 99 Q E k = (fun x => if x = k then w else E x) → upd (rowF m E) k (nI w) = rowF m (dst P 99 Q E k) := fun w hw => by rw [hw, rowF_upd _ _ (by omega)]
        unfold f_X10_measures_L47
        rw [hP.1, if_neg (nI_ge hk (by omega)), m_nearest hP ho hE hk, ob_e, m_isIn (by omega), ob_e, gu_t ik, ix_n (by omega), (hE k hk).1]
        simp only [gu_t ik, nI_1, lb_e, ur_s, ur_ur]
        cases hm : nrl P 99 E k (pn P) with
        | none =>
          have e0 : dst P 99 Q E k = (fun x => if x = k then E k else E x) := by
            funext x; unfold dst; by_cases e : x = k
            · subst e; rw [if_pos rfl, if_pos rfl, hm]
            · rw [if_neg e, if_neg e]
          have z : (if bi (Q k) = 0 then some (0 : Int32) else (if oe none = (-1 : Int32) then some (0 : Int32) else ob (if 0 ≤ oe none then some (oe none) else some (0 : Int32)) (fun v18 => gu (inb v18 24) ((if nI (E k) ≤ (rowF m E (ix v18) + (1 : Int32)) then some (0 : Int32) else some (1 : Int32)))))) = some (0 : Int32) := by
            cases Q k <;> simp [oe, bi]
          rw [z, ob_e, if_pos rfl, ob_e, same _ e0]
        | some c =>
          obtain ⟨n1, n2, n3, -, -⟩ := nrl_some hm
          have ic : inb (nI c) 24 := inb_n (by omega) (by omega)
          have ec : (nI (E k) ≤ nI (E c + 1)) = (E k ≤ E c + 1) := propext (nI_leI (by have := bound k hk; omega) (by omega))
          have z : (if bi (Q k) = 0 then some (0 : Int32) else (if oe (some c) = (-1 : Int32) then some (0 : Int32) else ob (if 0 ≤ oe (some c) then some (oe (some c)) else some (0 : Int32)) (fun v18 => gu (inb v18 24) ((if nI (E k) ≤ (rowF m E (ix v18) + (1 : Int32)) then some (0 : Int32) else some (1 : Int32)))))) = some (bi (decide (Q k = true ∧ E c + 1 < E k))) := by
            simp only [oe, neg1 (show c < 2 ^ 31 by omega), if_false, nI_pos' (show c < 2 ^ 31 by omega), if_true, ob_e, gu_t ic, ix_n (show c < 2 ^ 31 by omega), rowF_lt (show c < 24 by omega), nI_1, ec, bi_0]
            cases Q k
            · simp [bi]
            · by_cases q : E k ≤ E c + 1
              · simp [q, bi]
              · simp [q, bi, show E c + 1 < E k by omega]
          rw [z, ob_e]
          simp only [oe, gu_t ic, ix_n (show c < 2 ^ 31 by omega), rowF_lt (show c < 24 by omega), nI_1, bi_0, decide_eq_false_iff_not]
          by_cases q : Q k = true ∧ E c + 1 < E k
          · have e0 : dst P 99 Q E k = (fun x => if x = k then E c + 1 else E x) := by
              funext x; unfold dst; by_cases e : x = k
              · subst e; rw [if_pos rfl, if_pos rfl, hm]; simp only; rw [if_pos q]
              · rw [if_neg e, if_neg e]
            rw [if_neg (fun z => z q), ob_e, same _ e0]
          · have e0 : dst P 99 Q E k = (fun x => if x = k then E k else E x) := by
              funext x; unfold dst; by_cases e : x = k
              · subst e; rw [if_pos rfl, if_pos rfl, hm]; simp only; rw [if_neg q]
              · rw [if_neg e, if_neg e]
            rw [if_pos q, ob_e, same _ e0]
      · have s := hi.step (by omega) hk
        exact ⟨s.1, s.2.1, fun x hx hd hf => s.2.2 x hx (by
          rcases hd with hd | ⟨hd, hd2⟩
          · exact Or.inl hd
          · exact Or.inr ⟨hd, by omega⟩) hf⟩)
    (fun E hi => ⟨ur m 13 (rowF m E), by
      show f_X10_measures_L47 (mkb Q) (nI (pn P)) (ur m 13 (rowF m E)) = _
      unfold f_X10_measures_L47
      rw [ur_n _ _ (by omega), h.1, if_pos (nI_le (Nat.le_refl _) (by omega))], E, rfl, hi⟩)
    FU 0 D (Nat.zero_le _) ⟨hj.1, hj.2.1, fun x hx hd hf => hj.2.2 x hx (by
      rcases hd with hd | ⟨-, hd⟩
      · exact Or.inl hd
      · omega) hf⟩ (FU_gt (by omega))
  obtain ⟨e, h1, E, rfl, h2⟩ := hh
  exact ⟨E, h1, h2.next (fun k hk => hk)⟩
theorem m_measures (h : PM P m) (ho : pOK P) (G Q : Bf) : ∃ D, f_X10_measures (mkb G) (mkb Q) m = some (ur m 13 (rowF m D)) ∧ ∀ k, k < pn P → D k = if dl P G Q k < 25 then dl P G Q k else 99 := by
  have hn := ho.1
  unfold f_X10_measures
  have key := lp_fn (body := fun q : Int32 × sh_S => f_X10_measures_L2 (mkb G) q.1 q.2) (fun k (s : sh_S) => (nI k, s)) 24 (fun k => ur m 13 (fun j => if j < k then nI (if G j then 0 else 99) else m 13 j)) (ur m 13 (rowF m (fun j => if G j then 0 else 99)))
    (fun k hk => by
      show f_X10_measures_L2 (mkb G) (nI k) (ur m 13 (fun j => if j < k then nI (if G j then 0 else 99) else m 13 j)) = _
      unfold f_X10_measures_L2
      rw [if_neg (show ¬ (24 : Int32) ≤ nI k from nI_ge (b := 24) hk (by omega)), m_isIn (by omega), ob_e]
      have z : (if bi (G k) = 0 then some (99 : Int32) else some (0 : Int32)) = some (nI (if G k then 0 else 99)) := by
        cases G k
        · rfl
        · rfl
      rw [z, ob_e, gu_t (inb_n hk (by omega)), lb_e, lb_e, nI_1, ix_n (by omega), ur_ur, ur_s]
      refine congrArg (fun z => some (Sum.inl (nI (k + 1), ur m 13 z))) ?_
      funext j
      unfold upd
      by_cases e : j = k
      · subst e; simp
      · by_cases e2 : j < k
        · simp [e, e2, show j < k + 1 by omega]
        · simp [e, e2, show ¬ j < k + 1 by omega])
    (by
      show f_X10_measures_L2 (mkb G) (nI 24) _ = _
      unfold f_X10_measures_L2
      rw [if_pos (by decide)]
      rfl)
    (FU_gt (show 24 < 6000 by omega))
  have e0 : ur m 13 (fun j => if j < 0 then nI (if G j then 0 else 99) else m 13 j) = m := by
    have : (fun j => if j < 0 then nI (if G j then 0 else 99) else m 13 j) = m 13 := by funext j; simp
    rw [this, ur_id]
  rw [e0] at key
  refine (show ∃ D, ob (lp (fun q : Int32 × sh_S => f_X10_measures_L2 (mkb G) q.1 q.2) FU ((0 : Int32), m)) _ = _ ∧ _ from ?_)
  have key' : lp (fun q : Int32 × sh_S => f_X10_measures_L2 (mkb G) q.1 q.2) FU ((0 : Int32), m) = some (ur m 13 (rowF m (fun j => if G j then 0 else 99))) := key
  rw [key', ob_e]
  have hh := lp_for (body := fun q : Int32 × sh_S => f_X10_measures_L36 (mkb Q) q.1 q.2) (fun k (D : Nat → Nat) => (nI k, ur m 13 (rowF m D))) (pn P)
    (fun r D => DJ P 99 G Q D r (fun _ => False)) (fun e => ∃ D, e = ur m 13 (rowF m D) ∧ DJ P 99 G Q D (pn P) (fun _ => False))
    (fun k D hk hi => by
      obtain ⟨D', e1, e2⟩ := mD_47 h ho D hi
      refine ⟨D', ?_, e2⟩
      show f_X10_measures_L36 (mkb Q) (nI k) (ur m 13 (rowF m D)) = _
      unfold f_X10_measures_L36
      rw [ur_n _ _ (by omega), h.1, if_neg (nI_ge hk (by omega)), e1, ob_e, lb_e, nI_1])
    (fun D hi => ⟨ur m 13 (rowF m D), by
      show f_X10_measures_L36 (mkb Q) (nI (pn P)) (ur m 13 (rowF m D)) = _
      unfold f_X10_measures_L36
      rw [ur_n _ _ (by omega), h.1, if_pos (nI_le (Nat.le_refl _) (by omega))], D, rfl, hi⟩)
    FU 0 (fun j => if G j then 0 else 99) (Nat.zero_le _) (DJ.start (by omega) _ (fun k _ => rfl)) (FU_gt (by omega))
  obtain ⟨e, h1, D, rfl, h2⟩ := hh
  have h1' : lp (fun q : Int32 × sh_S => f_X10_measures_L36 (mkb Q) q.1 q.2) FU ((0 : Int32), ur m 13 (rowF m (fun j => if G j then 0 else 99))) = some (ur m 13 (rowF m D)) := h1
  refine ⟨D, ?_, h2.fin hn (Nat.le_refl _)⟩
  rw [h1', ob_e]
end BR
