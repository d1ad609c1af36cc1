section YT
variable {P : Pg} {s : sh_S}
theorem nrl_ext2 {I : Nat} {D E : Nat → Nat} {k : Nat} : ∀ {j : Nat}, (∀ x, x < j → nx P k x = true → D x = E x) → nrl P I D k j = nrl P I E k j
  | 0, _ => rfl
  | j + 1, h => by
    have ih := nrl_ext2 (k := k) (I := I) (fun x (hx : x < j) => h x (by omega))
    unfold nrl
    rw [ih]
    by_cases c : nx P k j = true
    · rw [h j (by omega) c]
      by_cases c2 : E j < I
      · rw [if_pos ⟨c, c2⟩, if_pos ⟨c, c2⟩]
        cases hm : nrl P I E k j with
        | none => rfl
        | some d =>
          obtain ⟨d1, d2, -, -, -⟩ := nrl_some hm
          simp only
          rw [h d (by omega) d2]
      · rw [if_neg (fun z => c2 z.2), if_neg (fun z => c2 z.2)]
    · rw [if_neg (fun z => c z.1), if_neg (fun z => c z.1)]
theorem TD_congr {G Q Q' : Bf} (h : ∀ k, k < pn P → Q k = Q' k) : ∀ j k, TD P G Q j k = TD P G Q' j k
  | 0, k => rfl
  | j + 1, k => by
    show (TD P G Q j k || FD P Q (TD P G Q j) k) = (TD P G Q' j k || FD P Q' (TD P G Q' j) k)
    have e : TD P G Q j = TD P G Q' j := funext (TD_congr h j)
    rw [e]
    congr 1
    unfold FD
    by_cases hk : k < pn P
    · rw [h k hk]
    · simp [hk]
theorem dl_congr {G Q Q' : Bf} (h : ∀ k, k < pn P → Q k = Q' k) (k : Nat) : dl P G Q k = dl P G Q' k := by
  unfold dl
  congr 1
  funext j
  exact TD_congr h j k
theorem TD_rc {G : Bf} : ∀ j k, Rc P k = true → TD P G (Rc P) j k = TD P G (Q2 P) j k
  | 0, k, _ => rfl
  | j + 1, k, hr => by
    have hk := Rc_lt hr
    show (TD P G (Rc P) j k || FD P (Rc P) (TD P G (Rc P) j) k) = (TD P G (Q2 P) j k || FD P (Q2 P) (TD P G (Q2 P) j) k)
    rw [TD_rc j k hr]
    congr 1
    unfold FD
    simp only [hk, hr, Q2, decide_true, Bool.true_and]
    apply tt
    rw [ex_iff, ex_iff]
    constructor
    · rintro ⟨t, ht, e⟩
      rw [Bool.and_eq_true] at e
      exact ⟨t, ht, by rw [Bool.and_eq_true]; exact ⟨e.1, by rw [← e.2]; exact (TD_rc j t (Rc_nx hk hr e.1)).symm⟩⟩
    · rintro ⟨t, ht, e⟩
      rw [Bool.and_eq_true] at e
      exact ⟨t, ht, by rw [Bool.and_eq_true]; exact ⟨e.1, by rw [← e.2]; exact TD_rc j t (Rc_nx hk hr e.1)⟩⟩
theorem dl_rc {G : Bf} {k : Nat} (hr : Rc P k = true) : dl P G (Rc P) k = dl P G (Q2 P) k := by
  unfold dl
  congr 1
  funext j
  exact TD_rc j k hr
theorem wk_congr {d d' : Nat → Nat} (h : ∀ k, Rc P k = true → d k = d' k) : ∀ f q, (∀ k, q = some k → Rc P k = true) → wk P d f q = wk P d' f q
  | 0, _, _ => rfl
  | f + 1, none, _ => rfl
  | f + 1, some k, hq => by
    have hr := hq k rfl
    have hk := Rc_lt hr
    have en : nrl P 25 d k (pn P) = nrl P 25 d' k (pn P) := nrl_ext2 (fun x _ hx => h x (Rc_nx hk hr hx))
    show (k :: (if d k = 0 then [] else wk P d f (nrl P 25 d k (pn P)))) = (k :: (if d' k = 0 then [] else wk P d' f (nrl P 25 d' k (pn P))))
    rw [h k hr, en, wk_congr h f _ (fun x hx => Rc_nx hk hr (nrl_some hx).2.1)]
theorem dl_chain {G Q : Bf} (hn : pn P ≤ 24) (j : Nat) : ∀ k, k < pn P → dl P G Q k = j → j < 25 → j + 1 ≤ cnt (fun x => decide (dl P G Q x ≤ j)) (pn P) := by
  induction j with
  | zero =>
    intro k hk h _
    have : cnt (fun _ => false) (pn P) < cnt (fun x => decide (dl P G Q x ≤ 0)) (pn P) := cnt_lt (fun _ _ e => by cases e) ⟨k, hk, decide_eq_true (Nat.le_of_eq h), rfl⟩
    omega
  | succ j ih =>
    intro k hk h hj
    obtain ⟨-, -, t, h3, h4⟩ := dl_succ h hj
    have ih := ih t (nx_lt h3) h4 (by omega)
    have : cnt (fun x => decide (dl P G Q x ≤ j)) (pn P) < cnt (fun x => decide (dl P G Q x ≤ j + 1)) (pn P) := cnt_lt (fun x _ e => decide_eq_true (Nat.le_succ_of_le (of_decide_eq_true e))) ⟨k, hk, decide_eq_true (Nat.le_of_eq h), decide_eq_false (by omega)⟩
    omega
theorem dl_23 {G Q : Bf} (hn : pn P ≤ 24) {k : Nat} (hk : k < pn P) (h : dl P G Q k < 25) : dl P G Q k < 24 := by
  have a := dl_chain hn _ k hk rfl h
  have b := cnt_le (fun x => decide (dl P G Q x ≤ dl P G Q k)) (pn P)
  omega
theorem wk_fuel {G Q : Bf} (f : Nat) : ∀ k, dl P G Q k < f → dl P G Q k < 25 → wk P (dl P G Q) (f + 1) (some k) = wk P (dl P G Q) f (some k) := by
  induction f with
  | zero => intro k h _; omega
  | succ f ih =>
    intro k h h25
    show (k :: (if dl P G Q k = 0 then [] else wk P (dl P G Q) (f + 1) (nrl P 25 (dl P G Q) k (pn P)))) = (k :: (if dl P G Q k = 0 then [] else wk P (dl P G Q) f (nrl P 25 (dl P G Q) k (pn P))))
    by_cases z : dl P G Q k = 0
    · rw [if_pos z, if_pos z]
    · rw [if_neg z, if_neg z]
      obtain ⟨j, hj⟩ : ∃ j, dl P G Q k = j + 1 := ⟨dl P G Q k - 1, by omega⟩
      obtain ⟨-, -, t, h3, h4⟩ := dl_succ hj (by omega)
      cases hm : nrl P 25 (dl P G Q) k (pn P) with
      | none => exact absurd (by omega) (nrl_none hm t (nx_lt h3) h3)
      | some c =>
        obtain ⟨c1, c2, c3, c4, -⟩ := nrl_some hm
        have := c4 t (nx_lt h3) h3 (by omega)
        rw [ih c (by omega) c3]
theorem wk_24 {G Q : Bf} (hn : pn P ≤ 24) (k : Nat) : wk P (dl P G Q) 24 (nrl P 25 (dl P G Q) k (pn P)) = wk P (dl P G Q) 25 (nrl P 25 (dl P G Q) k (pn P)) := by
  cases hm : nrl P 25 (dl P G Q) k (pn P) with
  | none => rfl
  | some c =>
    obtain ⟨c1, c2, c3, -, -⟩ := nrl_some hm
    exact (wk_fuel 24 c (dl_23 hn c1 c3) c3).symm
def rwD (g : Nat → Int32) (n : Nat) (D : Nat → Nat) : Nat → Int32 := fun j => if j < n then nI (D j) else g j
theorem rwD_lt {g : Nat → Int32} {n : Nat} {D : Nat → Nat} {j : Nat} (h : j < n) : rwD g n D j = nI (D j) := by simp [rwD, h]
theorem rwD_upd (g : Nat → Int32) (n : Nat) (D : Nat → Nat) {p : Nat} (hp : p < n) (w : Nat) : upd (rwD g n D) p (nI w) = rwD g n (fun x => if x = p then w else D x) := by
  funext j
  by_cases e : j = p
  · subst e; simp [upd, rwD, hp]
  · simp [upd, rwD, e]
theorem rwD_ext {g : Nat → Int32} {n : Nat} {D D' : Nat → Nat} (h : ∀ v, v < n → D v = D' v) : rwD g n D = rwD g n D' := by
  funext j
  unfold rwD
  split
  · rw [h j (by assumption)]
  · rfl
theorem x_nearest (hN : NX P s) (ho : pOK P) {D : Nat → Nat} (hD : ∀ k, k < pn P → s 54 k = nI (D k) ∧ D k ≤ 1000) {k : Nat} (hk : k < pn P) : f_X7_nearestBehind (nI k) s = some (oe (nrl P 1000 D k (pn P))) := by
  have hn := ho.1
  have ik : inb (nI k) 24 := inb_n (by omega) (by omega)
  unfold f_X7_nearestBehind
  rw [gu_t ik, lb_e, gu_t ik, lb_e, ix_n (by omega), (hN.2 k hk).1, (hN.2 k hk).2]
  have rd : ∀ q : Option Nat, (∀ m, q = some m → m < pn P) → (if oe q = (-1 : Int32) then some (1000 : Int32) else gu (inb (oe q) 24) (some (s 54 (ix (oe q))))) = some (nI (match q with | none => 1000 | some m => D m)) := fun q hq => by
    cases q with
    | none => rfl
    | some m =>
      have hm := hq m rfl
      show (if nI m = (-1 : Int32) then some (1000 : Int32) else gu (inb (nI m) 24) (some (s 54 (ix (nI m))))) = _
      rw [if_neg (neg1 (by omega)), gu_t (inb_n (by omega) (by omega)), ix_n (by omega), (hD m hm).1]
  rw [rd _ (fun m hm => on_lt hm), ob_e, rd _ (fun m hm => asd_lt hm), ob_e]
  unfold f_X7_nearestBehind_B82_1
  have lt : ∀ a, a ≤ 1000 → (nI a < (1000 : Int32)) = (a < 1000) := fun a ha => propext (nI_ltI (b := 1000) (by omega) (by omega))
  have nxI : ∀ x, nx P k x = true → on P k = some x ∨ asd P k = some x := fun x hx => (nx_on P k x).mp hx
  have none' : (∀ x, nx P k x = true → ¬ D x < 1000) → nrl P 1000 D k (pn P) = none := fun h => by
    cases hm : nrl P 1000 D k (pn P) with
    | none => rfl
    | some c =>
      obtain ⟨-, c2, c3, -, -⟩ := nrl_some hm
      exact absurd c3 (h c c2)
  cases h1 : on P k with
  | none =>
    cases h2 : asd P k with
    | none =>
      simp only [lt 1000 (by omega), Nat.lt_irrefl, if_false]
      rw [none' (fun x hx => by rcases nxI x hx with q | q <;> simp [h1, h2] at q)]
      rfl
    | some b =>
      have hb := asd_lt h2
      have hbx : nx P k b = true := (nx_on P k b).mpr (Or.inr h2)
      have bD := (hD b hb).2
      have only : ∀ x, nx P k x = true → x = b := fun x hx => by
        rcases nxI x hx with q | q
        · rw [h1] at q; cases q
        · rw [h2] at q; cases q; rfl
      simp only [lt 1000 (by omega), Nat.lt_irrefl, if_false, lt _ bD]
      by_cases c : D b < 1000
      · rw [if_pos c, if_neg (show ¬ nI 1000 = nI (D b) by rw [nI_eq (by omega) (by omega)]; omega), if_pos (nI_le bD (by omega)), ob_e, nrl_uniq hb hbx c (fun x hx hxn _ => by rw [only x hxn]; exact Or.inr ⟨rfl, Nat.le_refl _⟩)]
      · rw [if_neg c, none' (fun x hx => by rw [only x hx]; exact c)]
        rfl
  | some a =>
    have ha := on_lt h1
    have hax : nx P k a = true := (nx_on P k a).mpr (Or.inl h1)
    have aD := (hD a ha).2
    cases h2 : asd P k with
    | none =>
      have only : ∀ x, nx P k x = true → x = a := fun x hx => by
        rcases nxI x hx with q | q
        · rw [h1] at q; cases q; rfl
        · rw [h2] at q; cases q
      simp only [lt 1000 (by omega), Nat.lt_irrefl, if_false, lt _ aD]
      by_cases c : D a < 1000
      · rw [if_pos c, if_neg (show ¬ nI (D a) = nI 1000 by rw [nI_eq (by omega) (by omega)]; omega), if_neg (show ¬ nI 1000 ≤ nI (D a) from nI_ge c (by omega)), ob_e, nrl_uniq ha hax c (fun x hx hxn _ => by rw [only x hxn]; exact Or.inr ⟨rfl, Nat.le_refl _⟩)]
      · rw [if_neg c, none' (fun x hx => by rw [only x hx]; exact c)]
        rfl
    | some b =>
      have hb := asd_lt h2
      have hbx : nx P k b = true := (nx_on P k b).mpr (Or.inr h2)
      have bD := (hD b hb).2
      have only : ∀ x, nx P k x = true → x = a ∨ x = b := fun x hx => by
        rcases nxI x hx with q | q
        · rw [h1] at q; cases q; exact Or.inl rfl
        · rw [h2] at q; cases q; exact Or.inr rfl
      simp only [lt _ aD, lt _ bD]
      have main : D a < 1000 ∨ D b < 1000 → (if nI (D a) = nI (D b) then some (if oe (some b) < oe (some a) then oe (some b) else oe (some a)) else ob (if nI (D b) ≤ nI (D a) then some (oe (some b)) else some (oe (some a))) (fun v9 => some v9)) = some (oe (nrl P 1000 D k (pn P))) := fun hor => by
        by_cases e : D a = D b
        · rw [if_pos (by rw [e])]
          show some (if nI b < nI a then nI b else nI a) = _
          by_cases q : b < a
          · rw [if_pos ((nI_ltI (by omega) (by omega)).mpr q), nrl_uniq hb hbx (by omega) (fun x hx hxn _ => by rcases only x hxn with r | r <;> rw [r] <;> omega)]
            rfl
          · rw [if_neg (fun z => q ((nI_ltI (by omega) (by omega)).mp z)), nrl_uniq ha hax (by omega) (fun x hx hxn _ => by rcases only x hxn with r | r <;> rw [r] <;> omega)]
            rfl
        · rw [if_neg (by rw [nI_eq (by omega) (by omega)]; exact e)]
          by_cases q : D b ≤ D a
          · rw [if_pos (nI_le q (by omega)), ob_e, nrl_uniq hb hbx (by omega) (fun x hx hxn _ => by rcases only x hxn with r | r <;> rw [r] <;> omega)]
          · rw [if_neg (nI_ge (by omega) (by omega)), ob_e, nrl_uniq ha hax (by omega) (fun x hx hxn _ => by rcases only x hxn with r | r <;> rw [r] <;> omega)]
      by_cases ca : D a < 1000
      · rw [if_pos ca]; exact main (Or.inl ca)
      · by_cases cb : D b < 1000
        · rw [if_neg ca, if_pos cb]; exact main (Or.inr cb)
        · rw [if_neg ca, if_neg cb, none' (fun x hx => by rcases only x hx with r | r <;> rw [r] <;> assumption)]
          rfl
def S54 (P : Pg) (s : sh_S) (D : Nat → Nat) : sh_S := ur s 54 (rwD (s 54) (pn P) D)
theorem S54_n (D : Nat → Nat) {k : Nat} (h : k ≠ 54) : S54 P s D k = s k := by unfold S54; rw [ur_n _ _ h]
theorem S54_r (D : Nat → Nat) {k : Nat} (h : k < pn P) : S54 P s D 54 k = nI (D k) := by unfold S54; rw [ur_s, rwD_lt h]
theorem S54_up (D : Nat → Nat) {p : Nat} (hp : p < pn P) (w : Nat) : ur (S54 P s D) 54 (upd (S54 P s D 54) p (nI w)) = S54 P s (fun x => if x = p then w else D x) := by
  unfold S54
  rw [ur_ur, ur_s, rwD_upd _ _ _ hp]
theorem dst_up {I : Nat} {Q : Bf} {D : Nat → Nat} {k : Nat} : (fun x => if x = k then dst P I Q D k k else D x) = dst P I Q D k := by
  funext x
  by_cases e : x = k
  · subst e; rw [if_pos rfl]
  · rw [if_neg e]; unfold dst; rw [if_neg e]
theorem xD_70 (h9 : s 0 9 = nI (pn P)) (hN : NX P s) (ho : pOK P) {G Q : Bf} {r : Nat} (D : Nat → Nat) (hj : DJ P 1000 G Q D r (fun _ => False)) : ∃ fl D', lp (fun q : Int32 × Int32 × sh_S => f_X7_measure_L70 (mkb Q) q.1 q.2.1 q.2.2) FU ((0 : Int32), dn (pn P), S54 P s D) = some (bi fl, S54 P s D') ∧ DJ P 1000 G Q D' (r + 1) (fun _ => False) ∧ (fl = false → ∀ k, k < pn P → dst P 1000 Q D' k k = D' k) := by
  have hn := ho.1
  have hh := lp_dn (body := fun q : Int32 × Int32 × sh_S => f_X7_measure_L70 (mkb Q) q.1 q.2.1 q.2.2) (fun k (f : Bool × (Nat → Nat)) => (bi f.1, dn k, S54 P s f.2))
    (fun k f => k ≤ pn P ∧ DJ P 1000 G Q f.2 r (fun x => k ≤ x) ∧ (f.1 = false → f.2 = D ∧ ∀ x, k ≤ x → x < pn P → dst P 1000 Q D x x = D x))
    (fun e => ∃ fl E, e = (bi fl, S54 P s E) ∧ DJ P 1000 G Q E r (fun x => 0 ≤ x) ∧ (fl = false → E = D ∧ ∀ x, x < pn P → dst P 1000 Q D x x = D x))
    (fun k f ⟨hk, i1, i2⟩ => by
      obtain ⟨fl, E⟩ := f
      simp only at i1 i2
      have hkn : k < pn P := by omega
      have bound : ∀ x, x < pn P → E x ≤ 1000 := fun x hx => by rcases i1.1 x hx with q | q <;> omega
      have ik : inb (nI k) 24 := inb_n (by omega) (by omega)
      have hN' : NX P (S54 P s E) := hN.of (by rw [S54_n E (by omega)]) (S54_n E (by omega)) (S54_n E (by omega))
      have hE : ∀ x, x < pn P → S54 P s E 54 x = nI (E x) ∧ E x ≤ 1000 := fun x hx => ⟨S54_r E hx, bound x hx⟩
      have djn : DJ P 1000 G Q (dst P 1000 Q E k) r (fun x => k ≤ x) := by
        have st := i1.step (by omega) hkn
        exact ⟨st.1, st.2.1, fun x hx hd hf => st.2.2 x hx (by
          rcases hd with hd | ⟨hd, hd2⟩
          · exact Or.inl hd
          · exact Or.inr ⟨hd, by omega⟩) hf⟩
      refine ⟨(fl || !decide (dst P 1000 Q E k k = E k), dst P 1000 Q E k), ?_, by omega, djn, fun hf => ?_⟩
      · show f_X7_measure_L70 (mkb Q) (bi fl) (nI k) (S54 P s E) = _
        unfold f_X7_measure_L70
        rw [if_neg (nI_pos (by omega)), x_nearest hN' ho hE hkn, ob_e, x_hasBit (by omega), ob_e]
        have same : dst P 1000 Q E k k = E k → (some (Sum.inl (bi fl, dn k, S54 P s E)) : Option ((Int32 × Int32 × sh_S) ⊕ (Int32 × sh_S))) = some (Sum.inl (bi (fl || !decide (dst P 1000 Q E k k = E k)), dn k, S54 P s (dst P 1000 Q E k))) := fun e => by
          have : dst P 1000 Q E k = E := by
            rw [← dst_up, e]
            funext x
            by_cases q : x = k
            · rw [if_pos q, q]
            · rw [if_neg q]
          rw [e, this]; simp
        have chg : ∀ w, dst P 1000 Q E k k = w → w ≠ E k → (some (Sum.inl (1, dn k, ur (S54 P s E) 54 (upd (S54 P s E 54) k (nI w)))) : Option ((Int32 × Int32 × sh_S) ⊕ (Int32 × sh_S))) = some (Sum.inl (bi (fl || !decide (dst P 1000 Q E k k = E k)), dn k, S54 P s (dst P 1000 Q E k))) := fun w e hw => by
          rw [S54_up E hkn, e, decide_eq_false hw, ← dst_up (D := E), e]
          simp [bi]
        simp only [bi_z0, lb_e, dn_pred]
        cases hm : nrl P 1000 E k (pn P) with
        | none =>
          have e0 : dst P 1000 Q E k k = E k := by unfold dst; rw [if_pos rfl, hm]
          cases hq : Q k with
          | false =>
            rw [if_pos rfl, ob2_e]
            exact same e0
          | true =>
            rw [if_neg (by simp), if_pos (show oe none = -1 from rfl), ob2_e]
            exact same e0
        | some c =>
          obtain ⟨n1, n2, n3, -, -⟩ := nrl_some hm
          have ic : inb (nI c) 24 := inb_n (by omega) (by omega)
          have ed : dst P 1000 Q E k k = if Q k = true ∧ E c + 1 < E k then E c + 1 else E k := by unfold dst; rw [if_pos rfl, hm]
          cases hq : Q k with
          | false =>
            rw [if_pos rfl, ob2_e]
            exact same (by rw [ed, if_neg (by simp [hq])])
          | true =>
            rw [if_neg (by simp), if_neg (show ¬ oe (some c) = -1 from neg1 (by omega))]
            simp only [oe, gu_t ic, gu_t ik, ix_n (show c < 2 ^ 31 by omega), ix_n (show k < 2 ^ 31 by omega), S54_r E hkn, S54_r E n1, nI_1]
            have bk := bound k hkn
            by_cases q : E k ≤ E c + 1
            · rw [if_pos (nI_le q (by omega)), ob2_e]
              exact same (by rw [ed, if_neg (by omega)])
            · rw [if_neg (nI_ge (by omega) (by omega)), ob2_e]
              exact chg _ (by rw [ed, if_pos ⟨hq, by omega⟩]) (by omega)
      · simp only [Bool.or_eq_false_iff, Bool.not_eq_false', decide_eq_true_eq] at hf
        obtain ⟨e1, e2⟩ := i2 hf.1
        subst e1
        refine ⟨?_, fun x hx hxn => ?_⟩
        · show dst P 1000 Q E k = E
          rw [← dst_up, hf.2]
          funext x
          by_cases q : x = k
          · rw [if_pos q, q]
          · rw [if_neg q]
        · by_cases q : x = k
          · subst q; exact hf.2
          · exact e2 x (by omega) hxn)
    (fun f ⟨_, i1, i2⟩ => ⟨_, by
      show f_X7_measure_L70 (mkb Q) (bi f.1) (-1) (S54 P s f.2) = _
      unfold f_X7_measure_L70
      rw [if_pos (by decide)], f.1, f.2, rfl, i1, fun hf => ⟨(i2 hf).1, fun x hx => (i2 hf).2 x (Nat.zero_le _) hx⟩⟩)
    FU (pn P) (false, D) ⟨Nat.le_refl _, ⟨hj.1, hj.2.1, fun x hx hd hf => hj.2.2 x hx (by
      rcases hd with hd | ⟨-, hd⟩
      · exact Or.inl hd
      · omega) hf⟩, fun _ => ⟨rfl, fun x hx hxn => by omega⟩⟩ (FU_gt (by omega))
  obtain ⟨e, h1, fl, E, rfl, h2, h3⟩ := hh
  exact ⟨fl, E, h1, h2.next (fun k hk => Nat.zero_le _), fun hf k hk => by
    obtain ⟨e1, e2⟩ := h3 hf
    rw [e1]; exact e2 k hk⟩
theorem x_measure (h9 : s 0 9 = nI (pn P)) (hN : NX P s) (ho : pOK P) (G Q : Bf) : ∃ D, f_X7_measure (mkb G) (mkb Q) s = some (S54 P s D) ∧ ∀ k, k < pn P → D k = if dl P G Q k < 25 then dl P G Q k else 1000 := by
  have hn := ho.1
  unfold f_X7_measure
  have key := lp_fn (body := fun q : Int32 × sh_S => f_X7_measure_L2 (mkb G) q.1 q.2) (fun j (g : Nat → Int32) => (nI j, ur s 54 g)) (pn P) (fun j => fun x => if x < j then nI (if G x then 0 else 1000) else s 54 x) (S54 P s (fun x => if G x then 0 else 1000))
    (fun j hj => by
      show f_X7_measure_L2 (mkb G) (nI j) (ur s 54 _) = _
      unfold f_X7_measure_L2
      rw [ur_n _ _ (by omega), h9, if_neg (nI_ge hj (by omega)), x_hasBit (by omega), ob_e]
      simp only [bi_z0]
      have : (if G j = false then some (1000 : Int32) else some 0) = some (nI (if G j then 0 else 1000)) := by cases G j <;> rfl
      rw [this, ob_e, gu_t (inb_n (show j < 24 by omega) (by omega)), lb_e, lb_e, ix_n (by omega), ur_ur, ur_s, nI_1]
      congr 3
      congr 1
      funext x
      by_cases e : x = j
      · subst e; simp [upd]
      · rw [upd_n _ _ e]
        by_cases e2 : x < j
        · simp [e2, show x < j + 1 by omega]
        · simp [e2, show ¬ x < j + 1 by omega])
    (by
      show f_X7_measure_L2 (mkb G) (nI (pn P)) (ur s 54 _) = _
      unfold f_X7_measure_L2
      rw [ur_n _ _ (by omega), h9, if_pos (nI_le (Nat.le_refl _) (by omega))]
      rfl)
    (FU_gt (show pn P < 6000 by omega))
  have key' : lp (fun q : Int32 × sh_S => f_X7_measure_L2 (mkb G) q.1 q.2) FU ((0 : Int32), s) = some (S54 P s (fun x => if G x then 0 else 1000)) := by
    rw [← key]
    show lp _ FU (nI 0, s) = lp _ FU (nI 0, ur s 54 _)
    congr 2
    exact (ur_id s 54).symm
  rw [key', ob_e]
  obtain ⟨D', j', h1, h2, h3⟩ := lp_rnd (body := fun q : Int32 × Int32 × sh_S => f_X7_measure_L45 (mkb Q) q.1 q.2.1 q.2.2) (fun fl j D => (bi fl, nI j, S54 P s D)) (fun j D => DJ P 1000 G Q D j (fun _ => False)) (fun D => ∀ k, k < pn P → dst P 1000 Q D k k = D k) (fun D => S54 P s D)
    (fun j a => by
      show f_X7_measure_L45 (mkb Q) 0 (nI j) _ = _
      unfold f_X7_measure_L45
      rw [if_pos rfl])
    (fun a => by
      show f_X7_measure_L45 (mkb Q) 1 (nI 1000) _ = _
      unfold f_X7_measure_L45
      rw [if_neg (by decide), if_pos (by decide)])
    (fun j D hj hD => by
      obtain ⟨fl, D', e1, e2, e3⟩ := xD_70 h9 hN ho D hD
      refine ⟨fl, D', ?_, e2, e3⟩
      show f_X7_measure_L45 (mkb Q) 1 (nI j) (S54 P s D) = _
      unfold f_X7_measure_L45
      rw [if_neg (by decide), if_neg (show ¬ (1000 : Int32) ≤ nI j from nI_ge (b := 1000) hj (by omega)), lb_e, S54_n D (by omega), h9, dn_top, e1, ob2_e, lb_e, nI_1])
    FU 0 true (fun x => if G x then 0 else 1000) (Nat.zero_le _) (DJ.start (by omega) _ (fun k hk => rfl)) (fun h => by cases h) (FU_gt (n := 1001) (by omega))
  have h1' : lp (fun q : Int32 × Int32 × sh_S => f_X7_measure_L45 (mkb Q) q.1 q.2.1 q.2.2) FU ((1 : Int32), (0 : Int32), S54 P s (fun x => if G x then 0 else 1000)) = some (S54 P s D') := h1
  rw [h1', ob_e]
  refine ⟨D', rfl, ?_⟩
  rcases h3 with h3 | h3
  · exact h2.stable (by omega) hn h3
  · exact h2.fin hn (by omega)
end YT
