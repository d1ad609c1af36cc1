section XQ
variable {P : Pg} {s : sh_S}
def SS (P : Pg) (s : sh_S) (a : Nat → Bf) : sh_S := ur (ur s 22 (rwN (s 22) (pn P) (fun k l => a l k))) 23 (rwN (s 23) (pn P) (fun k l => a l (24 + k)))
theorem SS_n (a : Nat → Bf) {k : Nat} (h1 : k ≠ 22) (h2 : k ≠ 23) : SS P s a k = s k := by unfold SS; rw [ur_n _ _ h2, ur_n _ _ h1]
theorem SS_22 (a : Nat → Bf) {k : Nat} (h : k < pn P) : SS P s a 22 k = mkb (fun l => a l k) := by unfold SS; rw [ur_n _ _ (by omega), ur_s, rwN_lt h]
theorem SS_23 (a : Nat → Bf) {k : Nat} (h : k < pn P) : SS P s a 23 k = mkb (fun l => a l (24 + k)) := by unfold SS; rw [ur_s, rwN_lt h]
theorem SS_up (a a' : Nat → Bf) {m : Nat} (hm : m < pn P) (w1 w2 : Bf) (h1 : ∀ k, k < pn P → ∀ l, l < 25 → a' l k = if k = m then w1 l else a l k) (h2 : ∀ k, k < pn P → ∀ l, l < 25 → a' l (24 + k) = if k = m then w2 l else a l (24 + k)) : ur (ur (SS P s a) 22 (upd (SS P s a 22) m (mkb w1))) 23 (upd (SS P s a 23) m (mkb w2)) = SS P s a' := by
  have e1 : upd (SS P s a 22) m (mkb w1) = rwN (s 22) (pn P) (fun k l => a' l k) := by
    unfold SS
    rw [ur_n _ _ (by omega), ur_s, rwN_upd _ _ _ hm]
    refine rwN_ext (fun k hk l hl => ?_)
    rw [h1 k hk l hl]
    split <;> rfl
  have e2 : upd (SS P s a 23) m (mkb w2) = rwN (s 23) (pn P) (fun k l => a' l (24 + k)) := by
    unfold SS
    rw [ur_s, rwN_upd _ _ _ hm]
    refine rwN_ext (fun k hk l hl => ?_)
    rw [h2 k hk l hl]
    split <;> rfl
  rw [e1, e2]
  funext k
  unfold SS ur
  by_cases q : k = 23
  · simp [q]
  · by_cases q2 : k = 22 <;> simp [q, q2]
def pz (P : Pg) (O A : Bf) (q : Option Nat) (a : Nat → Bf) : Nat → Bf := fun l x => a l x || (decide (q = some (ptx x)) && ((Lo P l && rgn P l (ptx x)) && (if x < 24 then O l else A l)))
theorem x_pass (hK : KX P s) (ho : pOK P) {q : Option Nat} (hq : ∀ m, q = some m → m < pn P) (O A : Bf) (a : Nat → Bf) : ∃ fl, f_X3_pass (oe q) (mkb O) (mkb A) (SS P s a) = some (bi fl, SS P s (pz P O A q a)) ∧ (fl = false → ∀ l, l < 25 → ∀ x, x < 48 → pz P O A q a l x = a l x) := by
  have hn := ho.1
  cases q with
  | none =>
    refine ⟨false, ?_, fun _ l _ x _ => by simp [pz]⟩
    have : pz P O A none a = a := by funext l x; simp [pz]
    rw [this]
    show f_X3_pass (-1) _ _ _ = _
    unfold f_X3_pass
    rw [if_pos rfl]
    rfl
  | some m =>
    have hm := hq m rfl
    have im : inb (nI m) 24 := inb_n (by omega) (by omega)
    have p1 : ∀ k, k < 24 → ptx k = k := fun k hk => by simp [ptx, hk]
    have p2 : ∀ k, ptx (24 + k) = k := fun k => by simp [ptx]
    have v1 : ∀ l, pz P O A (some m) a l m = (a l m || (O l && (Lo P l && rgn P l m))) := fun l => by
      simp only [pz, p1 m (by omega), show m < 24 by omega, if_true, decide_true, Bool.true_and]
      rw [Bool.and_comm (O l)]
    have v2 : ∀ l, pz P O A (some m) a l (24 + m) = (a l (24 + m) || (A l && (Lo P l && rgn P l m))) := fun l => by
      simp only [pz, p2 m, show ¬ 24 + m < 24 by omega, if_false, decide_true, Bool.true_and]
      rw [Bool.and_comm (A l)]
    have n1 : ∀ l k, k < 24 → k ≠ m → pz P O A (some m) a l k = a l k := fun l k hk hkm => by
      simp [pz, p1 k hk, Ne.symm hkm]
    have n2 : ∀ l k, k ≠ m → pz P O A (some m) a l (24 + k) = a l (24 + k) := fun l k hkm => by
      simp [pz, p2 k, Ne.symm hkm]
    refine ⟨!(decide (mkb (fun l => a l m || (O l && (Lo P l && rgn P l m))) = mkb (fun l => a l m)) && decide (mkb (fun l => a l (24 + m) || (A l && (Lo P l && rgn P l m))) = mkb (fun l => a l (24 + m)))), ?_, fun hf l hl x hx => ?_⟩
    · show f_X3_pass (nI m) _ _ _ = _
      unfold f_X3_pass
      rw [if_neg (neg1 (by omega))]
      simp only [gu_t im, ix_n (show m < 2 ^ 31 by omega), SS_22 a hm, SS_23 a hm, SS_n a (show 25 ≠ 22 by omega) (show 25 ≠ 23 by omega), (hK m hm).2.1, mkb_and, mkb_or, lb_e, ur_n _ _ (show 23 ≠ 22 by omega)]
      rw [SS_up a (pz P O A (some m) a) hm (fun l => a l m || (O l && (Lo P l && rgn P l m))) (fun l => a l (24 + m) || (A l && (Lo P l && rgn P l m))) (fun k hk l hl => by
        by_cases e : k = m
        · subst e; rw [if_pos rfl, v1]
        · rw [if_neg e, n1 l k (by omega) e]) (fun k hk l hl => by
        by_cases e : k = m
        · subst e; rw [if_pos rfl, v2]
        · rw [if_neg e, n2 l k e])]
      by_cases e1 : mkb (fun l => a l m || (O l && (Lo P l && rgn P l m))) = mkb (fun l => a l m)
      · by_cases e2 : mkb (fun l => a l (24 + m) || (A l && (Lo P l && rgn P l m))) = mkb (fun l => a l (24 + m))
        · simp [e1, e2, ob, gu, bi]
        · simp [e1, e2, ob, gu, bi]
      · simp [e1, ob, gu, bi]
    · simp only [Bool.not_eq_false', Bool.and_eq_true, decide_eq_true_eq] at hf
      by_cases q : x < 24
      · by_cases e : x = m
        · subst e; rw [v1]; exact mkb_inj hf.1 hl
        · exact n1 l x q e
      · have ex24 : x = 24 + (x - 24) := by omega
        rw [ex24]
        by_cases e : x - 24 = m
        · rw [e, v2]; exact mkb_inj hf.2 hl
        · exact n2 l _ e
theorem xS_in (hX : LX P s) (hN : NX P s) (hO : OY P s) (hK : KX P s) (ho : pOK P) (g : Nat → Bf) : ∃ fl g', lp (fun q : Int32 × Int32 × sh_S => f_X3_findScopes_L22 (nI (pn P)) q.1 q.2.1 q.2.2) FU ((0 : Int32), (0 : Int32), SS P s g) = some (bi fl, SS P s g') ∧ (∀ l, l < 25 → GS (FC P l) 48 (g l) (g' l)) ∧ (fl = false → ∀ l, l < 25 → ∀ x, x < 48 → g' l x = g l x) := by
  have hn := ho.1
  have hh := lp_for (body := fun q : Int32 × Int32 × sh_S => f_X3_findScopes_L22 (nI (pn P)) q.1 q.2.1 q.2.2) (fun k (f : Bool × (Nat → Bf)) => (bi f.1, nI k, SS P s f.2)) (pn P)
    (fun k f => (∀ l, l < 25 → (∀ x, g l x = true → f.2 l x = true) ∧ (∀ j, j < k → ∀ x, x < 48 → nx P j (ptx x) = true → ct P (g l) l j x = true → f.2 l x = true) ∧ (∀ C : Bf, (∀ x, x < 48 → FC P l C x = true → C x = true) → (∀ x, g l x = true → C x = true) → ∀ x, f.2 l x = true → C x = true)) ∧ (f.1 = false → ∀ l, l < 25 → ∀ x, x < 48 → f.2 l x = g l x))
    (fun e => ∃ fl f, e = (bi fl, SS P s f) ∧ (∀ l, l < 25 → GS (FC P l) 48 (g l) (f l)) ∧ (fl = false → ∀ l, l < 25 → ∀ x, x < 48 → f l x = g l x))
    (fun k f hk ⟨i1, i3⟩ => by
      obtain ⟨fl, f⟩ := f
      simp only at i1 i3
      have ik : inb (nI k) 24 := inb_n (by omega) (by omega)
      obtain ⟨k1, k2, k3⟩ := hK k hk
      have hA0 : s 19 0 = mkb (fun l => Lo P l) := by
        rw [hO.1 0 (by omega)]
        exact mkb_ext (fun l _ => by simp [sl])
      obtain ⟨fl1, p1, p2⟩ := x_pass hK ho (q := on P k) (fun m hm => on_lt hm) (fun i => (f i k && !(Lo P i && kil P k i)) || (Lo P i && decide (i = k))) (fun i => (f i k && !(Lo P i && kil P k i)) && (f i (24 + k) || (Lo P i && act P k i))) f
      obtain ⟨fl2, p3, p4⟩ := x_pass hK ho (q := asd P k) (fun m hm => asd_lt hm) (fun i => (f i k && !(Lo P i && kil P k i)) || (Lo P i && decide (i = k))) (fun i => (f i k && !(Lo P i && kil P k i)) && (f i (24 + k) || (Lo P i && act P k i))) (pz P (fun i => (f i k && !(Lo P i && kil P k i)) || (Lo P i && decide (i = k))) (fun i => (f i k && !(Lo P i && kil P k i)) && (f i (24 + k) || (Lo P i && act P k i))) (on P k) f)
      generalize hf' : pz P (fun i => (f i k && !(Lo P i && kil P k i)) || (Lo P i && decide (i = k))) (fun i => (f i k && !(Lo P i && kil P k i)) && (f i (24 + k) || (Lo P i && act P k i))) (asd P k) (pz P (fun i => (f i k && !(Lo P i && kil P k i)) || (Lo P i && decide (i = k))) (fun i => (f i k && !(Lo P i && kil P k i)) && (f i (24 + k) || (Lo P i && act P k i))) (on P k) f) = f' at p3 p4
      have fe : ∀ l x, f' l x = (f l x || (nx P k (ptx x) && ct P (f l) l k x)) := fun l x => by
        rw [← hf']
        have en : nx P k (ptx x) = (decide (on P k = some (ptx x)) || decide (asd P k = some (ptx x))) := tt (by rw [nx_on, Bool.or_eq_true, decide_eq_true_eq, decide_eq_true_eq])
        rw [en]
        simp only [pz, ct, oS, aS]
        have e1 : decide (l = k) = decide (k = l) := by
          by_cases q : l = k
          · simp [q]
          · rw [decide_eq_false q, decide_eq_false (Ne.symm q)]
        rw [e1]
        by_cases q : x < 24
        · simp only [q, if_true]
          cases f l x <;> cases decide (on P k = some (ptx x)) <;> cases decide (asd P k = some (ptx x)) <;> cases Lo P l <;> cases rgn P l (ptx x) <;> simp
        · simp only [q, if_false]
          cases f l x <;> cases decide (on P k = some (ptx x)) <;> cases decide (asd P k = some (ptx x)) <;> cases Lo P l <;> cases rgn P l (ptx x) <;> simp
      refine ⟨(fl || fl1 || fl2, f'), ?_, fun l hl => ⟨fun x hx => by show f' l x = true; rw [fe, (i1 l hl).1 x hx]; rfl, fun j hj x hx h1 h2 => ?_, fun C hC hg x hx => ?_⟩, fun hfl l hl x hx => ?_⟩
      · show f_X3_findScopes_L22 (nI (pn P)) (bi fl) (nI k) (SS P s f) = _
        unfold f_X3_findScopes_L22
        rw [if_neg (nI_ge hk (by omega))]
        simp only [gu_t ik, ix_n (show k < 2 ^ 31 by omega), SS_22 f hk, SS_23 f hk, SS_n f (show 24 ≠ 22 by omega) (show 24 ≠ 23 by omega), SS_n f (show 26 ≠ 22 by omega) (show 26 ≠ 23 by omega), SS_n f (show 19 ≠ 22 by omega) (show 19 ≠ 23 by omega), SS_n f (show 12 ≠ 22 by omega) (show 12 ≠ 23 by omega), k1, k3, hA0, mkb_nand, mkb_or, mkb_and, mkb_one (show k < 25 by omega), lb_e, (hN.2 k hk).1, p1, ob2_e]
        simp only [SS_n _ (show 13 ≠ 22 by omega) (show 13 ≠ 23 by omega), (hN.2 k hk).2, p3, ob2_e, bi_z0, nI_1]
        cases fl <;> cases fl1 <;> cases fl2 <;> simp [ob, bi]
      · show f' l x = true
        rw [fe]
        by_cases e : j = k
        · subst e
          rw [h1, ct_mon ho hk (fun y _ e => (i1 l hl).1 y e) h2]; simp
        · rw [(i1 l hl).2.1 j (by omega) x hx h1 h2]; rfl
      · have hx : f' l x = true := hx
        rw [fe] at hx
        simp only [Bool.or_eq_true, Bool.and_eq_true] at hx
        rcases hx with hx | ⟨h1, h2⟩
        · exact (i1 l hl).2.2 C hC hg x hx
        · have hx48 : x < 48 := by
            have := nx_lt h1
            unfold ptx at this
            split at this <;> omega
          exact hC x hx48 ((FC_iff hx48).mpr ⟨k, hk, h1, ct_mon ho hk (fun y _ e => (i1 l hl).2.2 C hC hg y e) h2⟩)
      · simp only [Bool.or_eq_false_iff] at hfl
        show f' l x = g l x
        rw [p4 hfl.2 l hl x hx, p2 hfl.1.2 l hl x hx]
        exact i3 hfl.1.1 l hl x hx)
    (fun f ⟨i1, i3⟩ => ⟨_, by
      show f_X3_findScopes_L22 (nI (pn P)) (bi f.1) (nI (pn P)) (SS P s f.2) = _
      unfold f_X3_findScopes_L22
      rw [if_pos (nI_le (Nat.le_refl _) (by omega))], f.1, f.2, rfl, fun l hl => ⟨(i1 l hl).1, fun x hx hF => by
        obtain ⟨k, hk, h1, h2⟩ := (FC_iff hx).mp hF
        exact (i1 l hl).2.1 k hk x hx h1 h2, (i1 l hl).2.2⟩, i3⟩)
    FU 0 (false, g) (Nat.zero_le _) ⟨fun l hl => ⟨fun _ hx => hx, fun j hj => by omega, fun C _ hg x hx => hg x hx⟩, fun _ _ _ _ _ => rfl⟩ (FU_gt (by omega))
  obtain ⟨e, h1, fl, f, rfl, h2⟩ := hh
  exact ⟨fl, f, h1, h2⟩
theorem x_findScopes (hX : LX P s) (hN : NX P s) (hO : OY P s) (hK : KX P s) (ho : pOK P) (hz : ∀ k, k < pn P → s 22 k = 0 ∧ s 23 k = 0) : ∃ s', f_X3_findScopes (nI (pn P)) s = some s' ∧ Fx [22, 23] s s' ∧ ∀ k, k < pn P → s' 22 k = mkb (sSc P k) ∧ s' 23 k = mkb (sAc P k) := by
  have hn := ho.1
  unfold f_X3_findScopes
  obtain ⟨a', h1, -, h2⟩ := lp_fix (body := fun q : Int32 × Int32 × sh_S => f_X3_findScopes_L5 (nI (pn P)) q.1 q.2.1 q.2.2) (fun fl j a => (bi fl, nI j, SS P s a)) (fun l => FC P l) (fun _ => b0) 48 25 (by omega) (fun l => FC_mon ho l) (fun l => FC_lt P l) (fun _ => b0_lt _) (fun a => SS P s a) (fun _ => True) trivial
    (fun j a => by
      show f_X3_findScopes_L5 (nI (pn P)) 0 (nI j) _ = _
      unfold f_X3_findScopes_L5
      rw [if_pos rfl])
    (fun a => by
      show f_X3_findScopes_L5 (nI (pn P)) 1 (nI 1000) _ = _
      unfold f_X3_findScopes_L5
      rw [if_neg (by decide), if_pos (by decide)])
    (fun j a hj _ hlt => by
      obtain ⟨fl, g', e1, e3, e4⟩ := xS_in hX hN hO hK ho a
      refine ⟨fl, g', ?_, trivial, e3, e4⟩
      show f_X3_findScopes_L5 (nI (pn P)) 1 (nI j) (SS P s a) = _
      unfold f_X3_findScopes_L5
      rw [if_neg (by decide), if_neg (show ¬ (1000 : Int32) ≤ nI j from nI_ge (b := 1000) hj (by omega)), e1, ob2_e, lb_e, nI_1])
  have e0 : SS P s (fun _ => b0) = s := by
    have r : ∀ c, (∀ k, k < pn P → s c k = 0) → rwN (s c) (pn P) (fun _ _ => false) = s c := fun c hc => by
      funext k
      unfold rwN
      split
      · rename_i q; rw [hc k q]; exact mkb_0.symm
      · rfl
    unfold SS
    show ur (ur s 22 (rwN (s 22) (pn P) (fun _ _ => false))) 23 (rwN (s 23) (pn P) (fun _ _ => false)) = s
    rw [r 22 (fun k hk => (hz k hk).1), r 23 (fun k hk => (hz k hk).2), ur_id]
    exact ur_id s 23
  have h1' : lp (fun q : Int32 × Int32 × sh_S => f_X3_findScopes_L5 (nI (pn P)) q.1 q.2.1 q.2.2) FU ((1 : Int32), (0 : Int32), SS P s (fun _ => b0)) = some (SS P s a') := h1
  rw [e0] at h1'
  rw [h1', ob_e]
  refine ⟨_, rfl, (Fx.rf.ur (by simp) _).ur (by simp) _, fun k hk => ?_⟩
  have hk24 : k < 24 := by omega
  rw [SS_22 a' hk, SS_23 a' hk]
  constructor
  · refine mkb_ext (fun l hl => ?_)
    rw [h2 l hl k]
    cases e : Lo P l with
    | false => rw [FC_out l e k (by omega)]; simp [sSc, e]
    | true => rw [(FC_sc ho e hk24).1]; simp [sSc, e, hk, Sc, hk24]
  · refine mkb_ext (fun l hl => ?_)
    rw [h2 l hl (24 + k)]
    cases e : Lo P l with
    | false => rw [FC_out l e (24 + k) (by omega)]; simp [sAc, e]
    | true => rw [(FC_sc ho e hk24).2]; simp [sAc, e, hk, Ac, hk24]
theorem x_passable (hX : LX P s) (hG : ∀ v, v < 8 → s 18 v = mkb (Rg P v)) (hK : KX P s) (ho : pOK P) {l : Nat} (hl : Lo P l = true) : ∃ Q, f_X3_passable (nI l) s = some (mkb Q) ∧ ∀ k, k < pn P → Q k = Q1 P l k := by
  have hn := ho.1
  have hln := Lo_lt hl
  have hpx := (ho.2 l).2.1
  unfold f_X3_passable
  rw [gu_t (inb_n (show l < 24 by omega) (by omega)), ix_n (by omega), (hX.2 l (by omega)).2.1, gu_t (inb_n hpx (by omega)), lb_e, ix_n (by omega), hG _ hpx]
  have key := lp_fn (body := fun q : Int32 × Int32 => f_X3_passable_L16 (nI l) s q.1 q.2) (fun j (g : Bf) => (mkb g, nI j)) (pn P) (fun j => fun x => Rg P (px P l) x && !(decide (x < j) && kil P x l)) (mkb (fun x => Rg P (px P l) x && !(decide (x < pn P) && kil P x l)))
    (fun j hj => by
      show f_X3_passable_L16 (nI l) s (mkb _) (nI j) = _
      unfold f_X3_passable_L16
      rw [hX.1, if_neg (nI_ge hj (by omega))]
      simp only [gu_t (inb_n (show j < 24 by omega) (show 24 < 2 ^ 31 by omega)), ix_n (show j < 2 ^ 31 by omega), (hK j hj).1, x_hasBit (show l < 25 by omega), ob_e, hl, Bool.true_and, bi_z0, mkb_one (show j < 25 by omega), mkb_nand, lb_e, nI_1]
      cases e : kil P j l with
      | false =>
        simp only [if_true, ob_e]
        congr 3
        refine mkb_ext (fun x _ => ?_)
        by_cases q : x = j
        · subst q; simp [e]
        · by_cases q2 : x < j
          · simp [q2, show x < j + 1 by omega]
          · simp [q2, show ¬ x < j + 1 by omega]
      | true =>
        simp only [Bool.true_eq_false, if_false, ob_e]
        congr 3
        refine mkb_ext (fun x _ => ?_)
        by_cases q : x = j
        · subst q; simp [e]
        · by_cases q2 : x < j
          · simp [q, q2, show x < j + 1 by omega]
          · simp [q, q2, show ¬ x < j + 1 by omega])
    (by
      show f_X3_passable_L16 (nI l) s (mkb _) (nI (pn P)) = _
      unfold f_X3_passable_L16
      rw [hX.1, if_pos (nI_le (Nat.le_refl _) (by omega))])
    (FU_gt (show pn P < 6000 by omega))
  have e0 : mkb (fun x => Rg P (px P l) x && !(decide (x < 0) && kil P x l)) = mkb (Rg P (px P l)) := mkb_ext (fun x _ => by simp)
  have key' : lp (fun q : Int32 × Int32 => f_X3_passable_L16 (nI l) s q.1 q.2) FU (mkb (fun x => Rg P (px P l) x && !(decide (x < 0) && kil P x l)), (0 : Int32)) = _ := key
  rw [e0] at key'
  rw [key', ob_e]
  exact ⟨_, rfl, fun k hk => by simp [Q1, hk]⟩
end XQ
