def Bz (P : Pg) (H : Nat → Bf) (k v b : Nat) : Bool := Bh P k v b (fun i => H i b)
def HS (P : Pg) (s : sh_S) (H : Nat → Bf) (W : Bf) (t : sh_S) : Prop := Fx [19, 20, 21] s t ∧ (∀ j, j ≠ 6 → t 19 j = s 19 j) ∧ (∀ i, i < 8 * pn P → t 20 i = mkb (H i)) ∧ t 19 6 = mkb W
section XH
variable {P : Pg} {s t : sh_S} {H : Nat → Bf} {W : Bf}
theorem mul8 (k : Nat) : nI k * (8 : Int32) = nI (8 * k) := by
  rw [show nI k * (8 : Int32) = nI (k * 8) from pk_mul k 8, Nat.mul_comm]
def jnx (H : Nat → Bf) (m : Nat) (Z : Nat → Bf) (x : Nat) : Nat → Bf := fun i b => H i b || (decide (i / 8 = m) && decide (i % 8 < x) && Z (i % 8) b)
theorem x_joinN (h : HS P s H W t) (ho : pOK P) {m : Nat} (hm : m < pn P) {Z : Nat → Bf} (hz : ∀ v, v < 8 → t 21 v = mkb (Z v)) : ∃ t' W', f_X3_join (nI m) t = some t' ∧ HS P s (jnx H m Z 8) W' t' ∧ t' 21 = t 21 ∧ (∀ k, W k = true → W' k = true) ∧ (∀ k, W' k = true → W k = true ∨ k = m) ∧ (W' m = false → ∀ v, v < 8 → ∀ b, b < 25 → Z v b = true → H (8 * m + v) b = true) := by
  have hn := ho.1
  unfold f_X3_join
  rw [if_neg (neg1 (by omega)), lb_e, mul8]
  have hh := lp_for (body := fun q : Int32 × sh_S => f_X3_join_L13 (nI m) (nI (8 * m)) q.1 q.2) (fun x (a : sh_S × Bf) => (nI x, a.1)) 8
    (fun x a => HS P s (jnx H m Z x) a.2 a.1 ∧ a.1 21 = t 21 ∧ (∀ k, W k = true → a.2 k = true) ∧ (∀ k, a.2 k = true → W k = true ∨ k = m) ∧ (a.2 m = false → ∀ v, v < x → ∀ b, b < 25 → Z v b = true → H (8 * m + v) b = true))
    (fun e => ∃ W', HS P s (jnx H m Z 8) W' e ∧ e 21 = t 21 ∧ (∀ k, W k = true → W' k = true) ∧ (∀ k, W' k = true → W k = true ∨ k = m) ∧ (W' m = false → ∀ v, v < 8 → ∀ b, b < 25 → Z v b = true → H (8 * m + v) b = true))
    (fun x a hx ⟨⟨i1, i2, i3, i4⟩, i5, i6, i7, i8⟩ => by
      obtain ⟨t1, W1⟩ := a
      simp only at i1 i2 i3 i4 i5 i6 i7 i8
      have ib : inb (nI (8 * m + x)) 192 := inb_n (by omega) (by omega)
      have hi : 8 * m + x < 8 * pn P := by omega
      have e1 : (8 * m + x) / 8 = m := by omega
      have e2 : (8 * m + x) % 8 = x := by omega
      have old : mkb (jnx H m Z x (8 * m + x)) = mkb (H (8 * m + x)) := mkb_ext (fun b _ => by simp [jnx, e1, e2])
      have ext : ∀ i, i ≠ 8 * m + x → mkb (jnx H m Z x i) = mkb (jnx H m Z (x + 1) i) := fun i hi => mkb_ext (fun b _ => by
        unfold jnx
        by_cases q : i / 8 = m
        · have : i % 8 ≠ x := by omega
          by_cases q2 : i % 8 < x
          · simp [q2, show i % 8 < x + 1 by omega]
          · simp [q2, show ¬ i % 8 < x + 1 by omega]
        · simp [q])
      have new : mkb (jnx H m Z (x + 1) (8 * m + x)) = mkb (fun b => H (8 * m + x) b || Z x b) := mkb_ext (fun b _ => by simp [jnx, e1, e2])
      by_cases e : mkb (fun b => H (8 * m + x) b || Z x b) = mkb (H (8 * m + x))
      · refine ⟨(t1, W1), ?_, ⟨i1, i2, fun i hi' => ?_, i4⟩, i5, i6, i7, fun hw v hv b hb hzb => ?_⟩
        · show f_X3_join_L13 (nI m) (nI (8 * m)) (nI x) t1 = _
          unfold f_X3_join_L13
          rw [if_neg (show ¬ (8 : Int32) ≤ nI x from nI_ge (b := 8) hx (by omega))]
          simp only [nI_add, gu_t ib, gu_t (inb_n hx (show 8 < 2 ^ 31 by omega)), ix_n (show 8 * m + x < 2 ^ 31 by omega), ix_n (show x < 2 ^ 31 by omega), i3 _ hi, old, i5, hz x hx, mkb_or, lb_e, e, if_true, ob_e, nI_1]
        · by_cases q : i = 8 * m + x
          · subst q; show t1 20 _ = _; rw [i3 _ hi, old, new, e]
          · show t1 20 _ = _; rw [i3 i hi', ext i q]
        · by_cases q : v = x
          · subst q
            have := mkb_inj e hb
            rw [← this, hzb]; simp
          · exact i8 hw v (by omega) b hb hzb
      · refine ⟨(ur (ur t1 20 (upd (t1 20) (8 * m + x) (mkb (fun b => H (8 * m + x) b || Z x b)))) 19 (upd (t1 19) 6 (mkb (fun k => W1 k || decide (k = m)))), fun k => W1 k || decide (k = m)), ?_, ⟨(i1.ur (by simp) _).ur (by simp) _, fun j hj => ?_, fun i hi' => ?_, ?_⟩, ?_, fun k hk => by simp [i6 k hk], fun k hk => ?_, fun hw => ?_⟩
        · show f_X3_join_L13 (nI m) (nI (8 * m)) (nI x) t1 = _
          unfold f_X3_join_L13
          rw [if_neg (show ¬ (8 : Int32) ≤ nI x from nI_ge (b := 8) hx (by omega))]
          simp only [nI_add, gu_t ib, gu_t (inb_n hx (show 8 < 2 ^ 31 by omega)), ix_n (show 8 * m + x < 2 ^ 31 by omega), ix_n (show x < 2 ^ 31 by omega), i3 _ hi, old, i5, hz x hx, mkb_or, lb_e, e, if_false, ob_e, nI_1, ur_n _ _ (show 19 ≠ 20 by omega), i4, mkb_one (show m < 25 by omega)]
        · simp only
          rw [ur_s, upd_n _ _ hj]; exact i2 j hj
        · simp only
          rw [ur_n _ _ (by omega), ur_s]
          by_cases q : i = 8 * m + x
          · subst q; rw [upd_s, new]
          · rw [upd_n _ _ q, i3 i hi', ext i q]
        · simp only
          rw [ur_s, upd_s]
        · simp only
          rw [ur_n _ _ (by omega), ur_n _ _ (by omega)]; exact i5
        · simp only [Bool.or_eq_true, decide_eq_true_eq] at hk
          rcases hk with hk | hk
          · exact i7 k hk
          · exact Or.inr hk
        · simp at hw)
    (fun a hi => ⟨a.1, by
      show f_X3_join_L13 (nI m) (nI (8 * m)) (nI 8) a.1 = _
      unfold f_X3_join_L13
      rw [if_pos (by decide)], a.2, hi⟩)
    FU 0 (t, W) (Nat.zero_le _) ⟨⟨h.1, h.2.1, fun i hi => by show t 20 i = _; rw [h.2.2.1 i hi]; exact mkb_ext (fun b _ => by simp [jnx]), h.2.2.2⟩, rfl, fun _ hk => hk, fun _ hk => Or.inl hk, fun _ v hv => by omega⟩ (FU_gt (by omega))
  obtain ⟨e, h1, W', h2⟩ := hh
  have h1' : lp (fun q : Int32 × sh_S => f_X3_join_L13 (nI m) (nI (8 * m)) q.1 q.2) FU ((0 : Int32), t) = some e := h1
  rw [h1', ob_e]
  exact ⟨e, W', rfl, h2⟩
theorem x_join (h : HS P s H W t) (ho : pOK P) {q : Option Nat} (hq : ∀ m, q = some m → m < pn P) {Z : Nat → Bf} (hz : ∀ v, v < 8 → t 21 v = mkb (Z v)) : ∃ t' H' W', f_X3_join (oe q) t = some t' ∧ HS P s H' W' t' ∧ t' 21 = t 21 ∧ (∀ i b, H' i b = (H i b || (decide (q = some (i / 8)) && Z (i % 8) b))) ∧ (∀ k, W k = true → W' k = true) ∧ (∀ k, W' k = true → W k = true ∨ q = some k) ∧ (∀ m, q = some m → W' m = false → ∀ v, v < 8 → ∀ b, b < 25 → Z v b = true → H (8 * m + v) b = true) := by
  cases q with
  | none =>
    refine ⟨t, H, W, ?_, h, rfl, fun i b => by simp, fun _ hk => hk, fun _ hk => Or.inl hk, fun m hm => by cases hm⟩
    show f_X3_join (-1) t = _
    unfold f_X3_join
    rw [if_pos rfl]
  | some m =>
    obtain ⟨t', W', a1, a2, a3, a4, a5, a6⟩ := x_joinN h ho (hq m rfl) hz
    refine ⟨t', jnx H m Z 8, W', a1, a2, a3, fun i b => ?_, a4, fun k hk => ?_, fun m' hm hw => ?_⟩
    · unfold jnx
      have : i % 8 < 8 := Nat.mod_lt _ (by omega)
      by_cases e : i / 8 = m
      · simp [e, this]
      · simp [e, Ne.symm e]
    · rcases a5 k hk with q | q
      · exact Or.inl q
      · exact Or.inr (by rw [q])
    · cases hm; exact a6 hw
theorem x_stepBehind (hX : LX P t) (ho : pOK P) {k : Nat} (hk : k < pn P) (h20 : ∀ i, i < 8 * pn P → t 20 i = mkb (H i)) : ∃ t', f_X3_stepBehind (nI k) t = some t' ∧ Fx [21] t t' ∧ ∀ v, v < 8 → t' 21 v = mkb (Bz P H k v) := by
  have hn := ho.1
  obtain ⟨-, x2, -, -, x5, x6, -, x8, x9⟩ := hX.2 k (by omega)
  have ik : inb (nI k) 24 := inb_n (by omega) (by omega)
  have ha := ak_lt ho k
  have hpv := pv_lt ho k
  have hpx := (ho.2 k).2.1
  unfold f_X3_stepBehind
  have i8 : ix (8 : Int32) = 8 := ix_n (k := 8) (by omega)
  have i0 : ix (0 : Int32) = 0 := ix_n (k := 0) (by omega)
  rw [mul8, gu_t ⟨⟨nI_pos (by omega), by decide, by decide⟩, by rw [ix_n (by omega), i8]; omega, by rw [i0, i8]; omega⟩, lb_e, ix_n (show 8 * k < 2 ^ 31 by omega), i8, i0]
  generalize hs1 : ur t 21 (va_cpy (t 20) (t 21) (8 * k) 0 8) = s1
  have f1 : Fx [21] t s1 := by rw [← hs1]; exact Fx.rf.ur (by simp) _
  have e21 : ∀ v, v < 8 → s1 21 v = mkb (H (8 * k + v)) := fun v hv => by
    rw [← hs1, ur_s]
    unfold va_cpy
    rw [if_pos (by omega), Nat.sub_zero]
    exact h20 _ (by omega)
  simp only [gu_t ik, ix_n (show k < 2 ^ 31 by omega), f1 5 (by simp), f1 6 (by simp), f1 2 (by simp), f1 8 (by simp), f1 9 (by simp), x5, x6, x2, x8, x9, lb_e, c2 ha, ak_iff (P := P) (k := k) (show 2 ≠ 4 by omega) (show 2 ≠ 5 by omega), bi_z0, gu_t (inb_n hpv (show 8 < 2 ^ 31 by omega)), gu_t (inb_n hpx (show 8 < 2 ^ 31 by omega)), ix_n (show pv P k < 2 ^ 31 by omega), ix_n (show px P k < 2 ^ 31 by omega), mkb_V, mkb_one (show k < 25 by omega), ob_e]
  have B : f_X3_stepBehind_B89_1 (nI (ak P k)) (nI (pv P k)) (nI (px P k)) s1 = some (if pk P k = 6 ∧ ¬ pv P k = px P k then ur s1 21 (upd (upd (s1 21) (px P k) (mkb (H (8 * k + pv P k)))) (pv P k) (mkb (fun i => decide (i = 24)))) else s1) := by
    unfold f_X3_stepBehind_B89_1
    simp only [c6 ha, ak_iff (P := P) (k := k) (show 6 ≠ 4 by omega) (show 6 ≠ 5 by omega), nI_eqb (show pv P k < 2 ^ 31 by omega) (show px P k < 2 ^ 31 by omega), gu_t (inb_n hpv (show 8 < 2 ^ 31 by omega)), gu_t (inb_n hpx (show 8 < 2 ^ 31 by omega)), ix_n (show pv P k < 2 ^ 31 by omega), ix_n (show px P k < 2 ^ 31 by omega), lb_e, e21 _ hpv, ur_ur, ur_s, mkb_V]
    by_cases a : pk P k = 6
    · by_cases b : pv P k = px P k <;> simp [a, b]
    · simp [a]
  rw [B]
  have hg : pk P k = 2 → gt P k = thr P k := fun e => by simp [gt, e]
  cases cl : lnd P k with
  | true =>
    simp only [Bool.true_eq_false, if_false, ob_e]
    refine ⟨_, rfl, f1.ur (by simp) _, fun v hv => ?_⟩
    rw [ur_s]
    unfold Bz Bh
    simp only [cl, if_true]
    by_cases e : v = px P k
    · subst e; rw [upd_s]; exact mkb_ext (fun b _ => by simp)
    · rw [upd_n _ _ e, e21 v hv]; exact mkb_ext (fun b _ => by simp [e])
  | false =>
    simp only [if_true]
    by_cases c2' : pk P k = 2
    · rw [if_pos c2', hg c2']
      cases ct : thr P k with
      | false =>
        simp only [if_true, ob_e]
        refine ⟨_, rfl, f1.ur (by simp) _, fun v hv => ?_⟩
        rw [ur_s]
        unfold Bz Bh
        simp only [cl, Bool.false_eq_true, if_false, c2', if_true, ct, and_true]
        by_cases e : v = pv P k
        · subst e; rw [upd_s]; exact mkb_ext (fun b _ => by simp)
        · rw [upd_n _ _ e, e21 v hv]; exact mkb_ext (fun b _ => by simp [e])
      | true =>
        simp only [Bool.true_eq_false, if_false, ob_e]
        rw [if_neg (show ¬ (pk P k = 6 ∧ ¬ pv P k = px P k) by omega)]
        refine ⟨_, rfl, f1, fun v hv => ?_⟩
        rw [e21 v hv]
        unfold Bz Bh
        exact mkb_ext (fun b _ => by simp [cl, c2', ct])
    · rw [if_neg c2', ob_e]
      by_cases c6' : pk P k = 6 ∧ ¬ pv P k = px P k
      · rw [if_pos c6']
        refine ⟨_, rfl, f1.ur (by simp) _, fun v hv => ?_⟩
        rw [ur_s]
        unfold Bz Bh
        simp only [cl, Bool.false_eq_true, if_false, c2', c6', if_true]
        by_cases e : v = px P k
        · subst e
          rw [upd_n _ _ (Ne.symm c6'.2), upd_s]
          exact mkb_ext (fun b _ => by simp)
        · by_cases e2 : v = pv P k
          · subst e2; rw [upd_s]; exact mkb_ext (fun b _ => by simp [e])
          · rw [upd_n _ _ e2, upd_n _ _ e, e21 v hv]; exact mkb_ext (fun b _ => by simp [e, e2])
      · rw [if_neg c6']
        refine ⟨_, rfl, f1, fun v hv => ?_⟩
        rw [e21 v hv]
        unfold Bz Bh
        exact mkb_ext (fun b _ => by simp [cl, c2', c6'])
theorem x_held1 (hX : LX P s) (hN : NX P s) (ho : pOK P) (h : HS P s H W t) {k : Nat} (hk : k < pn P) : ∃ t' H' W', f_X3_findHeld_L72 (nI k) t = some (.inl (nI (k + 1), t')) ∧ HS P s H' W' t' ∧ ((W k = false ∧ H' = H ∧ W' = W) ∨ (W k = true ∧ (∀ i b, H' i b = (H i b || ((decide (on P k = some (i / 8)) || decide (asd P k = some (i / 8))) && Bz P H k (i % 8) b))) ∧ (∀ j, j ≠ k → W j = true → W' j = true) ∧ (∀ j, W' j = true → W j = true ∧ j ≠ k ∨ nx P k j = true) ∧ (∀ j, nx P k j = true → W' j = false → ∀ v, v < 8 → ∀ b, b < 25 → Bz P H k v b = true → H (8 * j + v) b = true))) := by
  have hn := ho.1
  have hXt : LX P t := hX.fx h.1 (by simp)
  have ik : inb (nI k) 24 := inb_n (by omega) (by omega)
  unfold f_X3_findHeld_L72
  rw [hXt.1, if_neg (nI_ge hk (by omega)), h.2.2.2, x_hasBit (by omega), ob_e]
  simp only [bi_z0]
  cases hw : W k with
  | false =>
    refine ⟨t, H, W, ?_, h, Or.inl ⟨rfl, rfl, rfl⟩⟩
    simp [ob, lb, nI_1]
  | true =>
    simp only [Bool.true_eq_false, if_false, mkb_one (show k < 25 by omega), mkb_nand, lb_e]
    generalize ht1 : ur t 19 (upd (t 19) 6 (mkb (fun i => W i && !decide (i = k)))) = t1
    have h1 : HS P s H (fun i => W i && !decide (i = k)) t1 := by
      rw [← ht1]
      exact ⟨h.1.ur (by simp) _, fun j hj => by rw [ur_s, upd_n _ _ hj]; exact h.2.1 j hj, fun i hi => by rw [ur_n _ _ (by omega)]; exact h.2.2.1 i hi, by rw [ur_s, upd_s]⟩
    obtain ⟨t2, a1, a2, a3⟩ := x_stepBehind (hX.fx h1.1 (by simp)) ho hk h1.2.2.1
    have h2 : HS P s H (fun i => W i && !decide (i = k)) t2 := ⟨h1.1.tr (a2.mo (by simp)), fun j hj => by rw [a2 19 (by simp)]; exact h1.2.1 j hj, fun i hi => by rw [a2 20 (by simp)]; exact h1.2.2.1 i hi, by rw [a2 19 (by simp)]; exact h1.2.2.2⟩
    rw [a1, ob_e, gu_t ik, ix_n (by omega), h2.1 12 (by simp), (hN.2 k hk).1]
    obtain ⟨t3, H3, W3, b1, b2, b3, b4, b5, b6, b7⟩ := x_join h2 ho (q := on P k) (fun m hm => on_lt hm) a3
    rw [b1, ob_e, gu_t ik, b2.1 13 (by simp), (hN.2 k hk).2]
    obtain ⟨t4, H4, W4, d1, d2, d3, d4, d5, d6, d7⟩ := x_join b2 ho (q := asd P k) (fun m hm => asd_lt hm) (Z := Bz P H k) (fun v hv => by rw [b3]; exact a3 v hv)
    rw [d1]
    refine ⟨t4, H4, W4, by simp only [ob_e, lb_e, nI_1], d2, Or.inr ⟨trivial, fun i b => ?_, fun j hj hwj => ?_, fun j hj => ?_, fun j hj hwj v hv b hb hz => ?_⟩⟩
    · rw [d4, b4]
      cases H i b <;> cases decide (on P k = some (i / 8)) <;> cases decide (asd P k = some (i / 8)) <;> cases Bz P H k (i % 8) b <;> rfl
    · exact d5 j (b5 j (by simp [hwj, hj]))
    · rcases d6 j hj with q | q
      · rcases b6 j q with q | q
        · simp only [Bool.and_eq_true, Bool.not_eq_true', decide_eq_false_iff_not] at q
          exact Or.inl q
        · exact Or.inr ((nx_on P k j).mpr (Or.inl q))
      · exact Or.inr ((nx_on P k j).mpr (Or.inr q))
    · have w3 : W3 j = false := by
        cases e : W3 j
        · rfl
        · rw [d5 j e] at hwj; cases hwj
      by_cases q : on P k = some j
      · exact b7 j q w3 v hv b hb hz
      · have q2 : asd P k = some j := by
          rcases (nx_on P k j).mp hj with e | e
          · exact absurd e q
          · exact e
        have := d7 j q2 hwj v hv b hb hz
        rw [b4] at this
        simp only [show (8 * j + v) / 8 = j by omega, q, decide_false, Bool.false_and, Bool.or_false] at this
        exact this
end XH
