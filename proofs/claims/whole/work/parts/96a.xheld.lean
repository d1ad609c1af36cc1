def full (H : Nat → Bf) (k : Nat) : Prop := ∀ v, v < 8 → ∃ b, b < 25 ∧ H (8 * k + v) b = true
def SI (P : Pg) (H : Nat → Bf) (W : Bf) : Prop := (∀ k, k < pn P → W k = true → full H k) ∧ (∀ k, k < pn P → full H k ∨ ∀ v, v < 8 → ∀ b, b < 25 → H (8 * k + v) b = false) ∧ (∀ k, k < pn P → full H k → Rc P k = true) ∧ (∀ k, k < pn P → full H k → W k = false → ∀ m, nx P k m = true → ∀ v, v < 8 → ∀ b, b < 25 → Bz P H k v b = true → H (8 * m + v) b = true) ∧ (∀ b, b < 25 → ∀ C, Cl (FH P b) (bH P b) (8 * pn P) C → ∀ i, i < 8 * pn P → H i b = true → C i = true) ∧ (∀ b, b < 25 → ∀ i, bH P b i = true → H i b = true)
theorem SI.a {P : Pg} {H : Nat → Bf} {W : Bf} (h : SI P H W) : ∀ k, k < pn P → W k = true → full H k := h.1
theorem SI.b {P : Pg} {H : Nat → Bf} {W : Bf} (h : SI P H W) : ∀ k, k < pn P → full H k ∨ ∀ v, v < 8 → ∀ b, b < 25 → H (8 * k + v) b = false := h.2.1
theorem SI.c {P : Pg} {H : Nat → Bf} {W : Bf} (h : SI P H W) : ∀ k, k < pn P → full H k → Rc P k = true := h.2.2.1
theorem SI.d {P : Pg} {H : Nat → Bf} {W : Bf} (h : SI P H W) : ∀ k, k < pn P → full H k → W k = false → ∀ m, nx P k m = true → ∀ v, v < 8 → ∀ b, b < 25 → Bz P H k v b = true → H (8 * m + v) b = true := h.2.2.2.1
theorem SI.e {P : Pg} {H : Nat → Bf} {W : Bf} (h : SI P H W) : ∀ b, b < 25 → ∀ C, Cl (FH P b) (bH P b) (8 * pn P) C → ∀ i, i < 8 * pn P → H i b = true → C i = true := h.2.2.2.2.1
theorem SI.f {P : Pg} {H : Nat → Bf} {W : Bf} (h : SI P H W) : ∀ b, b < 25 → ∀ i, bH P b i = true → H i b = true := h.2.2.2.2.2
section XS
variable {P : Pg} {H H' : Nat → Bf} {W W' : Bf}
theorem Bz_le (ho : pOK P) {k v b : Nat} (hv : v < 8) (h : ∀ v, v < 8 → H (8 * k + v) b = true → H' (8 * k + v) b = true) (e : Bz P H k v b = true) : Bz P H' k v b = true := by
  have hp := pv_lt ho k
  have hv1 := h v hv
  have hp1 := h (pv P k) hp
  unfold Bz Bh at e ⊢
  by_cases c1 : lnd P k = true
  · by_cases c2 : v = px P k
    · rw [if_pos c1, if_pos c2] at e ⊢; exact e
    · rw [if_pos c1, if_neg c2] at e ⊢; exact hv1 e
  · rw [if_neg c1] at e ⊢
    by_cases c2 : pk P k = 2
    · rw [if_pos c2] at e ⊢
      by_cases c3 : v = pv P k ∧ thr P k = false
      · rw [if_pos c3] at e ⊢; exact e
      · rw [if_neg c3] at e ⊢; exact hv1 e
    · rw [if_neg c2] at e ⊢
      by_cases c3 : pk P k = 6 ∧ ¬ pv P k = px P k
      · rw [if_pos c3] at e ⊢
        by_cases c4 : v = px P k
        · rw [if_pos c4] at e ⊢; exact hp1 e
        · rw [if_neg c4] at e ⊢
          by_cases c5 : v = pv P k
          · rw [if_pos c5] at e ⊢; exact e
          · rw [if_neg c5] at e ⊢; exact hv1 e
      · rw [if_neg c3] at e ⊢; exact hv1 e
theorem Bz_full (ho : pOK P) {k v : Nat} (hk : k < pn P) (hv : v < 8) (h : full H k) : ∃ b, b < 25 ∧ Bz P H k v b = true := by
  have hn := ho.1
  have hp := pv_lt ho k
  unfold Bz Bh
  by_cases c1 : lnd P k = true
  · by_cases c2 : v = px P k
    · exact ⟨k, by omega, by simp [c1, c2]⟩
    · obtain ⟨b, hb, e⟩ := h v hv
      exact ⟨b, hb, by simp [c1, c2, e]⟩
  · by_cases c2 : pk P k = 2
    · by_cases c3 : v = pv P k ∧ thr P k = false
      · exact ⟨24, by omega, by rw [if_neg c1, if_pos c2, if_pos c3]; rfl⟩
      · obtain ⟨b, hb, e⟩ := h v hv
        exact ⟨b, hb, by rw [if_neg c1, if_pos c2, if_neg c3]; exact e⟩
    · by_cases c3 : pk P k = 6 ∧ ¬ pv P k = px P k
      · by_cases c4 : v = px P k
        · obtain ⟨b, hb, e⟩ := h (pv P k) hp
          exact ⟨b, hb, by rw [if_neg c1, if_neg c2, if_pos c3, if_pos c4]; exact e⟩
        · by_cases c5 : v = pv P k
          · exact ⟨24, by omega, by rw [if_neg c1, if_neg c2, if_pos c3, if_neg c4, if_pos c5]; rfl⟩
          · obtain ⟨b, hb, e⟩ := h v hv
            exact ⟨b, hb, by rw [if_neg c1, if_neg c2, if_pos c3, if_neg c4, if_neg c5]; exact e⟩
      · obtain ⟨b, hb, e⟩ := h v hv
        exact ⟨b, hb, by rw [if_neg c1, if_neg c2, if_neg c3]; exact e⟩
theorem Rc_nx {k m : Nat} (hk : k < pn P) (h : Rc P k = true) (hx : nx P k m = true) : Rc P m = true := (lfp_cl (FR_mon P)).2 m (nx_lt hx) (ex_iff.mpr ⟨k, hk, by rw [Bool.and_eq_true]; exact ⟨h, hx⟩⟩)
theorem SI.step (ho : pOK P) (h : SI P H W) {k : Nat} (hk : k < pn P) (hw : W k = true) (h1 : ∀ i b, H' i b = (H i b || ((decide (on P k = some (i / 8)) || decide (asd P k = some (i / 8))) && Bz P H k (i % 8) b))) (h2 : ∀ j, j ≠ k → W j = true → W' j = true) (h3 : ∀ j, W' j = true → W j = true ∧ j ≠ k ∨ nx P k j = true) (h4 : ∀ j, nx P k j = true → W' j = false → ∀ v, v < 8 → ∀ b, b < 25 → Bz P H k v b = true → H (8 * j + v) b = true) : SI P H' W' ∧ (∀ i b, H i b = true → H' i b = true) ∧ (∀ m, nx P k m = true → ∀ v, v < 8 → ∀ b, b < 25 → Bz P H k v b = true → H' (8 * m + v) b = true) := by
  have up : ∀ i b, H i b = true → H' i b = true := fun i b e => by rw [h1, e]; rfl
  have con : ∀ m, nx P k m = true → ∀ v, v < 8 → ∀ b, b < 25 → Bz P H k v b = true → H' (8 * m + v) b = true := fun m hm v hv b hb e => by
    rw [h1, show (8 * m + v) / 8 = m by omega, show (8 * m + v) % 8 = v by omega, e]
    rcases (nx_on P k m).mp hm with q | q <;> simp [q]
  have dn : ∀ i b, H' i b = true → H i b = true ∨ (nx P k (i / 8) = true ∧ Bz P H k (i % 8) b = true) := fun i b e => by
    rw [h1] at e
    simp only [Bool.or_eq_true, Bool.and_eq_true, decide_eq_true_eq] at e
    rcases e with e | ⟨e, e2⟩
    · exact Or.inl e
    · exact Or.inr ⟨(nx_on P k _).mpr e, e2⟩
  have fk := h.a k hk hw
  have fu : ∀ j, full H j → full H' j := fun j hf v hv => by
    obtain ⟨b, hb, e⟩ := hf v hv
    exact ⟨b, hb, up _ _ e⟩
  have fn : ∀ j, nx P k j = true → full H' j := fun j hj v hv => by
    obtain ⟨b, hb, e⟩ := Bz_full ho hk hv fk
    exact ⟨b, hb, con j hj v hv b hb e⟩
  have row : ∀ j, nx P k j = false → ∀ v, v < 8 → ∀ b, H' (8 * j + v) b = true → H (8 * j + v) b = true := fun j hj v hv b e => by
    rcases dn _ _ e with e | ⟨e, -⟩
    · exact e
    · rw [show (8 * j + v) / 8 = j by omega, hj] at e; cases e
  have rowW : ∀ j, W' j = false → ∀ v, v < 8 → ∀ b, b < 25 → H' (8 * j + v) b = true → H (8 * j + v) b = true := fun j hj v hv b hb e => by
    cases q : nx P k j with
    | false => exact row j q v hv b e
    | true =>
      rcases dn _ _ e with e | ⟨-, e⟩
      · exact e
      · rw [show (8 * j + v) % 8 = v by omega] at e
        exact h4 j q hj v hv b hb e
  refine ⟨⟨fun j hj hwj => ?_, fun j hj => ?_, fun j hj hf => ?_, fun j hj hf hwj m hm v hv b hb e => ?_, fun b hb C hC i hi e => ?_, fun b hb i e => up _ _ (h.f b hb i e)⟩, up, con⟩
  · rcases h3 j hwj with q | q
    · exact fu j (h.a j hj q.1)
    · exact fn j q
  · cases q : nx P k j with
    | true => exact Or.inl (fn j q)
    | false =>
      rcases h.b j hj with f | f
      · exact Or.inl (fu j f)
      · refine Or.inr (fun v hv b hb => ?_)
        cases e : H' (8 * j + v) b with
        | false => rfl
        | true => rw [← f v hv b hb]; exact (row j q v hv b e).symm
  · cases q : nx P k j with
    | true => exact Rc_nx hk (h.c k hk fk) q
    | false =>
      rcases h.b j hj with f | f
      · exact h.c j hj f
      · obtain ⟨b, hb, e⟩ := hf 0 (by omega)
        have := row j q 0 (by omega) b e
        rw [f 0 (by omega) b hb] at this; cases this
  · have hB : Bz P H j v b = true := Bz_le ho hv (fun v' hv' e' => rowW j hwj v' hv' b hb e') e
    by_cases q : j = k
    · subst q; exact con m hm v hv b hb hB
    · have fj : full H j := fun v' hv' => by
        obtain ⟨b', hb', e'⟩ := hf v' hv'
        exact ⟨b', hb', rowW j hwj v' hv' b' hb' e'⟩
      have wj : W j = false := by
        cases w : W j with
        | false => rfl
        | true => rw [h2 j q w] at hwj; cases hwj
      exact up _ _ (h.d j hj fj wj m hm v hv b hb hB)
  · rcases dn i b e with e | ⟨e1, e2⟩
    · exact h.e b hb C hC i hi e
    · refine hC.2 i hi ?_
      simp only [FH, Bool.and_eq_true, decide_eq_true_eq]
      refine ⟨hi, ex_iff.mpr ⟨k, hk, ?_⟩⟩
      simp only [Bool.and_eq_true]
      exact ⟨⟨h.c k hk fk, e1⟩, Bh_mon ho (N := 8 * pn P) (by omega) (Nat.mod_lt _ (by omega)) (fun i hi e => h.e b hb C hC i hi e) e2⟩
theorem x_sweep {s t : sh_S} (hX : LX P s) (hN : NX P s) (ho : pOK P) (h : HS P s H W t) (hS : SI P H W) : ∃ t' H' W', lp (fun q : Int32 × sh_S => f_X3_findHeld_L72 q.1 q.2) FU ((0 : Int32), t) = some t' ∧ HS P s H' W' t' ∧ SI P H' W' ∧ (∀ i b, H i b = true → H' i b = true) ∧ (∀ k, k < pn P → full H k → ∀ m, nx P k m = true → ∀ v, v < 8 → ∀ b, b < 25 → Bz P H k v b = true → H' (8 * m + v) b = true) := by
  have hn := ho.1
  have hh := lp_for (body := fun q : Int32 × sh_S => f_X3_findHeld_L72 q.1 q.2) (fun j (a : sh_S × (Nat → Bf) × Bf) => (nI j, a.1)) (pn P)
    (fun j a => HS P s a.2.1 a.2.2 a.1 ∧ SI P a.2.1 a.2.2 ∧ (∀ i b, H i b = true → a.2.1 i b = true) ∧ (∀ k, k < pn P → j ≤ k → W k = true → a.2.2 k = true) ∧ (∀ k, k < pn P → full H k → (k < j ∨ W k = false) → ∀ m, nx P k m = true → ∀ v, v < 8 → ∀ b, b < 25 → Bz P H k v b = true → a.2.1 (8 * m + v) b = true))
    (fun e => ∃ H' W', HS P s H' W' e ∧ SI P H' W' ∧ (∀ i b, H i b = true → H' i b = true) ∧ (∀ k, k < pn P → full H k → ∀ m, nx P k m = true → ∀ v, v < 8 → ∀ b, b < 25 → Bz P H k v b = true → H' (8 * m + v) b = true))
    (fun j a hj ⟨i1, i2, i3, i4, i5⟩ => by
      obtain ⟨t1, H1, W1⟩ := a
      simp only at i1 i2 i3 i4 i5
      obtain ⟨t2, H2, W2, a1, a2, a3⟩ := x_held1 hX hN ho i1 hj
      rcases a3 with ⟨b1, rfl, rfl⟩ | ⟨b1, b2, b3, b4, b5⟩
      · refine ⟨(t2, H2, W2), a1, a2, i2, i3, fun k hk hjk hw => i4 k hk (by omega) hw, fun k hk hf hd m hm v hv b hb e => ?_⟩
        refine i5 k hk hf ?_ m hm v hv b hb e
        by_cases q : k = j
        · subst q
          right
          cases w : W k with
          | false => rfl
          | true => rw [i4 k hk (Nat.le_refl _) w] at b1; cases b1
        · rcases hd with hd | hd
          · left; omega
          · exact Or.inr hd
      · obtain ⟨c1, c2, c3⟩ := i2.step ho hj b1 b2 b3 b4 b5
        refine ⟨(t2, H2, W2), a1, a2, c1, fun i b e => c2 _ _ (i3 i b e), fun k hk hjk hw => b3 k (by omega) (i4 k hk (by omega) hw), fun k hk hf hd m hm v hv b hb e => ?_⟩
        by_cases q : k = j
        · subst q
          exact c3 m hm v hv b hb (Bz_le ho hv (fun v' _ e' => i3 _ _ e') e)
        · refine c2 _ _ (i5 k hk hf ?_ m hm v hv b hb e)
          rcases hd with hd | hd
          · left; omega
          · exact Or.inr hd)
    (fun a ⟨i1, i2, i3, i4, i5⟩ => ⟨a.1, by
      show f_X3_findHeld_L72 (nI (pn P)) a.1 = _
      unfold f_X3_findHeld_L72
      rw [(hX.fx i1.1 (by simp)).1, if_pos (nI_le (Nat.le_refl _) (by omega))], a.2.1, a.2.2, i1, i2, i3, fun k hk hf => i5 k hk hf (Or.inl hk)⟩)
    FU 0 (t, H, W) (Nat.zero_le _) ⟨h, hS, fun _ _ e => e, fun _ _ _ w => w, fun k hk hf hd m hm v hv b hb e => by
      rcases hd with hd | hd
      · omega
      · exact hS.d k hk hf hd m hm v hv b hb e⟩ (FU_gt (by omega))
  obtain ⟨e, h1, H', W', h2⟩ := hh
  exact ⟨e, H', W', h1, h2⟩
theorem itr_mono {F : Bf → Bf} {b : Bf} {x : Nat} {i j : Nat} (h : i ≤ j) (e : itr F b i x = true) : itr F b j x = true := by
  induction j with
  | zero => have : i = 0 := by omega
            subst this; exact e
  | succ j ih =>
    by_cases q : i = j + 1
    · subst q; exact e
    · show (itr F b j x || _) = true
      rw [ih (by omega)]; rfl
def RH (P : Pg) (r : Nat) (H : Nat → Bf) (W : Bf) : Prop := SI P H W ∧ (∀ x, x < pn P → itr (FR P) (bR P) r x = true → full H x) ∧ ∀ b, b < 25 → ∀ d, pn P + d ≤ r → ∀ i, i < 8 * pn P → itr (FH P b) (bH P b) d i = true → H i b = true
theorem RH.step (ho : pOK P) {r : Nat} (h : RH P r H W) (h1 : SI P H' W') (h2 : ∀ i b, H i b = true → H' i b = true) (h3 : ∀ k, k < pn P → full H k → ∀ m, nx P k m = true → ∀ v, v < 8 → ∀ b, b < 25 → Bz P H k v b = true → H' (8 * m + v) b = true) : RH P (r + 1) H' W' := by
  obtain ⟨g1, g2, g3⟩ := h
  refine ⟨h1, fun x hx hi => ?_, fun b hb d hd i hi e => ?_⟩
  · have hi' : (itr (FR P) (bR P) r x || FR P (itr (FR P) (bR P) r) x) = true := hi
    rcases Bool.or_eq_true _ _ |>.mp hi' with q | q
    · intro v hv
      obtain ⟨b, hb, e⟩ := g2 x hx q v hv
      exact ⟨b, hb, h2 _ _ e⟩
    · obtain ⟨m, hm, e⟩ := ex_iff.mp q
      rw [Bool.and_eq_true] at e
      have fm := g2 m hm e.1
      intro v hv
      obtain ⟨b, hb, e2⟩ := Bz_full ho hm hv fm
      exact ⟨b, hb, h3 m hm fm x e.2 v hv b hb e2⟩
  · cases d with
    | zero => exact h1.f b hb i e
    | succ d =>
      have ih := g3 b hb d (by omega)
      have e' : (itr (FH P b) (bH P b) d i || FH P b (itr (FH P b) (bH P b) d) i) = true := e
      rcases Bool.or_eq_true _ _ |>.mp e' with q | q
      · exact h2 _ _ (ih i hi q)
      · simp only [FH, Bool.and_eq_true, decide_eq_true_eq] at q
        obtain ⟨k, hk, e2⟩ := ex_iff.mp q.2
        simp only [Bool.and_eq_true] at e2
        have fk : full H k := g2 k hk (itr_mono (i := pn P) (by omega) e2.1.1)
        have hB : Bz P H k (i % 8) b = true := Bh_mon ho (N := 8 * pn P) (by omega) (Nat.mod_lt _ (by omega)) ih e2.2
        have := h3 k hk fk (i / 8) e2.1.2 (i % 8) (Nat.mod_lt _ (by omega)) b hb hB
        rwa [show 8 * (i / 8) + i % 8 = i by omega] at this
theorem SI.done (ho : pOK P) (h : SI P H W) (hc : ∀ b, b < 25 → ∀ i, i < 8 * pn P → lfp (FH P b) (bH P b) (8 * pn P) i = true → H i b = true) : ∀ i, i < 8 * pn P → ∀ b, b < 25 → H i b = Ho P i b := fun i hi b hb => by
  apply tt
  exact ⟨fun e => h.e b hb _ (lfp_cl (FH_mon ho b)) i hi e, fun e => hc b hb i hi e⟩
theorem SI.rest (ho : pOK P) (h : SI P H W) (hw : ∀ k, k < 25 → W k = false) (h0 : 0 < pn P → full H 0) : ∀ b, b < 25 → ∀ i, i < 8 * pn P → lfp (FH P b) (bH P b) (8 * pn P) i = true → H i b = true := by
  have hn := ho.1
  have fR : ∀ x, x < pn P → Rc P x = true → full H x := by
    intro x hx hr
    haveI : ∀ k, Decidable (full H k) := fun k => Classical.propDecidable _
    have := lfp_le (C := fun k => decide (full H k)) (FR_mon P) (b := bR P) ⟨fun x hx e => by
      simp only [bR, Bool.and_eq_true, decide_eq_true_eq] at e
      rw [e.1]
      exact decide_eq_true (h0 e.2), fun x hx e => by
      obtain ⟨m, hm, e⟩ := ex_iff.mp e
      rw [Bool.and_eq_true] at e
      have fm : full H m := of_decide_eq_true e.1
      refine decide_eq_true (fun v hv => ?_)
      obtain ⟨b, hb, e2⟩ := Bz_full ho hm hv fm
      exact ⟨b, hb, h.d m hm fm (hw m (by omega)) x e.2 v hv b hb e2⟩⟩ x hx hr
    exact of_decide_eq_true this
  intro b hb i hi e
  refine lfp_le (C := fun i => H i b) (FH_mon ho b) ⟨fun i hi e => h.f b hb i e, fun i hi e => ?_⟩ i hi e
  simp only [FH, Bool.and_eq_true, decide_eq_true_eq] at e
  obtain ⟨k, hk, e2⟩ := ex_iff.mp e.2
  simp only [Bool.and_eq_true] at e2
  have := h.d k hk (fR k hk e2.1.1) (hw k (by omega)) (i / 8) e2.1.2 (i % 8) (Nat.mod_lt _ (by omega)) b hb e2.2
  rwa [show 8 * (i / 8) + i % 8 = i by omega] at this
theorem x_findHeld {s : sh_S} (hX : LX P s) (hN : NX P s) (ho : pOK P) : ∃ s', f_X3_findHeld s = some s' ∧ Fx [19, 20, 21] s s' ∧ (∀ j, j ≠ 6 → s' 19 j = s 19 j) ∧ ∀ i, i < 8 * pn P → s' 20 i = mkb (Ho P i) := by
  have hn := ho.1
  unfold f_X3_findHeld
  have hh := lp_for (body := fun q : Int32 × sh_S => f_X3_findHeld_L2 q.1 q.2) (fun j (t : sh_S) => (nI j, t)) (8 * pn P)
    (fun j t => Fx [20] s t ∧ ∀ i, i < j → t 20 i = mkb (fun b => decide (i < 8) && decide (b = 24)))
    (fun e => Fx [20] s e ∧ ∀ i, i < 8 * pn P → e 20 i = mkb (fun b => decide (i < 8) && decide (b = 24)))
    (fun j t hj ⟨i1, i2⟩ => by
      have ij : inb (nI j) 192 := inb_n (by omega) (by omega)
      refine ⟨ur t 20 (upd (t 20) j (mkb (fun b => decide (j < 8) && decide (b = 24)))), ?_, i1.ur (by simp) _, fun i hi => ?_⟩
      · show f_X3_findHeld_L2 (nI j) t = _
        unfold f_X3_findHeld_L2
        rw [(hX.fx i1 (by simp)).1, mul8, if_neg (nI_ge hj (by omega))]
        simp only [gu_t ij, ix_n (show j < 2 ^ 31 by omega), lb_e, nI_1]
        by_cases q : j < 8
        · rw [if_neg (show ¬ (8 : Int32) ≤ nI j from nI_ge (b := 8) q (by omega)), ob_e, mkb_V]
          simp [q]
        · rw [if_pos (show (8 : Int32) ≤ nI j from nI_le (a := 8) (by omega) (by omega)), ob_e, mkb_0]
          simp [q]
      · rw [ur_s]
        by_cases q : i = j
        · subst q; rw [upd_s]
        · rw [upd_n _ _ q]; exact i2 i (by omega))
    (fun t hi => ⟨t, by
      show f_X3_findHeld_L2 (nI (8 * pn P)) t = _
      unfold f_X3_findHeld_L2
      rw [(hX.fx hi.1 (by simp)).1, mul8, if_pos (nI_le (Nat.le_refl _) (by omega))], hi⟩)
    FU 0 s (Nat.zero_le _) ⟨Fx.rf, fun j hj => by omega⟩ (FU_gt (by omega))
  obtain ⟨s2, h1, g1, g2⟩ := hh
  have h1' : lp (fun q : Int32 × sh_S => f_X3_findHeld_L2 q.1 q.2) FU ((0 : Int32), s) = some s2 := h1
  rw [h1', ob_e, (hX.fx g1 (by simp)).1]
  have e0 : (if nI (pn P) ≤ 0 then some (0 : Int32) else some 1) = some (mkb (bR P)) := by
    by_cases e : pn P = 0
    · rw [e, if_pos (by decide), mkb_0]
      exact congrArg some (mkb_ext (fun i _ => by simp [bR, e]))
    · have q : ¬ nI (pn P) ≤ (0 : Int32) := (nI_ge (by omega) (by omega) : ¬ nI (pn P) ≤ nI 0)
      rw [if_neg q, show (1 : Int32) = 1 <<< (nI 0 &&& 31) by decide, mkb_one (by omega)]
      exact congrArg some (mkb_ext (fun i _ => by simp [bR, show 0 < pn P by omega]))
  rw [e0, ob_e, lb_e]
  generalize hs3 : ur s2 19 (upd (s2 19) 6 (mkb (bR P))) = s3
  have H0 : HS P s (fun i b => decide (i < 8) && decide (b = 24)) (bR P) s3 := by
    rw [← hs3]
    exact ⟨(g1.mo (by simp)).ur (by simp) _, fun j hj => by rw [ur_s, upd_n _ _ hj, g1 19 (by simp)], fun i hi => by rw [ur_n _ _ (by omega)]; exact g2 i hi, by rw [ur_s, upd_s]⟩
  have f0 : full (fun i b => decide (i < 8) && decide (b = 24)) 0 := fun v hv => ⟨24, by omega, by simp [hv]⟩
  have S0 : SI P (fun i b => decide (i < 8) && decide (b = 24)) (bR P) := by
    have nf : ∀ k, 0 < k → ∀ v b : Nat, (decide (8 * k + v < 8) && decide (b = 24)) = false := fun k hk v b => by
      simp; omega
    refine ⟨fun k hk hw => ?_, fun k hk => ?_, fun k hk hf => ?_, fun k hk hf hw => ?_, fun b hb C hC i hi e => ?_, fun b hb i e => ?_⟩
    · simp only [bR, Bool.and_eq_true, decide_eq_true_eq] at hw
      rw [hw.1]; exact f0
    · by_cases q : k = 0
      · subst q; exact Or.inl f0
      · exact Or.inr (fun v hv b hb => nf k (by omega) v b)
    · by_cases q : k = 0
      · subst q
        exact (lfp_cl (FR_mon P)).1 0 hk (by simp [bR, hk])
      · obtain ⟨b, hb, e⟩ := hf 0 (by omega)
        exact absurd ((nf k (by omega) 0 b).symm.trans e) (by simp)
    · by_cases q : k = 0
      · subst q
        simp [bR, hk] at hw
      · obtain ⟨b, hb, e⟩ := hf 0 (by omega)
        exact absurd ((nf k (by omega) 0 b).symm.trans e) (by simp)
    · simp only [Bool.and_eq_true, decide_eq_true_eq] at e
      refine hC.1 i hi ?_
      simp only [bH, Bool.and_eq_true, decide_eq_true_eq]
      omega
    · simp only [bH, Bool.and_eq_true, decide_eq_true_eq] at e
      simp [e]
  have hh := lp_fx (body := fun q : Int32 × sh_S => f_X3_findHeld_L55 q.1 q.2) (fun r (a : sh_S × (Nat → Bf) × Bf) => (nI r, a.1)) 1000
    (fun r a => HS P s a.2.1 a.2.2 a.1 ∧ RH P r a.2.1 a.2.2)
    (fun e => Fx [19, 20, 21] s e ∧ (∀ j, j ≠ 6 → e 19 j = s 19 j) ∧ ∀ i, i < 8 * pn P → e 20 i = mkb (Ho P i))
    (fun r a hr ⟨i1, i2⟩ => by
      obtain ⟨t1, H1, W1⟩ := a
      simp only at i1 i2
      by_cases e : mkb W1 = 0
      · refine Or.inr ⟨t1, ?_, i1.1, i1.2.1, fun i hi => ?_⟩
        · show f_X3_findHeld_L55 (nI r) t1 = _
          unfold f_X3_findHeld_L55
          rw [i1.2.2.2, if_pos e]
        · rw [i1.2.2.1 i hi]
          refine mkb_ext (fun b hb => i2.1.done ho (i2.1.rest ho (fun k hk => mkb_z.mp e k hk) (fun h0 v hv => ?_)) i hi b hb)
          exact ⟨24, by omega, i2.1.f 24 (by omega) _ (by simp [bH, hv, h0])⟩
      · obtain ⟨t2, H2, W2, a1, a2, a3, a4, a5⟩ := x_sweep hX hN ho i1 i2.1
        refine Or.inl ⟨(t2, H2, W2), ?_, a2, i2.step ho a3 a4 a5⟩
        show f_X3_findHeld_L55 (nI r) t1 = _
        unfold f_X3_findHeld_L55
        rw [i1.2.2.2, if_neg e, if_neg (show ¬ (1000 : Int32) ≤ nI r from nI_ge (b := 1000) hr (by omega)), a1, ob_e, lb_e, nI_1])
    (fun a ⟨i1, i2⟩ => by
      refine ⟨a.1, ?_, i1.1, i1.2.1, fun i hi => ?_⟩
      · show f_X3_findHeld_L55 (nI 1000) a.1 = _
        unfold f_X3_findHeld_L55
        rw [if_pos (show (1000 : Int32) ≤ nI 1000 by decide)]
        split <;> rfl
      · rw [i1.2.2.1 i hi]
        exact mkb_ext (fun b hb => i2.1.done ho (fun b hb i hi e => i2.2.2 b hb (8 * pn P) (by omega) i hi e) i hi b hb))
    FU 0 (s3, (fun i b => decide (i < 8) && decide (b = 24)), bR P) (Nat.zero_le _) ⟨H0, S0, fun x hx e => by
      simp only [itr, bR, Bool.and_eq_true, decide_eq_true_eq] at e
      rw [e.1]; exact f0, fun b hb d hd i hi e => by omega⟩ (FU_gt (n := 1000) (by omega))
  obtain ⟨s4, h2, g3⟩ := hh
  have h2' : lp (fun q : Int32 × sh_S => f_X3_findHeld_L55 q.1 q.2) FU ((0 : Int32), s3) = some s4 := h2
  rw [h2', ob_e]
  exact ⟨s4, rfl, g3⟩
end XS
