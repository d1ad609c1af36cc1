theorem itr_base {F : Bf → Bf} {b : Bf} {x : Nat} (h : b x = true) : ∀ r, itr F b r x = true
  | 0 => h
  | r + 1 => by show (itr F b r x || _) = true; rw [itr_base h r]; rfl
theorem RI.closed {F : Bf → Bf} {b g : Bf} {N r : Nat} (hF : Mon F N) (hl : ∀ f x, F f x = true → x < N) (hb : ∀ x, b x = true → x < N) (h : RI F b N r g) (hc : ∀ x, x < N → F g x = true → g x = true) : ∀ x, g x = lfp F b N x := by
  intro x
  by_cases hx : x < N
  · exact lfp_eq hF ⟨fun y hy hby => h.1 y hy (itr_base hby r), hc⟩ (fun C hC y _ hy => h.2.1 C hC (fun z hz => hC.1 z (hb z hz) hz) y hy) x hx
  · exact tt ⟨fun q => absurd (h.2.2 x q) hx, fun q => absurd (itr_lt hl hb _ x q) hx⟩
section HO
variable {P : Pg} {m : sh_S}
theorem mH_59 (h : PM P m) (ho : pOK P) (hr : m 0 5 = mkb (Rc P)) (H : Nat → Bf) :
    ∃ S fl, lp (fun q : Int32 × Int32 × sh_S => f_X10_findsHolding_L59 q.1 q.2.1 q.2.2) FU ((0 : Int32), (0 : Int32), ur m 7 (rowH m H)) = some (bi fl, ur m 7 (rowH m S)) ∧ (∀ b, GS (FH P b) (8 * pn P) (fun i => H i b) (fun i => S i b)) ∧ (fl = false → ∀ i, i < 192 → ∀ b, b < 25 → S i b = H i b) := by
  have hn := ho.1
  have hh := lp_for (body := fun q : Int32 × Int32 × sh_S => f_X10_findsHolding_L59 q.1 q.2.1 q.2.2) (fun k (a : Bool × (Nat → Bf)) => (bi a.1, nI k, ur m 7 (rowH m a.2))) (pn P)
    (fun k a => (∀ b, (∀ i, H i b = true → a.2 i b = true) ∧ (∀ j t v, j < k → Rc P j = true → v < 8 → nx P j t = true → Bh P j v b (fun i => H i b) = true → a.2 (8 * t + v) b = true) ∧ ∀ C : Bf, (∀ i, i < 8 * pn P → FH P b C i = true → C i = true) → (∀ i, H i b = true → C i = true) → ∀ i, a.2 i b = true → C i = true) ∧ (a.1 = false → ∀ i, i < 192 → ∀ b, b < 25 → a.2 i b = H i b))
    (fun e => ∃ S fl, e = (bi fl, ur m 7 (rowH m S)) ∧ (∀ b, GS (FH P b) (8 * pn P) (fun i => H i b) (fun i => S i b)) ∧ (fl = false → ∀ i, i < 192 → ∀ b, b < 25 → S i b = H i b))
    (fun k a hk hi => by
      obtain ⟨fl, S⟩ := a
      have hi := hi
      simp only at hi
      have er : ur m 7 (rowH m S) 0 5 = mkb (Rc P) := by rw [ur_n _ _ (by omega)]; exact hr
      have e0 : ur m 7 (rowH m S) 0 0 = nI (pn P) := by rw [ur_n _ _ (by omega)]; exact h.1
      cases hc : Rc P k with
      | false =>
        refine ⟨(fl, S), ?_, fun b => ⟨(hi.1 b).1, fun j t v hj hrj hv hn' hb' => ?_, (hi.1 b).2.2⟩, hi.2⟩
        · show f_X10_findsHolding_L59 (bi fl) (nI k) (ur m 7 (rowH m S)) = _
          unfold f_X10_findsHolding_L59
          rw [e0, if_neg (nI_ge hk (by omega)), er, m_isIn (by omega), ob_e, hc, nI_1]
          cases fl <;> simp [bi, ob, ob2, lb]
        · by_cases e : j = k
          · subst e; rw [hc] at hrj; cases hrj
          · exact (hi.1 b).2.1 j t v (by omega) hrj hv hn' hb'
      | true =>
        obtain ⟨S', fl', e1, e2⟩ := m_flows h ho hk hc S
        refine ⟨(fl || fl', S'), ?_, fun b => ⟨fun i hx => (e2.1 b).1 i ((hi.1 b).1 i hx), fun j t v hj hrj hv hn' hb' => ?_, fun C hC hg i hx => (e2.1 b).2.2 C hC (fun i hx => (hi.1 b).2.2 C hC hg i hx) i hx⟩, fun hf i hi2 b hb => ?_⟩
        · show f_X10_findsHolding_L59 (bi fl) (nI k) (ur m 7 (rowH m S)) = _
          unfold f_X10_findsHolding_L59
          rw [e0, if_neg (nI_ge hk (by omega)), er, m_isIn (by omega), ob_e, hc, e1, nI_1]
          cases fl <;> cases fl' <;> simp [bi, ob, ob2, lb]
        · by_cases e : j = k
          · subst e
            exact (e2.1 b).2.1 t v (nx_lt hn') hv hn' (Bh_mon ho (N := 8 * pn P) (by omega) hv (fun i _ hx => (hi.1 b).1 i hx) hb')
          · exact (e2.1 b).1 _ ((hi.1 b).2.1 j t v (by omega) hrj hv hn' hb')
        · simp only [Bool.or_eq_false_iff] at hf
          show S' i b = H i b
          rw [e2.2 hf.2 i hi2 b hb]
          exact hi.2 hf.1 i hi2 b hb)
    (fun a hi => ⟨_, by
      show f_X10_findsHolding_L59 (bi a.1) (nI (pn P)) (ur m 7 (rowH m a.2)) = _
      unfold f_X10_findsHolding_L59
      rw [ur_n _ _ (by omega), h.1, if_pos (nI_le (Nat.le_refl _) (by omega))], a.2, a.1, rfl, fun b => ⟨(hi.1 b).1, fun x hx hF => by
        simp only [FH, Bool.and_eq_true, decide_eq_true_eq] at hF
        obtain ⟨k, hk, hz⟩ := ex_iff.mp hF.2
        simp only [Bool.and_eq_true] at hz
        have := (hi.1 b).2.1 k (x / 8) (x % 8) hk hz.1.1 (Nat.mod_lt _ (by omega)) hz.1.2 hz.2
        rwa [show 8 * (x / 8) + x % 8 = x by omega] at this, (hi.1 b).2.2⟩, hi.2⟩)
    FU 0 (false, H) (Nat.zero_le _) ⟨fun b => ⟨fun _ hx => hx, fun j t v hj => by omega, fun C _ hg x hx => hg x hx⟩, fun _ _ _ _ _ => rfl⟩ (FU_gt (by omega))
  obtain ⟨e, h1, S, fl, rfl, h2⟩ := hh
  exact ⟨S, fl, h1, h2⟩
theorem m_findsHolding (h : PM P m) (ho : pOK P) (hr : m 0 5 = mkb (Rc P)) : f_X10_findsHolding m = some (ur m 7 (rowH m (Ho P))) := by
  have hn := ho.1
  unfold f_X10_findsHolding
  have key := lp_fn (body := fun q : Int32 × sh_S => f_X10_findsHolding_L2 q.1 q.2) (fun k (s : sh_S) => (nI k, s)) 192 (fun k => ur m 7 (fun j => if j < k then mkb (fun b => bH P b j) else m 7 j)) (ur m 7 (rowH m (fun i b => bH P b i)))
    (fun k hk => by
      show f_X10_findsHolding_L2 (nI k) (ur m 7 (fun j => if j < k then mkb (fun b => bH P b j) else m 7 j)) = _
      unfold f_X10_findsHolding_L2
      have e0 : ur m 7 (fun j => if j < k then mkb (fun b => bH P b j) else m 7 j) 0 0 = nI (pn P) := by rw [ur_n _ _ (by omega)]; exact h.1
      rw [if_neg (show ¬ (192 : Int32) ≤ nI k from nI_ge (b := 192) hk (by omega)), e0]
      have ec : (if (8 : Int32) ≤ nI k then some (0 : Int32) else (if nI (pn P) ≤ 0 then some (0 : Int32) else some (16777216 : Int32))) = some (mkb (fun b => bH P b k)) := by
        have a1 : ((8 : Int32) ≤ nI k) = (8 ≤ k) := propext (nI_leI (a := 8) (by omega) (by omega))
        have a2 : (nI (pn P) ≤ (0 : Int32)) = (pn P ≤ 0) := propext (nI_leI (b := 0) (by omega) (by omega))
        simp only [a1, a2]
        by_cases c1 : 8 ≤ k
        · rw [if_pos c1, mkb_0]
          congr 1; apply mkb_ext; intro b _
          simp [bH, show ¬ k < 8 by omega]
        · by_cases c2 : pn P ≤ 0
          · rw [if_neg c1, if_pos c2, mkb_0]
            congr 1; apply mkb_ext; intro b _
            simp [bH, show ¬ 0 < pn P by omega]
          · rw [if_neg c1, if_neg c2, mkb_V]
            congr 1; apply mkb_ext; intro b _
            simp [bH, show k < 8 by omega, show 0 < pn P by omega]
      rw [ec, ob_e, gu_t (inb_n hk (by omega)), lb_e, lb_e, nI_1, ix_n (by omega), ur_ur, ur_s]
      congr 4
      funext j
      unfold upd
      by_cases e : j = k
      · subst e; simp
      · by_cases e2 : j < k
        · simp [e, e2, show j < k + 1 by omega]
        · simp [e, e2, show ¬ j < k + 1 by omega])
    (by
      show f_X10_findsHolding_L2 (nI 192) _ = _
      unfold f_X10_findsHolding_L2
      rw [if_pos (by decide)]
      rfl)
    (FU_gt (show 192 < 6000 by omega))
  have e0 : ur m 7 (fun j => if j < 0 then mkb (fun b => bH P b j) else m 7 j) = m := by
    have : (fun j => if j < 0 then mkb (fun b => bH P b j) else m 7 j) = m 7 := by funext j; simp
    rw [this, ur_id]
  rw [e0] at key
  refine (congrArg (fun z => ob z _) key).trans ?_
  rw [ob_e]
  have hh := lp_fx (body := fun q : Int32 × Int32 × sh_S => f_X10_findsHolding_L44 q.1 q.2.1 q.2.2) (fun r (a : Bool × (Nat → Bf)) => (bi a.1, nI r, ur m 7 (rowH m a.2))) 5000
    (fun r a => (∀ b, RI (FH P b) (bH P b) (8 * pn P) r (fun i => a.2 i b)) ∧ (a.1 = false → ∀ b, b < 25 → ∀ i, i < 8 * pn P → FH P b (fun i => a.2 i b) i = true → a.2 i b = true))
    (fun e => e = ur m 7 (rowH m (Ho P)))
    (fun r a hk hi => by
      obtain ⟨fl, H⟩ := a
      cases fl with
      | false =>
        refine Or.inr ⟨ur m 7 (rowH m H), ?_, ?_⟩
        · show f_X10_findsHolding_L44 (bi false) (nI r) (ur m 7 (rowH m H)) = _
          unfold f_X10_findsHolding_L44
          rw [if_neg (show ¬ (5000 : Int32) ≤ nI r from nI_ge (b := 5000) hk (by omega)), if_pos (by decide)]
        · rw [rowH_ext (fun i _ b hb => (hi.1 b).closed (FH_mon ho b) (FH_lt P b) (bH_lt P b) (hi.2 rfl b hb) i)]; rfl
      | true =>
        obtain ⟨S, fl, e1, e2, e3⟩ := mH_59 h ho hr H
        refine Or.inl ⟨(fl, S), ?_, fun b => (hi.1 b).step (FH_mon ho b) (FH_lt P b) (bH_lt P b) (e2 b), fun hf b hb i hi2 hF => ?_⟩
        · show f_X10_findsHolding_L44 (bi true) (nI r) (ur m 7 (rowH m H)) = _
          unfold f_X10_findsHolding_L44
          rw [if_neg (show ¬ (5000 : Int32) ≤ nI r from nI_ge (b := 5000) hk (by omega)), if_neg (by decide), e1, ob2_e, lb_e, nI_1]
        · have e4 := e3 hf
          refine (e2 b).2.1 i hi2 ?_
          rw [← (FH_mon ho b).loc _ _ (fun x hx => e4 x (by omega) b hb) i hi2]
          exact hF)
    (fun a hi => ⟨_, by
      show f_X10_findsHolding_L44 (bi a.1) (nI 5000) (ur m 7 (rowH m a.2)) = _
      unfold f_X10_findsHolding_L44
      rw [if_pos (by decide)], by
      rw [rowH_ext (fun i _ b _ => (hi.1 b).fin (FH_mon ho b) (FH_lt P b) (bH_lt P b) (by omega) i)]; rfl⟩)
    FU 0 (true, fun i b => bH P b i) (Nat.zero_le _) ⟨fun b => RI.zero (bH_lt P b), fun hf => by cases hf⟩ (FU_gt (by omega))
  obtain ⟨e, h1, rfl⟩ := hh
  refine (congrArg (fun z => ob z _) h1).trans ?_
  rfl
end HO
