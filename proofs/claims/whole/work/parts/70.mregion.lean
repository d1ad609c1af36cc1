def ed (P : Pg) (k : Nat) : Bool := mvs P k && Rc P k
def FRg (P : Pg) : Bf → Bf := fun f v => decide (v < 8) && ex (pn P) (fun k => ed P k && decide (pv P k = v) && f (px P k))
def bRg (P : Pg) (b : Nat) : Bf := fun v => decide (v < 8) && (Lv P v b && Rc P b)
def Rg (P : Pg) (v b : Nat) : Bool := lfp (FRg P) (bRg P b) 8 v
theorem FRg_mon {P : Pg} (ho : pOK P) : Mon (FRg P) 8 := by
  intro f g h x hx e
  simp only [FRg, Bool.and_eq_true, decide_eq_true_eq] at e ⊢
  refine ⟨hx, ex_mon (fun k hk e3 => ?_) e.2⟩
  simp only [Bool.and_eq_true, decide_eq_true_eq] at e3 ⊢
  exact ⟨e3.1, h _ (ho.2 k).2.1 e3.2⟩
theorem FRg_lt (P : Pg) (f : Bf) (x : Nat) (h : FRg P f x = true) : x < 8 := by
  simp only [FRg, Bool.and_eq_true, decide_eq_true_eq] at h
  exact h.1
theorem bRg_lt (P : Pg) (b x : Nat) (h : bRg P b x = true) : x < 8 := by
  simp only [bRg, Bool.and_eq_true, decide_eq_true_eq] at h
  exact h.1
theorem pv_lt {P : Pg} (ho : pOK P) (k : Nat) : pv P k < 8 := by
  have := (ho.2 k).2.2.1
  unfold pv
  omega
def rowR (m : sh_S) (R : Nat → Bf) : Nat → Int32 := fun j => if j < 8 then mkb (R j) else m 6 j
theorem rowR_lt {m : sh_S} {R : Nat → Bf} {j : Nat} (h : j < 8) : rowR m R j = mkb (R j) := by simp [rowR, h]
theorem rowR_upd (m : sh_S) (R : Nat → Bf) {p : Nat} (hp : p < 8) (w : Bf) : upd (rowR m R) p (mkb w) = rowR m (fun v => if v = p then w else R v) := by
  funext j
  unfold upd rowR
  by_cases e : j = p
  · subst e; simp [hp]
  · by_cases e2 : j < 8 <;> simp [e, e2]
theorem rowR_ext {m : sh_S} {R R' : Nat → Bf} (h : ∀ v, v < 8 → ∀ b, b < 25 → R v b = R' v b) : rowR m R = rowR m R' := by
  funext j
  unfold rowR
  by_cases e : j < 8
  · simp only [e, if_true]
    exact mkb_ext (h j e)
  · simp [e]
section GG
variable {P : Pg} {m : sh_S}
theorem mG_inner (h : PM P m) (ho : pOK P) (hr : m 0 5 = mkb (Rc P)) (R : Nat → Bf) : ∃ R' : Nat → Bf, lp (fun q : Int32 × sh_S => f_X10_findsRegions_L41 q.1 q.2) FU ((0 : Int32), ur m 6 (rowR m R)) = some (ur m 6 (rowR m R')) ∧ ∀ b, GS (FRg P) 8 (fun v => R v b) (fun v => R' v b) := by
  have hn := ho.1
  have hh := lp_for (body := fun q : Int32 × sh_S => f_X10_findsRegions_L41 q.1 q.2) (fun k (S : Nat → Bf) => (nI k, ur m 6 (rowR m S))) (pn P)
    (fun k S => ∀ b, (∀ v, R v b = true → S v b = true) ∧ (∀ j, j < k → ed P j = true → R (px P j) b = true → S (pv P j) b = true) ∧ (∀ C : Bf, (∀ x, x < 8 → FRg P C x = true → C x = true) → (∀ v, R v b = true → C v = true) → ∀ v, S v b = true → C v = true))
    (fun e => ∃ S, e = ur m 6 (rowR m S) ∧ ∀ b, GS (FRg P) 8 (fun v => R v b) (fun v => S v b))
    (fun k S hk hi => by
      have hP : PM P (ur m 6 (rowR m S)) := h.row (by omega) _
      have er : ur m 6 (rowR m S) 0 5 = mkb (Rc P) := by rw [ur_n _ _ (by omega)]; exact hr
      obtain ⟨h1, h2, h3, h4⟩ := hP.2 k (by omega)
      obtain ⟨o1, o2, o3, o4⟩ := ho.2 k
      have hpv := pv_lt ho k
      have hik : inb (nI k) 24 := inb_n (by omega) (by omega)
      have hip : inb (nI (pv P k)) 8 := inb_n hpv (by omega)
      have hix : inb (nI (px P k)) 8 := inb_n o2 (by omega)
      have e6 : (nI (pk P k) = (6 : Int32)) = (pk P k = 6) := nI_lt10 (c := 6) o1 (by omega)
      refine ⟨fun v b => S v b || (decide (v = pv P k) && (ed P k && S (px P k) b)), ?_, fun b => ⟨fun v hv => by simp [(hi b).1 v hv], fun j hj hE hR => ?_, fun C hC hg v hv => ?_⟩⟩
      · show f_X10_findsRegions_L41 (nI k) (ur m 6 (rowR m S)) = _
        unfold f_X10_findsRegions_L41
        rw [hP.1, if_neg (nI_ge hk (by omega)), gu_t hik, ix_n (by omega), h1, h3, h2, m_lends hP ho (by omega), m_through _ o3, m_variable _ o3]
        show ob _ (fun v15 => gu (inb (nI k) 24) (ob (some (nI (pv P k))) _)) = _
        have key : ∀ z : Bool, (gu (inb (nI k) 24) (ob (some (nI (pv P k))) (fun v20 => gu (inb v20 8) (ob (if bi z = 0 then some (0 : Int32) else ob (f_X10_isIn (ur m 6 (rowR m S) 0 5) (nI k)) (fun v23 => (if v23 = 0 then some (0 : Int32) else gu (inb (nI k) 24) (gu (inb (nI (px P k)) 8) (some (ur m 6 (rowR m S) 6 (ix (nI (px P k))))))))) (fun v22 => gu (inb v20 8) (lb (ur (ur m 6 (rowR m S)) 6 (upd (ur m 6 (rowR m S) 6) (ix v20) ((ur m 6 (rowR m S) 6 (ix v20)) ||| v22))) (fun s27 => lb (nI k + (1 : Int32)) (fun v28 => (some (.inl (v28, s27)) : Option ((Int32 × sh_S) ⊕ sh_S)))))))))) = some (.inl (nI (k + 1), ur m 6 (rowR m (fun v b => S v b || (decide (v = pv P k) && (z && Rc P k && S (px P k) b)))))) := by
          intro z
          rw [gu_t hik, ob_e, gu_t hip, er, m_isIn (by omega), ob_e, gu_t hik, gu_t hix, ur_s, ix_n (by omega), ix_n (by omega), rowR_lt hpv, rowR_lt o2]
          simp only [bi_0, lb_e, gu_t hip, nI_1, ur_ur]
          have fin : ∀ w : Bf, (∀ b, b < 25 → (S (pv P k) b || w b) = (S (pv P k) b || (z && Rc P k && S (px P k) b))) → upd (rowR m S) (pv P k) (mkb (S (pv P k)) ||| mkb w) = rowR m (fun v b => S v b || (decide (v = pv P k) && (z && Rc P k && S (px P k) b))) := by
            intro w hw
            rw [mkb_or, rowR_upd _ _ hpv]
            apply rowR_ext
            intro v _ b hb
            by_cases e : v = pv P k
            · subst e; simp [hw b hb]
            · simp [e]
          cases z <;> cases hc : Rc P k
          · simp only [if_true, ob_e]; rw [mkb_0, fin _ (fun b _ => by simp)]; simp [hc]
          · simp only [if_true, ob_e]; rw [mkb_0, fin _ (fun b _ => by simp)]; simp [hc]
          · simp only [if_true, ob_e, Bool.true_eq_false, if_false]; rw [mkb_0, fin _ (fun b _ => by simp [hc])]; simp [hc]
          · simp only [Bool.true_eq_false, if_false, ob_e]; rw [fin _ (fun b _ => by simp [hc])]; simp [hc]
        have c : (if nI (pk P k) = (6 : Int32) then some (1 : Int32) else ob (some (bi (lnd P k))) (fun v16 => (if v16 = 0 then some (0 : Int32) else gu (inb (nI k) 24) (ob (some (bi (decide (3 ≤ pp P k % 6)))) (fun v18 => (if v18 = 0 then some (0 : Int32) else some (1 : Int32))))))) = some (bi (mvs P k)) := by
          have m1 : mvs P k = (decide (pk P k = 6) || (lnd P k && decide (3 ≤ pp P k % 6))) := rfl
          rw [m1]
          simp only [e6, gu_t hik, ob_e, bi_0]
          by_cases c6 : pk P k = 6
          · simp [c6, bi]
          · cases c1 : lnd P k <;> by_cases c3 : 3 ≤ pp P k % 6 <;> simp [c6, c3, bi]
        refine (congrArg (fun z => ob z _) c).trans ?_
        rw [ob_e]
        exact key (mvs P k)
      · by_cases e : j = k
        · subst e; simp [hE, (hi b).1 _ hR]
        · simp [(hi b).2.1 j (by omega) hE hR]
      · simp only [Bool.or_eq_true, Bool.and_eq_true, decide_eq_true_eq] at hv
        rcases hv with hv | ⟨rfl, hE, hS⟩
        · exact (hi b).2.2 C hC hg v hv
        · refine hC _ hpv ?_
          simp only [FRg, Bool.and_eq_true, decide_eq_true_eq]
          exact ⟨hpv, ex_iff.mpr ⟨k, hk, by simp [hE, (hi b).2.2 C hC hg _ hS]⟩⟩)
    (fun S hi => ⟨_, by
      show f_X10_findsRegions_L41 (nI (pn P)) (ur m 6 (rowR m S)) = _
      unfold f_X10_findsRegions_L41
      rw [ur_n _ _ (by omega), h.1, if_pos (nI_le (Nat.le_refl _) (by omega))], S, rfl, fun b => ⟨(hi b).1, fun x hx hF => by
        simp only [FRg, Bool.and_eq_true, decide_eq_true_eq] at hF
        obtain ⟨k, hk, hz⟩ := ex_iff.mp hF.2
        simp only [Bool.and_eq_true, decide_eq_true_eq] at hz
        rw [← hz.1.2]
        exact (hi b).2.1 k hk hz.1.1 hz.2, (hi b).2.2⟩⟩)
    FU 0 R (Nat.zero_le _) (fun b => ⟨fun _ hx => hx, fun j hj => by omega, fun C _ hg x hx => hg x hx⟩) (FU_gt (by omega))
  obtain ⟨e, h1, S, rfl, h2⟩ := hh
  exact ⟨S, h1, h2⟩
theorem m_findsRegions (h : PM P m) (ho : pOK P) (hr : m 0 5 = mkb (Rc P)) (hl : ∀ v, v < 8 → m 5 v = mkb (Lv P v)) : f_X10_findsRegions m = some (ur m 6 (rowR m (Rg P))) := by
  unfold f_X10_findsRegions
  have key := lp_fn (body := fun q : Int32 × sh_S => f_X10_findsRegions_L2 q.1 q.2) (fun k (s : sh_S) => (nI k, s)) 8 (fun k => ur m 6 (fun j => if j < k then mkb (fun b => bRg P b j) else m 6 j)) (ur m 6 (rowR m (fun v b => bRg P b v)))
    (fun k hk => by
      show f_X10_findsRegions_L2 (nI k) (ur m 6 (fun j => if j < k then mkb (fun b => bRg P b j) else m 6 j)) = _
      unfold f_X10_findsRegions_L2
      rw [if_neg (show ¬ (8 : Int32) ≤ nI k from nI_ge (b := 8) hk (by omega)), gu_t (inb_n hk (by omega)), gu_t (inb_n hk (by omega)), lb_e, lb_e, ix_n (by omega), ur_n _ _ (show (5 : Nat) ≠ 6 by omega), ur_n _ _ (show (0 : Nat) ≠ 6 by omega), hl k hk, hr, mkb_and, nI_1, ur_ur, ur_s]
      congr 4
      funext j
      unfold upd
      by_cases e : j = k
      · subst e
        simp only [if_true, Nat.lt_succ_self]
        apply mkb_ext
        intro b _
        simp [bRg, hk]
      · by_cases e2 : j < k
        · simp [e, e2, show j < k + 1 by omega]
        · simp [e, e2, show ¬ j < k + 1 by omega])
    (by
      show f_X10_findsRegions_L2 (nI 8) _ = _
      unfold f_X10_findsRegions_L2
      rw [if_pos (by decide)]
      rfl)
    (FU_gt (show 8 < 6000 by omega))
  have e0 : ur m 6 (fun j => if j < 0 then mkb (fun b => bRg P b j) else m 6 j) = m := by
    have : (fun j => if j < 0 then mkb (fun b => bRg P b j) else m 6 j) = m 6 := by funext j; simp
    rw [this, ur_id]
  rw [e0] at key
  refine (congrArg (fun z => ob z _) key).trans ?_
  rw [ob_e]
  have hh := lp_for (body := fun q : Int32 × sh_S => f_X10_findsRegions_L33 q.1 q.2) (fun k (S : Nat → Bf) => (nI k, ur m 6 (rowR m S))) 8
    (fun r S => ∀ b, RI (FRg P) (bRg P b) 8 r (fun v => S v b))
    (fun e => e = ur m 6 (rowR m (Rg P)))
    (fun k S hk hi => by
      obtain ⟨S', e1, e2⟩ := mG_inner h ho hr S
      refine ⟨S', ?_, fun b => (hi b).step (FRg_mon ho) (FRg_lt P) (bRg_lt P b) (e2 b)⟩
      show f_X10_findsRegions_L33 (nI k) (ur m 6 (rowR m S)) = _
      unfold f_X10_findsRegions_L33
      rw [if_neg (show ¬ (8 : Int32) ≤ nI k from nI_ge (b := 8) hk (by omega)), e1, ob_e, lb_e, nI_1])
    (fun S hi => ⟨_, by
      show f_X10_findsRegions_L33 (nI 8) (ur m 6 (rowR m S)) = _
      unfold f_X10_findsRegions_L33
      rw [if_pos (by decide)], by
      rw [rowR_ext (fun v _ b _ => (hi b).fin (FRg_mon ho) (FRg_lt P) (bRg_lt P b) (Nat.le_refl _) v)]; rfl⟩)
    FU 0 (fun v b => bRg P b v) (Nat.zero_le _) (fun b => RI.zero (bRg_lt P b)) (FU_gt (by omega))
  obtain ⟨e, h1, rfl⟩ := hh
  refine (congrArg (fun z => ob z _) h1).trans ?_
  rfl
end GG
