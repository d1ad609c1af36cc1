def stk (P : Pg) (L : Bf) (p : Nat) (fl : Bool) : Bf := fun l => decide (l < 24) && (L l && (ovl p (pp P l) && !(fl && !decide (3 ≤ p % 6) && thr P l)))
section XF
variable {P : Pg} {s : sh_S}
theorem stk_v : ∀ a, a < 6 → ∀ b, b < 6 → ∀ fl : Bool, (∀ (K : Int32 → Option Int32), ob (if nI a = nI b then some (1 : Int32) else if nI a = 0 then some 1 else if nI b = 0 then some 1 else if nI a < 3 then some 0 else if nI b < 3 then some 0 else some 1) (fun v10 => ob (if bi fl = 0 then some (0 : Int32) else if nI a < 3 then some 0 else if (3 : Int32) ≤ nI b then some 0 else some 1) (fun v11 => K (if v10 = 0 then 0 else if v11 = 0 then 1 else 0))) = K (bi ((ctn b a || ctn a b) && !(fl && !decide (3 ≤ b) && decide (3 ≤ a))))) := by
  intro a ha b hb fl K
  have h : ∀ a, a < 6 → ∀ b, b < 6 → ∀ fl : Bool, (if (if nI a = nI b then (1 : Int32) else if nI a = 0 then 1 else if nI b = 0 then 1 else if nI a < 3 then 0 else if nI b < 3 then 0 else 1) = 0 then (0 : Int32) else if (if bi fl = 0 then (0 : Int32) else if nI a < 3 then 0 else if (3 : Int32) ≤ nI b then 0 else 1) = 0 then 1 else 0) = bi ((ctn b a || ctn a b) && !(fl && !decide (3 ≤ b) && decide (3 ≤ a))) := by decide +kernel
  rw [← h a ha b hb fl]
  have o1 : (if nI a = nI b then some (1 : Int32) else if nI a = 0 then some 1 else if nI b = 0 then some 1 else if nI a < 3 then some 0 else if nI b < 3 then some 0 else some 1) = some (if nI a = nI b then (1 : Int32) else if nI a = 0 then 1 else if nI b = 0 then 1 else if nI a < 3 then 0 else if nI b < 3 then 0 else 1) := by
    repeat' split
    all_goals rfl
  have o2 : (if bi fl = 0 then some (0 : Int32) else if nI a < 3 then some 0 else if (3 : Int32) ≤ nI b then some 0 else some 1) = some (if bi fl = 0 then (0 : Int32) else if nI a < 3 then 0 else if (3 : Int32) ≤ nI b then 0 else 1) := by
    repeat' split
    all_goals rfl
  rw [o1, o2, ob_e, ob_e]
theorem x_struck (hX : LX P s) (ho : pOK P) (L : Bf) {p : Nat} (hp : p < 48) (fl : Bool) : f_X1_struck (mkb L) (nI p) (bi fl) s = some (mkb (stk P L p fl)) := by
  unfold f_X1_struck
  rw [lb_e, lb_e, rem6 (by omega), div6 (by omega)]
  have hh := lp_fx (body := fun q : Int32 × Int32 => f_X1_struck_L18 (mkb L) (bi fl) s (nI (p / 6)) (nI (p % 6)) q.1 q.2) (fun j (v : Int32) => (v, nI j)) 24
    (fun j v => v = mkb (fun l => decide (l < j) && stk P L p fl l)) (fun e => e = mkb (stk P L p fl))
    (fun j v hj hv => by
      subst hv
      obtain ⟨-, -, -, -, -, x6, x7, -, -⟩ := hX.2 j hj
      by_cases hz : mkb L >>> (nI j &&& 31) = 0
      · refine Or.inr ⟨mkb (fun l => decide (l < j) && stk P L p fl l), ?_, ?_⟩
        · show f_X1_struck_L18 (mkb L) (bi fl) s (nI (p / 6)) (nI (p % 6)) _ (nI j) = _
          unfold f_X1_struck_L18
          rw [if_pos hz]
        · refine mkb_ext (fun l hl => ?_)
          by_cases q : l < j
          · simp [q]
          · have := (mkb_shz (by omega) L).mp hz l (by omega) hl
            simp [q, stk, this]
      · refine Or.inl ⟨mkb (fun l => decide (l < j + 1) && stk P L p fl l), ?_, rfl⟩
        show f_X1_struck_L18 (mkb L) (bi fl) s (nI (p / 6)) (nI (p % 6)) _ (nI j) = _
        unfold f_X1_struck_L18
        rw [if_neg hz, if_neg (show ¬ (24 : Int32) ≤ nI j from nI_ge (b := 24) hj (by omega)), mkb_bit (by omega)]
        have ij : inb (nI j) 24 := inb_n hj (by omega)
        have hpp := (ho.2 j).2.2.1
        simp only [gu_t ij, ix_n (show j < 2 ^ 31 by omega), x6, x7, lb_e, bi_1, nI_eqb (show pv P j < 2 ^ 31 by have := pv_lt ho j; omega) (show p / 6 < 2 ^ 31 by omega), mkb_one (show j < 25 by omega), nI_1]
        have step : ∀ z : Bool, stk P L p fl j = z → mkb (fun l => decide (l < j) && stk P L p fl l) ||| mkb (fun l => z && decide (l = j)) = mkb (fun l => decide (l < j + 1) && stk P L p fl l) := fun z hz' => by
          rw [mkb_or]
          refine mkb_ext (fun l _ => ?_)
          by_cases q : l = j
          · subst q; simp [hz']
          · by_cases q2 : l < j
            · simp [q, q2, show l < j + 1 by omega]
            · simp [q, q2, show ¬ l < j + 1 by omega]
        have keep : stk P L p fl j = false → mkb (fun l => decide (l < j) && stk P L p fl l) = mkb (fun l => decide (l < j + 1) && stk P L p fl l) := fun hz' => by
          rw [← step false hz', mkb_or]
          exact mkb_ext (fun l _ => by simp)
        cases hL : L j with
        | false =>
          simp only [Bool.false_eq_true, if_false, ob_e]
          rw [keep (by simp [stk, hL])]
        | true =>
          simp only [if_true]
          by_cases hv : pv P j = p / 6
          · rw [if_pos hv]
            have hval : stk P L p fl j = ((ctn (p % 6) (pp P j % 6) || ctn (pp P j % 6) (p % 6)) && !(fl && !decide (3 ≤ p % 6) && decide (3 ≤ pp P j % 6))) := by
              have hv' : pp P j / 6 = p / 6 := hv
              simp [stk, hj, hL, ovl, hv', thr]
            have e := stk_v (pp P j % 6) (Nat.mod_lt _ (by omega)) (p % 6) (Nat.mod_lt _ (by omega)) fl (fun v => some (mkb (fun l => decide (l < j) && stk P L p fl l) ||| (if v = 0 then 0 else mkb (fun l => decide (l = j)))))
            have e2 : ∀ v10 v11 : Int32, ob (if v10 = 0 then some (0 : Int32) else if v11 = 0 then some (mkb (fun l => decide (l = j))) else some 0) (fun v12 => some (mkb (fun l => decide (l < j) && stk P L p fl l) ||| v12)) = some (mkb (fun l => decide (l < j) && stk P L p fl l) ||| (if (if v10 = 0 then (0 : Int32) else if v11 = 0 then 1 else 0) = 0 then 0 else mkb (fun l => decide (l = j)))) := fun v10 v11 => by
              by_cases a : v10 = 0
              · simp [a, ob]
              · by_cases b : v11 = 0 <;> simp [a, b, ob]
            simp only [e2]
            rw [e, ob_e, ← step _ rfl, hval]
            congr 3
            cases q : ((ctn (p % 6) (pp P j % 6) || ctn (pp P j % 6) (p % 6)) && !(fl && !decide (3 ≤ p % 6) && decide (3 ≤ pp P j % 6)))
            · rw [if_pos (show bi false = 0 from rfl), mkb_0]; simp
            · rw [if_neg (by decide)]; simp
          · rw [if_neg hv, ob_e, keep (by
              have hv' : ¬ p / 6 = pp P j / 6 := fun q => hv q.symm
              simp [stk, ovl, hv'])])
    (fun v hv => ⟨v, by
      show f_X1_struck_L18 (mkb L) (bi fl) s (nI (p / 6)) (nI (p % 6)) v (nI 24) = _
      unfold f_X1_struck_L18
      rw [if_pos (show (24 : Int32) ≤ nI 24 by decide)]
      split <;> rfl, by
      rw [hv]
      refine mkb_ext (fun l _ => ?_)
      unfold stk
      cases decide (l < 24) <;> simp⟩)
    FU 0 (mkb (fun l => decide (l < 0) && stk P L p fl l)) (Nat.zero_le _) rfl (FU_gt (by omega))
  obtain ⟨e, h1, rfl⟩ := hh
  have e0 : mkb (fun l => decide (l < 0) && stk P L p fl l) = 0 := by rw [mkb_0]; exact mkb_ext (fun l _ => by simp)
  have h1' : lp (fun q : Int32 × Int32 => f_X1_struck_L18 (mkb L) (bi fl) s (nI (p / 6)) (nI (p % 6)) q.1 q.2) FU (mkb (fun l => decide (l < 0) && stk P L p fl l), (0 : Int32)) = some (mkb (stk P L p fl)) := h1
  rw [e0] at h1'
  rw [h1', ob_e]
theorem stk_clg (ho : pOK P) {k p : Nat} (fl : Bool) : stk P (sSc P k) p fl = clg P k p true fl := by
  funext l
  have hn := ho.1
  unfold stk clg cla
  cases e : sSc P k l
  · simp
  · have := sSc_lt e
    simp [show l < 24 by omega]
theorem sSc_Lo {k l : Nat} (h : sSc P k l = true) : Lo P l = true := by
  simp only [sSc, Bool.and_eq_true] at h
  exact h.2.1
theorem clh_sc {k l : Nat} (h : clh P k l = true) : sSc P k l = true := by
  unfold clh clg at h
  simp only [Bool.or_eq_true, Bool.and_eq_true] at h
  rcases h with ((((h | h) | h) | h) | h) | h
  · exact h.2.1
  · exact h.2.1.1
  · exact h.2.1
  · exact h.2.1
  · exact h.2.1
  · obtain ⟨q, -, e⟩ := ex_iff.mp h.2
    simp only [Bool.and_eq_true] at e
    exact e.2.1.1
theorem mul6 (k : Nat) : nI k * (6 : Int32) = nI (6 * k) := by
  rw [show nI k * (6 : Int32) = nI (k * 6) from pk_mul k 6, Nat.mul_comm]
theorem xW_195 (hX : LX P s) (ho : pOK P) {k : Nat} (Wk g : Bf) : lp (fun q : Int32 × Int32 => f_X1_clashes_L195 s (mkb (sSc P k)) (mkb Wk) q.1 q.2) FU (mkb g, (0 : Int32)) = some (mkb (fun l => g l || ex 24 (fun q => Wk q && (clg P k (pp P q) true false l && !decide (l = q))))) := by
  have hh := lp_fx (body := fun q : Int32 × Int32 => f_X1_clashes_L195 s (mkb (sSc P k)) (mkb Wk) q.1 q.2) (fun j (v : Int32) => (v, nI j)) 24
    (fun j v => v = mkb (fun l => g l || ex j (fun q => Wk q && (clg P k (pp P q) true false l && !decide (l = q))))) (fun e => e = mkb (fun l => g l || ex 24 (fun q => Wk q && (clg P k (pp P q) true false l && !decide (l = q)))))
    (fun j v hj hv => by
      subst hv
      have x3 := (hX.2 j hj).2.2.1
      by_cases hz : mkb Wk >>> (nI j &&& 31) = 0
      · refine Or.inr ⟨_, by
          show f_X1_clashes_L195 s (mkb (sSc P k)) (mkb Wk) _ (nI j) = _
          unfold f_X1_clashes_L195
          rw [if_pos hz], mkb_ext (fun l hl => ?_)⟩
        congr 1
        apply tt
        constructor
        · exact fun e => by
            obtain ⟨q, hq, e⟩ := ex_iff.mp e
            exact ex_iff.mpr ⟨q, by omega, e⟩
        · exact fun e => by
            obtain ⟨q, hq, e⟩ := ex_iff.mp e
            refine ex_iff.mpr ⟨q, ?_, e⟩
            apply Classical.byContradiction
            intro hc
            rw [(mkb_shz (by omega) Wk).mp hz q (by omega) (by omega)] at e
            simp at e
      · refine Or.inl ⟨_, ?_, rfl⟩
        show f_X1_clashes_L195 s (mkb (sSc P k)) (mkb Wk) _ (nI j) = _
        unfold f_X1_clashes_L195
        have hpp := (ho.2 j).2.2.1
        rw [if_neg hz, if_neg (show ¬ (24 : Int32) ≤ nI j from nI_ge (b := 24) hj (by omega)), mkb_bit (by omega)]
        simp only [gu_t (inb_n hj (show 24 < 2 ^ 31 by omega)), ix_n (show j < 2 ^ 31 by omega), x3, bi_1, mkb_one (show j < 25 by omega), mkb_nand, nI_1, lb_e]
        rw [show (0 : Int32) = bi false from rfl, x_struck hX ho _ hpp false, ob_e]
        have e1 : mkb (stk P (fun i => sSc P k i && !decide (i = j)) (pp P j) false) = mkb (fun l => clg P k (pp P j) true false l && !decide (l = j)) := mkb_ext (fun l _ => by
          rw [← stk_clg ho]
          unfold stk
          dsimp only
          cases decide (l < 24) <;> cases sSc P k l <;> cases decide (l = j) <;> simp)
        rw [e1, mkb_or]
        cases hW : Wk j with
        | false =>
          simp only [Bool.false_eq_true, if_false, ob_e]
          congr 3
          exact mkb_ext (fun l _ => by simp [ex, hW])
        | true =>
          simp only [if_true, ob_e]
          congr 3
          exact mkb_ext (fun l _ => by simp [ex, hW, Bool.or_assoc]))
    (fun v hv => ⟨v, by
      show f_X1_clashes_L195 s (mkb (sSc P k)) (mkb Wk) v (nI 24) = _
      unfold f_X1_clashes_L195
      rw [if_pos (show (24 : Int32) ≤ nI 24 by decide)]
      split <;> rfl, hv⟩)
    FU 0 (mkb (fun l => g l || ex 0 (fun q => Wk q && (clg P k (pp P q) true false l && !decide (l = q))))) (Nat.zero_le _) rfl (FU_gt (by omega))
  obtain ⟨e, h1, rfl⟩ := hh
  have e0 : mkb (fun l => g l || ex 0 (fun q => Wk q && (clg P k (pp P q) true false l && !decide (l = q)))) = mkb g := mkb_ext (fun l _ => by simp [ex])
  have h1' : lp (fun q : Int32 × Int32 => f_X1_clashes_L195 s (mkb (sSc P k)) (mkb Wk) q.1 q.2) FU (mkb (fun l => g l || ex 0 (fun q => Wk q && (clg P k (pp P q) true false l && !decide (l = q)))), (0 : Int32)) = _ := h1
  rw [e0] at h1'
  exact h1'
theorem x_clashes (hX : LX P s) (hO : OY P s) (hK : KX P s) (ho : pOK P) {k : Nat} (hk : k < pn P) (h22 : s 22 k = mkb (sSc P k)) (h23 : s 23 k = mkb (sAc P k)) : f_X1_clashes (nI k) s = some (mkb (clh P k)) := by
  have hn := ho.1
  obtain ⟨-, x2, x3, -, x5, x6, -, x8, -⟩ := hX.2 k (by omega)
  have ik : inb (nI k) 24 := inb_n (by omega) (by omega)
  have ha := ak_lt ho k
  have hpp := (ho.2 k).2.2.1
  have hpv := pv_lt ho k
  have hpx := (ho.2 k).2.1
  have hT : s 19 2 = mkb (fun l => Lo P l && decide (ak P l = 4)) := hO.1 2 (by omega)
  have S1 : f_X1_struck (mkb (fun i => sSc P k i && (Lo P i && decide (ak P i = 4) || sAc P k i))) (nI (pp P k)) 0 s = some (mkb (clg P k (pp P k) false false)) := by
    rw [show (0 : Int32) = bi false from rfl, x_struck hX ho _ hpp]
    refine congrArg some (mkb_ext (fun l _ => ?_))
    unfold stk clg cla
    dsimp only
    cases e : sSc P k l
    · simp
    · have := sSc_lt e
      simp [sSc_Lo e, show l < 24 by omega]
  have S2 : ∀ p, p < 48 → ∀ fl, f_X1_struck (mkb (sSc P k)) (nI p) (bi fl) s = some (mkb (clg P k p true fl)) := fun p hp fl => by rw [x_struck hX ho _ hp, stk_clg ho]
  have S2f : ∀ p, p < 48 → f_X1_struck (mkb (sSc P k)) (nI p) 0 s = some (mkb (clg P k p true false)) := fun p hp => S2 p hp false
  have S2t : ∀ p, p < 48 → f_X1_struck (mkb (sSc P k)) (nI p) 1 s = some (mkb (clg P k p true true)) := fun p hp => S2 p hp true
  have hB : ∀ v14 : Bool, (if ak P k = 2 then some (1 : Int32) else some 0) = some (bi (decide (ak P k = 2))) := fun _ => by
    by_cases q : ak P k = 2 <;> simp [q, bi]
  unfold f_X1_clashes f_X1_clashes_B44_1 f_X1_clashes_B85_2
  simp only [gu_t ik, ix_n (show k < 2 ^ 31 by omega), lb_e, h22, h23, x2, x3, x5, x6, x8, hT, (hK k hk).2.2, c1 ha, c2 ha, c3 ha, c4 ha, c5 ha, c6 ha, mkb_or, mkb_and, S1, ob_e, hB true, S2 _ hpp, mul6, S2f (6 * pv P k) (by omega), S2t (6 * px P k) (by omega), mkb_one (show k < 25 by omega), bi_z0]
  have V1 : (if ak P k = 1 then some (mkb (clg P k (pp P k) false false)) else if ak P k = 3 then some (mkb (clg P k (pp P k) false false)) else if ak P k = 5 then some (mkb (clg P k (pp P k) false false)) else if ak P k = 2 then some (mkb (clg P k (pp P k) true (decide (ak P k = 2)))) else if ak P k = 4 then some (mkb (clg P k (pp P k) true (decide (ak P k = 2)))) else if ak P k = 6 then some (mkb (clg P k (6 * pv P k) true false)) else some (0 : Int32)) = some (mkb (fun l => ((decide (ak P k = 1) || decide (ak P k = 3) || decide (ak P k = 5)) && clg P k (pp P k) false false l) || ((decide (ak P k = 2) || decide (ak P k = 4)) && clg P k (pp P k) true (decide (ak P k = 2)) l) || (decide (ak P k = 6) && clg P k (6 * pv P k) true false l))) := by
    rw [mkb_0]
    rcases lt10 ha with e | e | e | e | e | e | e | e | e | e <;> simp [e]
  rw [V1, ob_e]
  have V2 : ∀ g : Bf, (if ak P k = 5 then some (mkb g ||| mkb (fun i => sSc P k i && decide (i = k))) else some (mkb g)) = some (mkb (fun l => g l || (decide (ak P k = 5) && (sSc P k l && decide (l = k))))) := fun g => by
    by_cases q : ak P k = 5 <;> simp [q, mkb_or]
  rw [V2, ob_e]
  have V3 : ∀ g : Bf, (if ak P k = 6 then some (mkb g ||| mkb (clg P k (6 * px P k) true true)) else if lnd P k = false then some (mkb g) else some (mkb g ||| mkb (clg P k (6 * px P k) true true))) = some (mkb (fun l => g l || ((decide (ak P k = 6) || lnd P k) && clg P k (6 * px P k) true true l))) := fun g => by
    by_cases q : ak P k = 6
    · simp [q, mkb_or]
    · cases q2 : lnd P k <;> simp [q, mkb_or]
  rw [V3, ob_e, xW_195 hX ho, ob_e]
  refine congrArg some (mkb_ext (fun l _ => ?_))
  have hw : ex 24 (fun q => Lo P q && act P k q && (clg P k (pp P q) true false l && !decide (l = q))) = (gt P k && ex (pn P) (fun q => Lo P q && decide (ak P q = 5) && Ho P (8 * k + pv P k) q && (clg P k (pp P q) true false l && !decide (l = q)))) := by
    apply tt
    rw [Bool.and_eq_true, ex_iff, ex_iff]
    constructor
    · rintro ⟨q, hq, e⟩
      simp only [act, Bool.and_eq_true] at e
      exact ⟨e.1.2.2.1, q, Lo_lt e.1.1, by simp only [Bool.and_eq_true]; exact ⟨⟨⟨e.1.1, e.1.2.1⟩, e.1.2.2.2⟩, e.2⟩⟩
    · rintro ⟨hg, q, hq, e⟩
      simp only [Bool.and_eq_true] at e
      exact ⟨q, by omega, by simp only [act, Bool.and_eq_true]; exact ⟨⟨e.1.1.1, e.1.1.2, hg, e.1.2⟩, e.2⟩⟩
  rw [hw]
  have hself : (sSc P k l && decide (l = k)) = (clg P k (pp P k) true false l && decide (l = k)) := by
    by_cases q : l = k
    · subst q
      simp [clg, cla, ovl, ctn]
    · simp [q]
  rw [hself]
  have hlnd : (decide (ak P k = 6) || lnd P k) = (decide (3 ≤ ak P k) && decide (ak P k ≤ 6)) := by
    unfold ak lnd
    rcases lt10 (ho.2 k).1 with e | e | e | e | e | e | e | e | e | e <;> cases thr P k <;> simp [e]
  rw [hlnd]
  unfold clh
  generalize (gt P k && ex (pn P) (fun q => Lo P q && decide (ak P q = 5) && Ho P (8 * k + pv P k) q && (clg P k (pp P q) true false l && !decide (l = q)))) = w
  generalize ((decide (3 ≤ ak P k) && decide (ak P k ≤ 6)) && clg P k (6 * px P k) true true l) = w2
  rcases lt10 ha with e | e | e | e | e | e | e | e | e | e <;> simp [e]
theorem Ho_lo (ho : pOK P) {i b : Nat} (hi : i < 8 * pn P) (hb : b ≠ 24) (h : Ho P i b = true) : Lo P b = true := by
  cases e : Lo P b with
  | true => rfl
  | false =>
    have := lfp_le (C := fun _ => false) (FH_mon ho b) (b := bH P b) ⟨fun x _ q => by simp [bH, hb] at q, fun x _ q => by
      simp only [FH, Bool.and_eq_true, decide_eq_true_eq] at q
      obtain ⟨k, hk, q2⟩ := ex_iff.mp q.2
      simp only [Bool.and_eq_true] at q2
      have q3 := q2.2
      unfold Bh at q3
      simp only [hb, decide_false] at q3
      by_cases c1 : lnd P k = true
      · by_cases c2 : b = k
        · subst c2
          simp [Lo, q2.1.1, c1] at e
        · simp [c1, c2] at q3
      · simp [c1] at q3⟩ i hi h
    cases this
theorem Ho_rc (ho : pOK P) {k v b : Nat} (hk : k < pn P) (hv : v < 8) (h : Ho P (8 * k + v) b = true) : Rc P k = true := by
  have := lfp_le (C := fun i => Rc P (i / 8)) (FH_mon ho b) (b := bH P b) ⟨fun x _ q => by
    simp only [bH, Bool.and_eq_true, decide_eq_true_eq] at q
    show Rc P (x / 8) = true
    rw [show x / 8 = 0 by omega]
    exact (lfp_cl (FR_mon P)).1 0 q.1.2 (by simp [bR, q.1.2]), fun x _ q => by
    simp only [FH, Bool.and_eq_true, decide_eq_true_eq] at q
    obtain ⟨j, hj, q2⟩ := ex_iff.mp q.2
    simp only [Bool.and_eq_true] at q2
    exact Rc_nx hj q2.1.1 q2.1.2⟩ (8 * k + v) (by omega) h
  rwa [show (8 * k + v) / 8 = k by omega] at this
theorem Rg_rc (ho : pOK P) {v b : Nat} (hv : v < 8) (h : Rg P v b = true) : Rc P b = true := by
  exact lfp_le (C := fun _ => Rc P b) (FRg_mon ho) (b := bRg P b) ⟨fun x _ q => by
    simp only [bRg, Bool.and_eq_true] at q
    exact q.2.2, fun x _ q => by
    simp only [FRg, Bool.and_eq_true] at q
    obtain ⟨j, hj, q2⟩ := ex_iff.mp q.2
    simp only [Bool.and_eq_true] at q2
    exact q2.2⟩ v hv h
theorem Tsc_rg (ho : pOK P) {l x : Nat} (hx : x < 48) (h : Tsc P l x = true) : rgn P l (ptx x) = true := by
  exact lfp_le (C := fun x => rgn P l (ptx x)) (FSc_mon ho l) (b := bSc P l) ⟨fun x _ q => by
    simp only [bSc, Bool.and_eq_true, decide_eq_true_eq] at q
    simp only [ptx, q.1, if_true]
    exact q.2.2, fun x hx q => by
    by_cases c : x < 24
    · rw [FSc_lo c] at q
      simp only [Bool.and_eq_true] at q
      simp only [ptx, c, if_true]
      exact q.1.2
    · rw [FSc_hi c] at q
      simp only [Bool.and_eq_true] at q
      simp only [ptx, c, if_false]
      exact q.2.1⟩ x hx h
theorem sSc_rc (ho : pOK P) {k l : Nat} (h : sSc P k l = true) : Rc P k = true := by
  simp only [sSc, Sc, Bool.and_eq_true, Bool.or_eq_true, decide_eq_true_eq] at h
  have hn := ho.1
  have : rgn P l k = true := by
    rcases h.2.2.2 with e | e
    · have := Tsc_rg ho (by omega) e
      simpa [ptx, h.2.2.1] using this
    · have := Tsc_rg ho (by omega) e
      simpa [ptx, show ¬ 24 + k < 24 by omega] using this
  simp only [rgn, Bool.and_eq_true] at this
  exact Rg_rc ho (ho.2 l).2.1 this.2
theorem EB_rc (ho : pOK P) {k : Nat} (hk : k < pn P) (h : Rc P k = false) (c b : Nat) : EB P k c b = false := by
  have hpv := pv_lt ho k
  have hH : ∀ b, Ho P (8 * k + pv P k) b = false := fun b => by
    cases e : Ho P (8 * k + pv P k) b with
    | false => rfl
    | true => rw [Ho_rc ho hk hpv e] at h; cases h
  match c with
  | 0 =>
    show clh P k b = false
    cases e : clh P k b with
    | false => rfl
    | true => rw [sSc_rc ho (clh_sc e)] at h; cases h
  | 1 => simp [EB, hH]
  | 2 => simp [EB, hH]
  | n + 3 =>
    have : ex 24 (fun q => Ho P (8 * k + pv P k) q) = false := by
      cases e : ex 24 (fun q => Ho P (8 * k + pv P k) q) with
      | false => rfl
      | true =>
        obtain ⟨q, -, e⟩ := ex_iff.mp e
        rw [hH] at e; cases e
    simp [EB, this]
end XF
