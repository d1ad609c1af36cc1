def AG (P P' : Pg) : Prop := pn P' = pn P ∧ px P' = px P ∧ pp P' = pp P ∧ pt P' = pt P ∧ Rc P' = Rc P ∧ ∀ j, Rc P j = true → pk P' j = pk P j
section AGs
variable {P P' : Pg}
theorem AG.symm (h : AG P P') : AG P' P := ⟨h.1.symm, h.2.1.symm, h.2.2.1.symm, h.2.2.2.1.symm, h.2.2.2.2.1.symm, fun j hj => (h.2.2.2.2.2 j (by rw [← h.2.2.2.2.1]; exact hj)).symm⟩
theorem AG.thrq (h : AG P P') (k : Nat) : thr P' k = thr P k := by simp only [thr, h.2.2.1]
theorem AG.pvq (h : AG P P') (k : Nat) : pv P' k = pv P k := by simp only [pv, h.2.2.1]
theorem AG.lndq (h : AG P P') {k : Nat} (hr : Rc P k = true) : lnd P' k = lnd P k := by simp only [lnd, h.2.2.2.2.2 k hr]
theorem AG.akq (h : AG P P') {k : Nat} (hr : Rc P k = true) : ak P' k = ak P k := by simp only [ak, h.2.2.2.2.2 k hr, h.thrq]
theorem AG.nxq (h : AG P P') {k : Nat} (hr : Rc P k = true) (m : Nat) : nx P' k m = nx P k m := by simp only [nx, h.2.2.2.2.2 k hr, h.1, h.2.2.2.1]
theorem AG.rdq (h : AG P P') {k : Nat} (hr : Rc P k = true) (v : Nat) : rd P' k v = rd P k v := by simp only [rd, h.2.2.2.2.2 k hr, h.pvq, h.thrq]
theorem AG.wrq (h : AG P P') {k : Nat} (hr : Rc P k = true) (v : Nat) : wr P' k v = wr P k v := by simp only [wr, h.2.2.2.2.2 k hr, h.pvq, h.thrq, h.lndq hr, h.2.1]
theorem AG.gtq (h : AG P P') {k : Nat} (hr : Rc P k = true) : gt P' k = gt P k := by simp only [gt, h.2.2.2.2.2 k hr, h.thrq]
theorem AG.mvsq (h : AG P P') {k : Nat} (hr : Rc P k = true) : mvs P' k = mvs P k := by simp only [mvs, h.2.2.2.2.2 k hr, h.thrq, h.lndq hr]
theorem AG.edq (h : AG P P') (k : Nat) : ed P' k = ed P k := by
  unfold ed
  rw [h.2.2.2.2.1]
  cases hr : Rc P k with
  | false => simp
  | true => rw [h.mvsq hr]
theorem AG.Loq (h : AG P P') (k : Nat) : Lo P' k = Lo P k := by
  unfold Lo
  rw [h.2.2.2.2.1]
  cases hr : Rc P k with
  | false => simp only [Bool.false_and]
  | true => rw [h.lndq hr]
theorem Lo_rc {l : Nat} (h : Lo P l = true) : Rc P l = true := by
  simp only [Lo, Bool.and_eq_true] at h; exact h.1
theorem bimp {a b : Bool} (h1 : a = true → b = true) (h2 : b = true → a = true) : a = b := tt ⟨h1, h2⟩
theorem AG.Lv_leq (h : AG P P') {v b : Nat} (hr : Rc P b = true) (e : Lv P v b = true) : Lv P' v b = true := by
  have hc := lfp_cl (b := b0) (FLv_mon P' v)
  have := lfp_le (C := fun x => !Rc P x || Lv P' v x) (FLv_mon P v) (b := b0) ⟨fun x _ q => (by cases q), fun x hx q => by
    show (!Rc P x || Lv P' v x) = true
    cases hx' : Rc P x with
    | false => rfl
    | true =>
      show Lv P' v x = true
      refine hc.2 x (by rw [h.1]; exact hx) ?_
      simp only [FLv, Bool.and_eq_true, Bool.or_eq_true, decide_eq_true_eq] at q ⊢
      refine ⟨by rw [h.1]; exact q.1, ?_⟩
      rw [h.rdq hx', h.wrq hx', h.1]
      rcases q.2 with q2 | ⟨q2, q3⟩
      · exact Or.inl q2
      · obtain ⟨m, hm, q4⟩ := ex_iff.mp q3
        simp only [Bool.and_eq_true, Bool.or_eq_true, Bool.not_eq_true'] at q4
        have hrm := Rc_nx hx hx' q4.1
        refine Or.inr ⟨q2, ex_iff.mpr ⟨m, hm, ?_⟩⟩
        rw [h.nxq hx', q4.1]
        rcases q4.2 with q5 | q5
        · rw [hrm] at q5; cases q5
        · have q5' : lfp (FLv P' v) b0 (pn P') m = true := q5
          rw [h.1] at q5'
          simp [q5']⟩ b (Rc_lt hr) e
  simp only [hr, Bool.not_true, Bool.false_or] at this
  exact this
theorem AG.Lvq (h : AG P P') {v b : Nat} (hr : Rc P b = true) : Lv P' v b = Lv P v b := bimp (fun e => h.symm.Lv_leq (by rw [h.2.2.2.2.1]; exact hr) e) (fun e => h.Lv_leq hr e)
theorem AG.Rg_leq (h : AG P P') (ho : pOK P) (ho' : pOK P') {v b : Nat} (hv : v < 8) (e : Rg P v b = true) : Rg P' v b = true := by
  have hc := lfp_cl (b := bRg P' b) (FRg_mon ho')
  refine lfp_le (C := fun v => Rg P' v b) (FRg_mon ho) (b := bRg P b) ⟨fun x hx q => hc.1 x hx ?_, fun x hx q => hc.2 x hx ?_⟩ v hv e
  · simp only [bRg, Bool.and_eq_true] at q ⊢
    exact ⟨q.1, h.Lv_leq q.2.2 q.2.1, by rw [h.2.2.2.2.1]; exact q.2.2⟩
  · simp only [FRg, Bool.and_eq_true] at q ⊢
    obtain ⟨k, hk, q2⟩ := ex_iff.mp q.2
    refine ⟨q.1, ex_iff.mpr ⟨k, by rw [h.1]; exact hk, ?_⟩⟩
    rw [h.edq, h.pvq, h.2.1]
    exact q2
theorem AG.Rgq (h : AG P P') (ho : pOK P) (ho' : pOK P') {v b : Nat} (hv : v < 8) : Rg P' v b = Rg P v b := bimp (fun e => h.symm.Rg_leq ho' ho hv e) (fun e => h.Rg_leq ho ho' hv e)
theorem AG.rgnq (h : AG P P') (ho : pOK P) (ho' : pOK P') (l x : Nat) : rgn P' l x = rgn P l x := by
  unfold rgn nvr
  rw [h.thrq, h.pvq, h.2.1, h.Rgq ho ho' (ho.2 l).2.1]
theorem AG.Bhq (h : AG P P') {k : Nat} (hr : Rc P k = true) (v b : Nat) (f : Bf) : Bh P' k v b f = Bh P k v b f := by
  unfold Bh
  rw [h.lndq hr, h.2.1, h.2.2.2.2.2 k hr, h.pvq, h.thrq]
theorem ex_cg {f g : Bf} : ∀ {n : Nat}, (∀ x, x < n → f x = g x) → ex n f = ex n g
  | 0, _ => rfl
  | n + 1, h => by
    show (ex n f || f n) = (ex n g || g n)
    rw [ex_cg (fun x hx => h x (by omega)), h n (by omega)]
theorem AG.FHq (h : AG P P') (b : Nat) : FH P' b = FH P b := by
  funext f i
  unfold FH
  rw [h.1, h.2.2.2.2.1]
  congr 1
  refine ex_cg (fun k _ => ?_)
  cases hr : Rc P k with
  | false => simp only [Bool.false_and]
  | true => rw [h.nxq hr, h.Bhq hr]
theorem AG.Hoq (h : AG P P') (i b : Nat) : Ho P' i b = Ho P i b := by
  unfold Ho
  have e : bH P' b = bH P b := by funext x; unfold bH; rw [h.1]
  rw [h.FHq, h.1, e]
theorem AG.kilq (h : AG P P') {k : Nat} (hk : Rc P k = true) (l : Nat) : kil P' k l = kil P k l := by
  unfold kil
  rw [h.thrq, h.pvq, h.wrq hk]
theorem AG.actq (h : AG P P') {k l : Nat} (hk : Rc P k = true) (hl : Rc P l = true) : act P' k l = act P k l := by
  unfold act
  rw [h.akq hl, h.gtq hk, h.Hoq, h.pvq]
theorem AG.Tsc_leq (h : AG P P') (ho : pOK P) (ho' : pOK P') {l : Nat} (hl : Rc P l = true) {x : Nat} (hx : x < 48) (e : Tsc P l x = true) : Tsc P' l x = true := by
  have hn := ho.1
  have hc := lfp_cl (b := bSc P' l) (FSc_mon ho' l)
  have key := lfp_le (C := fun x => Rc P (ptx x) && Tsc P' l x) (FSc_mon ho l) (b := bSc P l) ⟨fun y hy q => ?_, fun y hy q => ?_⟩ x hx e
  · have key' : (Rc P (ptx x) && Tsc P' l x) = true := key
    rw [Bool.and_eq_true] at key'
    exact key'.2
  · simp only [bSc, Bool.and_eq_true, decide_eq_true_eq] at q
    have ep : ptx y = y := by unfold ptx; rw [if_pos q.1]
    show (Rc P (ptx y) && Tsc P' l y) = true
    rw [Bool.and_eq_true, ep]
    refine ⟨Rc_nx (Rc_lt hl) hl q.2.1, hc.1 y hy ?_⟩
    simp only [bSc, Bool.and_eq_true, decide_eq_true_eq]
    rw [h.nxq hl, h.rgnq ho ho']
    exact q
  · show (Rc P (ptx y) && Tsc P' l y) = true
    rw [Bool.and_eq_true]
    by_cases c : y < 24
    · rw [FSc_lo c] at q
      simp only [Bool.and_eq_true, decide_eq_true_eq] at q
      obtain ⟨⟨q1, q2⟩, q3⟩ := q
      obtain ⟨k, hk, q4⟩ := ex_iff.mp q3
      simp only [Bool.and_eq_true] at q4
      obtain ⟨⟨q5, q6⟩, ⟨q7, q8⟩, q9⟩ := q4
      have ek : ptx k = k := by unfold ptx; rw [if_pos (by omega)]
      rw [ek] at q7
      have ep : ptx y = y := by unfold ptx; rw [if_pos c]
      rw [ep]
      refine ⟨Rc_nx hk q7 q5, hc.2 y hy ?_⟩
      rw [FSc_lo c]
      simp only [Bool.and_eq_true, decide_eq_true_eq]
      refine ⟨⟨by rw [h.1]; exact q1, by rw [h.rgnq ho ho']; exact q2⟩, ex_iff.mpr ⟨k, by rw [h.1]; exact hk, ?_⟩⟩
      simp only [Bool.and_eq_true]
      rw [h.nxq q7, h.kilq q7, h.actq q7 hl]
      exact ⟨⟨q5, q6⟩, q8, q9⟩
    · rw [FSc_hi c] at q
      simp only [Bool.and_eq_true, decide_eq_true_eq] at q
      obtain ⟨q1, q2, q3⟩ := q
      obtain ⟨k, hk, q4⟩ := ex_iff.mp q3
      simp only [Bool.and_eq_true] at q4
      obtain ⟨⟨q5, q6⟩, q7⟩ := q4
      have ek : ptx k = k := by unfold ptx; rw [if_pos (by omega)]
      have ek2 : ptx (24 + k) = k := by unfold ptx; rw [if_neg (by omega)]; omega
      have ep : ptx y = y - 24 := by unfold ptx; rw [if_neg c]
      have hrk : Rc P k = true := by
        simp only [Bool.or_eq_true, Bool.and_eq_true, ek, ek2] at q7
        rcases q7 with q | q
        · exact q.1
        · exact q.1.1
      rw [ep]
      refine ⟨Rc_nx hk hrk q5, hc.2 y hy ?_⟩
      rw [FSc_hi c]
      simp only [Bool.and_eq_true, decide_eq_true_eq]
      refine ⟨q1, by rw [h.rgnq ho ho']; exact q2, ex_iff.mpr ⟨k, by rw [h.1]; exact hk, ?_⟩⟩
      simp only [Bool.and_eq_true, Bool.or_eq_true] at q7 ⊢
      rw [h.nxq hrk, h.kilq hrk, h.actq hrk hl]
      refine ⟨⟨q5, q6⟩, ?_⟩
      rcases q7 with q | q
      · exact Or.inl q.2
      · exact Or.inr ⟨q.1.2, q.2⟩
theorem AG.Tscq (h : AG P P') (ho : pOK P) (ho' : pOK P') {l : Nat} (hl : Rc P l = true) {x : Nat} (hx : x < 48) : Tsc P' l x = Tsc P l x := bimp (fun e => h.symm.Tsc_leq ho' ho (by rw [h.2.2.2.2.1]; exact hl) hx e) (fun e => h.Tsc_leq ho ho' hl hx e)
theorem AG.sScq (h : AG P P') (ho : pOK P) (ho' : pOK P') (k l : Nat) : sSc P' k l = sSc P k l := by
  unfold sSc Sc
  rw [h.1, h.Loq]
  cases hl : Lo P l with
  | false => simp
  | true =>
    by_cases hk : k < 24
    · rw [h.Tscq ho ho' (Lo_rc hl) (by omega), h.Tscq ho ho' (Lo_rc hl) (by omega)]
    · simp [hk]
theorem AG.sAcq (h : AG P P') (ho : pOK P) (ho' : pOK P') (k l : Nat) : sAc P' k l = sAc P k l := by
  unfold sAc Ac
  rw [h.1, h.Loq]
  cases hl : Lo P l with
  | false => simp
  | true =>
    by_cases hk : k < 24
    · rw [h.Tscq ho ho' (Lo_rc hl) (by omega)]
    · simp [hk]
theorem AG.clgq (h : AG P P') (ho : pOK P) (ho' : pOK P') (k p : Nat) (w f : Bool) (l : Nat) : clg P' k p w f l = clg P k p w f l := by
  unfold clg
  rw [h.sScq ho ho']
  cases hl : sSc P k l with
  | false => simp
  | true =>
    have := Lo_rc (sSc_Lo hl)
    unfold cla
    rw [h.akq this, h.sAcq ho ho', h.2.2.1, h.thrq]
theorem AG.clhq (h : AG P P') (ho : pOK P) (ho' : pOK P') {k : Nat} (hk : Rc P k = true) (l : Nat) : clh P' k l = clh P k l := by
  unfold clh
  rw [h.akq hk, h.gtq hk, h.2.2.1, h.2.1, h.pvq]
  simp only [h.clgq ho ho']
  congr 2
  rw [h.1]
  refine ex_cg (fun q _ => ?_)
  rw [h.Loq, h.Hoq]
  cases hq : Lo P q with
  | false => simp
  | true => rw [h.akq (Lo_rc hq)]
theorem AG.EBq (h : AG P P') (ho : pOK P) (ho' : pOK P') {k : Nat} (hk : Rc P k = true) (c b : Nat) : EB P' k c b = EB P k c b := by
  have hk2 := Rc_lt hk
  have hp := pv_lt ho k
  unfold EB
  split
  · exact h.clhq ho ho' hk b
  · rw [h.gtq hk, h.Hoq, h.pvq]
  · dsimp only
    rw [h.gtq hk, h.akq hk, h.1, h.Hoq, h.pvq]
    congr 1
    by_cases hb : b < pn P
    · cases hH : Ho P (8 * k + pv P k) b with
      | false => simp
      | true =>
        have := Ho_lo ho (show 8 * k + pv P k < 8 * pn P by omega) (by have := ho.1; omega) hH
        rw [h.akq (Lo_rc this)]
    · simp [hb]
  · rw [h.lndq hk, h.gtq hk, h.pvq]
    simp only [h.Hoq]
theorem AG.erAtq (h : AG P P') (ho : pOK P) (ho' : pOK P') {k : Nat} (hk : Rc P k = true) : erAt P' k = erAt P k := by
  unfold erAt
  rw [sg_ext k 0 (fun x _ => h.EBq ho ho' hk 0 x), sg_ext k 1 (fun x _ => h.EBq ho ho' hk 1 x), sg_ext k 2 (fun x _ => h.EBq ho ho' hk 2 x), sg_ext k 3 (fun x _ => h.EBq ho ho' hk 3 x)]
theorem eA_s (Q : Pg) (n : Nat) : eA Q (n + 1) = eA Q n ++ (if Rc Q n then erAt Q n else []) := rfl
theorem AG.eAq (h : AG P P') (ho : pOK P) (ho' : pOK P') (n : Nat) : eA P' n = eA P n := by
  induction n with
  | zero => rfl
  | succ n ih =>
    rw [eA_s, eA_s, ih, h.2.2.2.2.1]
    cases hr : Rc P n with
    | false => simp only [Bool.false_eq_true, if_false]
    | true => simp only [if_true]; rw [h.erAtq ho ho' hr]
theorem AG.TEq (h : AG P P') (ho : pOK P) (ho' : pOK P') : TE P' = TE P := by
  unfold TE
  rw [h.eAq ho ho', h.1]
theorem setk_nx {k c m x : Nat} (h : m ≠ k) : nx (setk P k c) m x = nx P m x := by
  have e : pk (setk P k c) m = pk P m := by
    show (if m = k then c else pk P m) = _
    rw [if_neg h]
  unfold nx
  rw [e]
  rfl
theorem setk_AG {k c : Nat} (hr : Rc P k = false) : AG P (setk P k c) := by
  have hne : ∀ {m}, Rc P m = true → m ≠ k := fun hm e => by rw [e, hr] at hm; cases hm
  have e1 : ∀ x, Rc P x = true → Rc (setk P k c) x = true := fun x hx => by
    have hc := lfp_cl (b := bR (setk P k c)) (FR_mon (setk P k c))
    have key := lfp_le (C := fun x => Rc P x && Rc (setk P k c) x) (FR_mon P) (b := bR P) ⟨fun y hy q => ?_, fun y hy q => ?_⟩ x (Rc_lt hx) hx
    · have key' : (Rc P x && Rc (setk P k c) x) = true := key
      rw [Bool.and_eq_true] at key'
      exact key'.2
    · show (Rc P y && Rc (setk P k c) y) = true
      rw [Bool.and_eq_true]
      exact ⟨(lfp_cl (FR_mon P)).1 y hy q, hc.1 y hy q⟩
    · obtain ⟨m, hm, q2⟩ := ex_iff.mp q
      simp only [Bool.and_eq_true] at q2
      show (Rc P y && Rc (setk P k c) y) = true
      rw [Bool.and_eq_true]
      refine ⟨Rc_nx hm q2.1.1 q2.2, hc.2 y hy (ex_iff.mpr ⟨m, hm, ?_⟩)⟩
      rw [Bool.and_eq_true, setk_nx (hne q2.1.1)]
      exact ⟨q2.1.2, q2.2⟩
  have e2 : ∀ x, Rc (setk P k c) x = true → Rc P x = true := fun x hx =>
    lfp_le (C := Rc P) (FR_mon (setk P k c)) (b := bR (setk P k c)) ⟨fun y hy q => (lfp_cl (FR_mon P)).1 y hy q, fun y hy q => by
      obtain ⟨m, hm, q2⟩ := ex_iff.mp q
      simp only [Bool.and_eq_true] at q2
      rw [setk_nx (hne q2.1)] at q2
      exact Rc_nx hm q2.1 q2.2⟩ x (Rc_lt (P := setk P k c) hx) hx
  refine ⟨rfl, rfl, rfl, rfl, funext (fun x => bimp (e2 x) (e1 x)), fun j hj => ?_⟩
  show (if j = k then c else pk P j) = pk P j
  rw [if_neg (hne hj)]
theorem setk_self {k c : Nat} (h : pk P k = c) : setk P k c = P := by
  unfold setk
  have : (fun j => if j = k then c else pk P j) = pk P := by
    funext j
    by_cases e : j = k
    · rw [if_pos e, e, h]
    · rw [if_neg e]
  rw [this]
theorem TE_setk (ho : pOK P) {k c : Nat} (hc : c < 10) (h : pk P k = c ∨ Rc P k = false) : TE (setk P k c) = TE P := by
  rcases h with h | h
  · rw [setk_self h]
  · exact (setk_AG h).TEq ho (setk_ok ho hc)
end AGs
