def AG (P P' : Pg) : Prop := pn P' = pn P ∧ px P' = px P ∧ pp P' = pp P ∧ pt P' = pt P ∧ Rc P' = Rc P ∧ ∀ j, Rc P j = true → pk P' j = pk P j
section AGs
variable {P P' : Pg}
theorem AG.symm (h : AG P P') : AG P' P := ⟨h.1.symm, h.2.1.symm, h.2.2.1.symm, h.2.2.2.1.symm, h.2.2.2.2.1.symm, fun j hj => (h.2.2.2.2.2 j (by rw [← h.2.2.2.2.1]; exact hj)).symm⟩
theorem AG.thr (h : AG P P') (k : Nat) : thr P' k = thr P k := by simp only [_root_.thr, h.2.2.1]
theorem AG.pv (h : AG P P') (k : Nat) : pv P' k = pv P k := by simp only [_root_.pv, h.2.2.1]
theorem AG.lnd (h : AG P P') {k : Nat} (hr : Rc P k = true) : lnd P' k = lnd P k := by simp only [_root_.lnd, h.2.2.2.2.2 k hr]
theorem AG.ak (h : AG P P') {k : Nat} (hr : Rc P k = true) : ak P' k = ak P k := by simp only [_root_.ak, h.2.2.2.2.2 k hr, h.thr]
theorem AG.nx (h : AG P P') {k : Nat} (hr : Rc P k = true) (m : Nat) : nx P' k m = nx P k m := by simp only [_root_.nx, h.2.2.2.2.2 k hr, h.1, h.2.2.2.1]
theorem AG.rd (h : AG P P') {k : Nat} (hr : Rc P k = true) (v : Nat) : rd P' k v = rd P k v := by simp only [_root_.rd, h.2.2.2.2.2 k hr, h.pv, h.thr]
theorem AG.wr (h : AG P P') {k : Nat} (hr : Rc P k = true) (v : Nat) : wr P' k v = wr P k v := by simp only [_root_.wr, h.2.2.2.2.2 k hr, h.pv, h.thr, h.lnd hr, h.2.1]
theorem AG.gt (h : AG P P') {k : Nat} (hr : Rc P k = true) : gt P' k = gt P k := by simp only [_root_.gt, h.2.2.2.2.2 k hr, h.thr]
theorem AG.mvs (h : AG P P') {k : Nat} (hr : Rc P k = true) : mvs P' k = mvs P k := by simp only [_root_.mvs, h.2.2.2.2.2 k hr, h.thr, h.lnd hr]
theorem AG.ed (h : AG P P') (k : Nat) : ed P' k = ed P k := by
  unfold _root_.ed
  rw [h.2.2.2.2.1]
  cases hr : Rc P k with
  | false => simp
  | true => rw [h.mvs hr]
theorem AG.Lo (h : AG P P') (k : Nat) : Lo P' k = Lo P k := by
  unfold _root_.Lo
  rw [h.2.2.2.2.1]
  cases hr : Rc P k with
  | false => simp only [Bool.false_and]
  | true => rw [h.lnd hr]
theorem Lo_rc {l : Nat} (h : Lo P l = true) : Rc P l = true := by
  simp only [Lo, Bool.and_eq_true] at h; exact h.1
theorem bimp {a b : Bool} (h1 : a = true → b = true) (h2 : b = true → a = true) : a = b := tt ⟨h1, h2⟩
theorem AG.Lv_le (h : AG P P') {v b : Nat} (hr : Rc P b = true) (e : Lv P v b = true) : Lv P' v b = true := by
  have hc := lfp_cl (b := b0) (FLv_mon P' v)
  have := lfp_le (C := fun x => !Rc P x || Lv P' v x) (FLv_mon P v) (b := b0) ⟨fun x _ q => by cases q, fun x hx q => by
    show (!Rc P x || Lv P' v x) = true
    cases hx' : Rc P x with
    | false => rfl
    | true =>
      show Lv P' v x = true
      refine hc.2 x (by rw [h.1]; exact hx) ?_
      simp only [FLv, Bool.and_eq_true, Bool.or_eq_true, decide_eq_true_eq] at q ⊢
      refine ⟨by rw [h.1]; exact q.1, ?_⟩
      rw [h.rd hx', h.wr hx', h.1]
      rcases q.2 with q2 | ⟨q2, q3⟩
      · exact Or.inl q2
      · obtain ⟨m, hm, q4⟩ := ex_iff.mp q3
        simp only [Bool.and_eq_true, Bool.or_eq_true, Bool.not_eq_true'] at q4
        have hrm := Rc_nx hx hx' q4.1
        refine Or.inr ⟨q2, ex_iff.mpr ⟨m, hm, ?_⟩⟩
        rw [h.nx hx', q4.1]
        rcases q4.2 with q5 | q5
        · rw [hrm] at q5; cases q5
        · have q5' : lfp (FLv P' v) b0 (pn P') m = true := q5
          rw [h.1] at q5'
          simp [q5']⟩ b (Rc_lt hr) e
  simp only [hr, Bool.not_true, Bool.false_or] at this
  exact this
theorem AG.Lv (h : AG P P') {v b : Nat} (hr : Rc P b = true) : Lv P' v b = Lv P v b := bimp (fun e => h.symm.Lv_le (by rw [h.2.2.2.2.1]; exact hr) e) (fun e => h.Lv_le hr e)
theorem AG.Rg_le (h : AG P P') (ho : pOK P) (ho' : pOK P') {v b : Nat} (hv : v < 8) (e : Rg P v b = true) : Rg P' v b = true := by
  have hc := lfp_cl (b := bRg P' b) (FRg_mon ho')
  refine lfp_le (C := fun v => Rg P' v b) (FRg_mon ho) (b := bRg P b) ⟨fun x hx q => hc.1 x hx ?_, fun x hx q => hc.2 x hx ?_⟩ v hv e
  · simp only [bRg, Bool.and_eq_true] at q ⊢
    exact ⟨q.1, h.Lv_le q.2.2 q.2.1, by rw [h.2.2.2.2.1]; exact q.2.2⟩
  · simp only [FRg, Bool.and_eq_true] at q ⊢
    obtain ⟨k, hk, q2⟩ := ex_iff.mp q.2
    refine ⟨q.1, ex_iff.mpr ⟨k, by rw [h.1]; exact hk, ?_⟩⟩
    rw [h.ed, h.pv, h.2.1]
    exact q2
theorem AG.Rg (h : AG P P') (ho : pOK P) (ho' : pOK P') {v b : Nat} (hv : v < 8) : Rg P' v b = Rg P v b := bimp (fun e => h.symm.Rg_le ho' ho hv e) (fun e => h.Rg_le ho ho' hv e)
theorem AG.rgn (h : AG P P') (ho : pOK P) (ho' : pOK P') (l x : Nat) : rgn P' l x = rgn P l x := by
  unfold _root_.rgn nvr
  rw [h.thr, h.pv, h.2.1, h.Rg ho ho' (ho.2 l).2.1]
theorem AG.Bh (h : AG P P') {k : Nat} (hr : Rc P k = true) (v b : Nat) (f : Bf) : Bh P' k v b f = Bh P k v b f := by
  unfold _root_.Bh
  rw [h.lnd hr, h.2.1, h.2.2.2.2.2 k hr, h.pv, h.thr]
end AGs
