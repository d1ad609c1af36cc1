def GS (F : Bf → Bf) (N : Nat) (g g' : Bf) : Prop := (∀ x, g x = true → g' x = true) ∧ (∀ x, x < N → F g x = true → g' x = true) ∧ ∀ C : Bf, (∀ x, x < N → F C x = true → C x = true) → (∀ x, g x = true → C x = true) → ∀ x, g' x = true → C x = true
def RI (F : Bf → Bf) (b : Bf) (N r : Nat) (g : Bf) : Prop := (∀ x, x < N → itr F b r x = true → g x = true) ∧ (∀ C, Cl F b N C → (∀ x, b x = true → C x = true) → ∀ x, g x = true → C x = true) ∧ ∀ x, g x = true → x < N
theorem RI.step {F : Bf → Bf} {b g g' : Bf} {N r : Nat} (hF : Mon F N) (hl : ∀ f x, F f x = true → x < N) (hb : ∀ x, b x = true → x < N) (h : RI F b N r g) (hg : GS F N g g') : RI F b N (r + 1) g' := by
  obtain ⟨h1, h2, h3⟩ := h
  obtain ⟨g1, g2, g3⟩ := hg
  refine ⟨fun x hx hi => ?_, fun C hC hb x hx => ?_, fun x hx => ?_⟩
  · have hi' : (itr F b r x || F (itr F b r) x) = true := hi
    rcases Bool.or_eq_true _ _ |>.mp hi' with hi | hi
    · exact g1 x (h1 x hx hi)
    · exact g2 x hx (hF _ _ h1 x hx hi)
  · exact g3 C hC.2 (fun y hy => h2 C hC hb y hy) x hx
  · have := g3 (fun x => decide (x < N)) (fun x hx _ => by simp [hx]) (fun x hx => by simp [h3 x hx]) x hx
    simpa using this
theorem RI.zero {F : Bf → Bf} {b : Bf} {N : Nat} (hb : ∀ x, b x = true → x < N) : RI F b N 0 b := ⟨fun _ _ h => h, fun _ _ hb x hx => hb x hx, hb⟩
theorem itr_lt {F : Bf → Bf} {b : Bf} {N : Nat} (hl : ∀ f x, F f x = true → x < N) (hb : ∀ x, b x = true → x < N) : ∀ j x, itr F b j x = true → x < N
  | 0, x, h => hb x h
  | j + 1, x, h => by
    have h' : (itr F b j x || F (itr F b j) x) = true := h
    rcases Bool.or_eq_true _ _ |>.mp h' with h1 | h1
    · exact itr_lt hl hb j x h1
    · exact hl _ x h1
theorem RI.fin {F : Bf → Bf} {b g : Bf} {N r : Nat} (hF : Mon F N) (hl : ∀ f x, F f x = true → x < N) (hb : ∀ x, b x = true → x < N) (hr : N ≤ r) (h : RI F b N r g) : ∀ x, g x = lfp F b N x := by
  obtain ⟨h1, h2, h3⟩ := h
  have up : ∀ i x, itr F b N x = true → itr F b (N + i) x = true := by
    intro i
    induction i with
    | zero => intro x h; exact h
    | succ i ih => intro x h; show (itr F b (N + i) x || _) = true; rw [ih x h]; rfl
  intro x
  by_cases hx : x < N
  · refine tt ⟨fun h => h2 _ (lfp_cl hF) (fun y hy => (lfp_cl hF).1 y (hb y hy) hy) x h, fun h => h1 x hx ?_⟩
    have := up (r - N) x h
    rwa [show N + (r - N) = r by omega] at this
  · exact tt ⟨fun h => absurd (h3 x h) hx, fun h => absurd (itr_lt hl hb _ x h) hx⟩
def FLv (P : Pg) (v : Nat) : Bf → Bf := fun f k => decide (k < pn P) && (rd P k v || (!wr P k v && ex (pn P) (fun m => nx P k m && f m)))
def b0 : Bf := fun _ => false
def Lv (P : Pg) (v : Nat) : Bf := lfp (FLv P v) b0 (pn P)
theorem FLv_mon (P : Pg) (v : Nat) : Mon (FLv P v) (pn P) := by
  intro f g h x hx e
  simp only [FLv, Bool.and_eq_true, Bool.or_eq_true, Bool.not_eq_true', decide_eq_true_eq] at e ⊢
  refine ⟨hx, ?_⟩
  rcases e.2 with e | ⟨e1, e2⟩
  · exact Or.inl e
  · refine Or.inr ⟨e1, ex_mon (fun m hm e3 => ?_) e2⟩
    rw [Bool.and_eq_true] at e3 ⊢
    exact ⟨e3.1, h m hm e3.2⟩
theorem FLv_lt (P : Pg) (v : Nat) (f : Bf) (x : Nat) (h : FLv P v f x = true) : x < pn P := by
  simp only [FLv, Bool.and_eq_true, decide_eq_true_eq] at h
  exact h.1
theorem b0_lt (N : Nat) (x : Nat) (h : b0 x = true) : x < N := by cases h
theorem Lv_lt {P : Pg} {v x : Nat} (h : Lv P v x = true) : x < pn P := itr_lt (FLv_lt P v) (b0_lt _) _ x h
def dn (k : Nat) : Int32 := match k with
  | 0 => -1
  | k + 1 => nI k
theorem dn_pred (k : Nat) : nI k + (-1) = dn k := by
  cases k with
  | zero => decide
  | succ k => exact pk_m1 k
theorem dn_top (k : Nat) : nI k - 1 = dn k := by
  cases k with
  | zero => decide
  | succ k => exact nI_pred k
theorem mkb_meet {f g : Bf} {n : Nat} (hn : n ≤ 25) (hf : ∀ x, f x = true → x < n) : (mkb f &&& mkb g = 0) = (ex n (fun m => f m && g m) = false) := by
  rw [mkb_and]
  apply propext
  rw [mkb_z]
  constructor
  · intro h
    cases e : ex n (fun m => f m && g m) with
    | false => rfl
    | true =>
      obtain ⟨x, h1, h2⟩ := ex_iff.mp e
      have h3 := h x (by omega)
      rw [h3] at h2; cases h2
  · intro h i _
    cases e : (f i && g i) with
    | false => rfl
    | true =>
      have : ex n (fun m => f m && g m) = true := ex_iff.mpr ⟨i, hf i (by rw [Bool.and_eq_true] at e; exact e.1), e⟩
      rw [this] at h; cases h
section LL
variable {P : Pg} {m : sh_S}
theorem mL_inner (h : PM P m) (ho : pOK P) {v : Nat} (hv : v < 8) (g : Bf) : ∃ g' : Bf, lp (fun q : Int32 × sh_S => f_X10_findsLive_L32 (nI v) q.1 q.2) FU (dn (pn P), ur m 5 (upd (m 5) v (mkb g))) = some (ur m 5 (upd (m 5) v (mkb g'))) ∧ GS (FLv P v) (pn P) g g' := by
  have hn := ho.1
  have hh := lp_dn (body := fun q : Int32 × sh_S => f_X10_findsLive_L32 (nI v) q.1 q.2) (fun k (f : Bf) => (dn k, ur m 5 (upd (m 5) v (mkb f))))
    (fun k f => k ≤ pn P ∧ (∀ x, g x = true → f x = true) ∧ (∀ j, k ≤ j → j < pn P → FLv P v g j = true → f j = true) ∧ (∀ C : Bf, (∀ x, x < pn P → FLv P v C x = true → C x = true) → (∀ x, g x = true → C x = true) → ∀ x, f x = true → C x = true))
    (fun e => ∃ f, e = ur m 5 (upd (m 5) v (mkb f)) ∧ GS (FLv P v) (pn P) g f)
    (fun k f ⟨hk, i1, i2, i3⟩ => by
      have hP : PM P (ur m 5 (upd (m 5) v (mkb f))) := h.row (by omega) _
      have e5 : ur m 5 (upd (m 5) v (mkb f)) 5 v = mkb f := by rw [ur_s, upd_s]
      have eu : ∀ w, ur (ur m 5 (upd (m 5) v (mkb f))) 5 (upd (ur m 5 (upd (m 5) v (mkb f)) 5) v (mkb w)) = ur m 5 (upd (m 5) v (mkb w)) := by intro w; rw [ur_ur, ur_s, upd_upd]
      have hiv : inb (nI v) 8 := inb_n hv (by omega)
      refine ⟨fun x => f x || (decide (x = k) && FLv P v f k), ?_, by omega, fun x hx => by simp [i1 x hx], fun j hj hj2 hF => ?_, fun C hC hg x hx => ?_⟩
      · show f_X10_findsLive_L32 (nI v) (nI k) (ur m 5 (upd (m 5) v (mkb f))) = some (.inl (dn k, _))
        unfold f_X10_findsLive_L32
        rw [if_neg (nI_pos (by omega)), m_readsOf hP ho (by omega), ob_e, m_isIn (by omega), ob_e, m_writesOf hP ho (by omega), ob_e, m_isIn (by omega), ob_e, m_nextOf hP ho (by omega), ob_e]
        simp only [gu_t hiv, ix_n (show v < 2 ^ 31 by omega), e5, bi_0, lb_e, mkb_meet (show pn P ≤ 25 by omega) (fun x hx => nx_lt hx), mkb_one (show k < 25 by omega), dn_pred]
        have hkn : k < pn P := by omega
        have eF : FLv P v f k = (rd P k v || (!wr P k v && ex (pn P) (fun m => nx P k m && f m))) := by simp [FLv, hkn]
        rw [eF]
        cases c1 : rd P k v <;> cases c2 : wr P k v <;> cases c3 : ex (pn P) (fun m => nx P k m && f m) <;> simp [ob, mkb_or, eu]
      · by_cases e : j = k
        · subst e
          have := FLv_mon P v g f (fun x _ hx => i1 x hx) j hj2 hF
          simp [this]
        · simp [i2 j (by omega) hj2 hF]
      · simp only [Bool.or_eq_true, Bool.and_eq_true, decide_eq_true_eq] at hx
        rcases hx with hx | ⟨rfl, hx⟩
        · exact i3 C hC hg x hx
        · exact hC x (by omega) (FLv_mon P v f C (fun y _ hy => i3 C hC hg y hy) x (by omega) hx))
    (fun f ⟨_, i1, i2, i3⟩ => ⟨_, by
      show f_X10_findsLive_L32 (nI v) (-1) (ur m 5 (upd (m 5) v (mkb f))) = _
      unfold f_X10_findsLive_L32
      rw [if_pos (by decide)], f, rfl, i1, fun j hj hF => i2 j (Nat.zero_le _) hj hF, i3⟩)
    FU (pn P) g ⟨Nat.le_refl _, fun _ hx => hx, fun j h1 h2 => by omega, fun C _ hg x hx => hg x hx⟩ (FU_gt (by omega))
  obtain ⟨e, h1, f, rfl, h2⟩ := hh
  exact ⟨f, h1, h2⟩
theorem mL_mid (h : PM P m) (ho : pOK P) {v : Nat} (hv : v < 8) : lp (fun q : Int32 × sh_S => f_X10_findsLive_L17 (nI v) q.1 q.2) FU ((0 : Int32), ur m 5 (upd (m 5) v 0)) = some (ur m 5 (upd (m 5) v (mkb (Lv P v)))) := by
  have hn := ho.1
  have hh := lp_for (body := fun q : Int32 × sh_S => f_X10_findsLive_L17 (nI v) q.1 q.2) (fun k (f : Bf) => (nI k, ur m 5 (upd (m 5) v (mkb f)))) (pn P)
    (fun r f => RI (FLv P v) b0 (pn P) r f)
    (fun e => e = ur m 5 (upd (m 5) v (mkb (Lv P v))))
    (fun k f hk hi => by
      obtain ⟨g', e1, e2⟩ := mL_inner h ho hv f
      refine ⟨g', ?_, hi.step (FLv_mon P v) (FLv_lt P v) (b0_lt _) e2⟩
      show f_X10_findsLive_L17 (nI v) (nI k) (ur m 5 (upd (m 5) v (mkb f))) = _
      unfold f_X10_findsLive_L17
      rw [ur_n _ _ (by omega), h.1, if_neg (nI_ge hk (by omega)), lb_e, dn_top, e1, ob_e, lb_e, nI_1])
    (fun f hi => ⟨_, by
      show f_X10_findsLive_L17 (nI v) (nI (pn P)) (ur m 5 (upd (m 5) v (mkb f))) = _
      unfold f_X10_findsLive_L17
      rw [ur_n _ _ (by omega), h.1, if_pos (nI_le (Nat.le_refl _) (by omega))], by
      rw [mkb_ext (fun x _ => hi.fin (FLv_mon P v) (FLv_lt P v) (b0_lt _) (Nat.le_refl _) x)]; rfl⟩)
    FU 0 b0 (Nat.zero_le _) (RI.zero (b0_lt _)) (FU_gt (by omega))
  obtain ⟨e, h1, rfl⟩ := hh
  have e0 : mkb b0 = 0 := mkb_0.symm
  rw [← h1]
  show lp _ FU (nI 0, _) = lp _ FU (nI 0, _)
  rw [e0]
def rowL (P : Pg) (m : sh_S) (v : Nat) : Nat → Int32 := fun j => if j < v then mkb (Lv P j) else m 5 j
theorem m_findsLive (h : PM P m) (ho : pOK P) : f_X10_findsLive m = some (ur m 5 (rowL P m 8)) := by
  unfold f_X10_findsLive
  have e0 : ur m 5 (rowL P m 0) = m := by
    have : rowL P m 0 = m 5 := by funext j; simp [rowL]
    rw [this, ur_id]
  have key := lp_fn (body := fun q : Int32 × sh_S => f_X10_findsLive_L2 q.1 q.2) (fun k (s : sh_S) => (nI k, s)) 8 (fun k => ur m 5 (rowL P m k)) (ur m 5 (rowL P m 8))
    (fun k hk => by
      show f_X10_findsLive_L2 (nI k) (ur m 5 (rowL P m k)) = _
      unfold f_X10_findsLive_L2
      rw [if_neg (show ¬ (8 : Int32) ≤ nI k from nI_ge (b := 8) hk (by omega)), gu_t (inb_n hk (by omega)), lb_e, ix_n (by omega), mL_mid (h.row (by omega) _) ho hk, ob_e, lb_e, nI_1, ur_ur, ur_s]
      congr 4
      funext j
      unfold rowL upd
      by_cases e : j = k
      · subst e; simp
      · by_cases e2 : j < k
        · simp [e, e2, show j < k + 1 by omega]
        · simp [e, e2, show ¬ j < k + 1 by omega])
    (by
      show f_X10_findsLive_L2 (nI 8) (ur m 5 (rowL P m 8)) = _
      unfold f_X10_findsLive_L2
      rw [if_pos (by decide)])
    (FU_gt (show 8 < 6000 by omega))
  rw [e0] at key
  refine (congrArg (fun z => ob z _) key).trans ?_
  rfl
end LL
