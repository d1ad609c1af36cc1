def at1 (q : Option Nat) (f : Bf) : Bool := match q with
  | none => false
  | some m => f m
theorem ex_nx (P : Pg) (k : Nat) (f : Bf) : ex (pn P) (fun m => nx P k m && f m) = (at1 (on P k) f || at1 (asd P k) f) := by
  apply tt
  rw [ex_iff, Bool.or_eq_true]
  constructor
  · rintro ⟨m, hm, h⟩
    rw [Bool.and_eq_true, nx_on] at h
    rcases h with ⟨h | h, hf⟩
    · left; rw [h]; exact hf
    · right; rw [h]; exact hf
  · rintro (h | h)
    · cases e : on P k with
      | none => rw [e] at h; cases h
      | some m =>
        rw [e] at h
        exact ⟨m, on_lt e, by rw [(nx_on P k m).mpr (Or.inl e)]; exact h⟩
    · cases e : asd P k with
      | none => rw [e] at h; cases h
      | some m =>
        rw [e] at h
        exact ⟨m, asd_lt e, by rw [(nx_on P k m).mpr (Or.inr e)]; exact h⟩
/-- reads a row at a point that may be none -/
theorem rd_at {n : Nat} {g : Nat → Int32} {R : Nat → Bf} {q : Option Nat} (hn : n ≤ 24) (hq : ∀ m, q = some m → m < n) (hg : ∀ m, m < n → g m = mkb (R m)) : (if oe q = (-1 : Int32) then some (0 : Int32) else gu (inb (oe q) 24) (some (g (ix (oe q))))) = some (mkb (fun v => at1 q (fun m => R m v))) := by
  cases q with
  | none =>
    show (if (-1 : Int32) = -1 then some (0 : Int32) else _) = _
    rw [if_pos rfl, mkb_0]; rfl
  | some m =>
    have hm := hq m rfl
    show (if nI m = (-1 : Int32) then some (0 : Int32) else gu (inb (nI m) 24) (some (g (ix (nI m))))) = _
    rw [if_neg (neg1 (by omega)), gu_t (inb_n (by omega) (by omega)), ix_n (by omega), hg m hm]
    rfl
theorem rd_lt8 {P : Pg} (ho : pOK P) {k v : Nat} (h : rd P k v = true) : v < 8 := by
  simp only [rd, Bool.and_eq_true, decide_eq_true_eq] at h
  rw [h.1]; exact pv_lt ho k
theorem bi_shl {k : Nat} (hk : k < 25) (c : Bool) : bi c <<< (nI k &&& 31) = mkb (fun i => c && decide (i = k)) := by
  cases c with
  | true => show (1 : Int32) <<< _ = _; rw [mkb_one hk]; rfl
  | false =>
    show (0 : Int32) <<< _ = _
    apply b_ext; intro i hi
    rw [b_shl k (by omega) _ hi, b_0, bt_mkb]; simp
section XL
variable {P : Pg} {s : sh_S}
def S16 (P : Pg) (s : sh_S) (a : Nat → Bf) : sh_S := ur s 16 (rwN (s 16) (pn P) (fun k v => decide (v < 8) && a v k))
theorem S16_n (a : Nat → Bf) {k : Nat} (h : k ≠ 16) : S16 P s a k = s k := by unfold S16; rw [ur_n _ _ h]
theorem S16_r (a : Nat → Bf) {k : Nat} (h : k < pn P) : S16 P s a 16 k = mkb (fun v => decide (v < 8) && a v k) := by unfold S16; rw [ur_s, rwN_lt h]
theorem S16_up (a a' : Nat → Bf) {k : Nat} (hk : k < pn P) (h1 : ∀ v x, x ≠ k → a' v x = a v x) : ur (S16 P s a) 16 (upd (S16 P s a 16) k (mkb (fun v => decide (v < 8) && a' v k))) = S16 P s a' := by
  unfold S16
  rw [ur_ur, ur_s, rwN_upd _ _ _ hk]
  congr 1
  refine rwN_ext (fun x _ b _ => ?_)
  by_cases e : x = k
  · simp [e]
  · simp [e, h1 b x e]
theorem xL_in (h : NX P s) (hu : UX P s) (ho : pOK P) (g : Nat → Bf) (hD : ∀ v, v < 8 → ∀ x, g v x = true → FLv P v (g v) x = true) : ∃ fl g', lp (fun q : Int32 × Int32 × sh_S => f_X2_findLive_L47 q.1 q.2.1 q.2.2) FU ((0 : Int32), dn (pn P), S16 P s g) = some (bi fl, S16 P s g') ∧ (∀ v, v < 8 → ∀ x, g' v x = true → FLv P v (g' v) x = true) ∧ (∀ v, v < 8 → GS (FLv P v) (pn P) (g v) (g' v)) ∧ (fl = false → ∀ v, v < 8 → ∀ x, x < pn P → g' v x = g v x) := by
  have hn := ho.1
  have hh := lp_dn (body := fun q : Int32 × Int32 × sh_S => f_X2_findLive_L47 q.1 q.2.1 q.2.2) (fun k (f : Bool × (Nat → Bf)) => (bi f.1, dn k, S16 P s f.2))
    (fun k f => k ≤ pn P ∧ (∀ v, v < 8 → (∀ x, g v x = true → f.2 v x = true) ∧ (∀ j, k ≤ j → j < pn P → FLv P v (g v) j = true → f.2 v j = true) ∧ (∀ C : Bf, (∀ x, x < pn P → FLv P v C x = true → C x = true) → (∀ x, g v x = true → C x = true) → ∀ x, f.2 v x = true → C x = true)) ∧ (∀ v, v < 8 → ∀ x, f.2 v x = true → FLv P v (f.2 v) x = true) ∧ (f.1 = false → ∀ v, v < 8 → ∀ x, x < pn P → f.2 v x = g v x))
    (fun e => ∃ fl f, e = (bi fl, S16 P s f) ∧ (∀ v, v < 8 → ∀ x, f v x = true → FLv P v (f v) x = true) ∧ (∀ v, v < 8 → GS (FLv P v) (pn P) (g v) (f v)) ∧ (fl = false → ∀ v, v < 8 → ∀ x, x < pn P → f v x = g v x))
    (fun k f ⟨hk, i1, i2, i3⟩ => by
      obtain ⟨fl, f⟩ := f
      simp only at i1 i2 i3
      have hkn : k < pn P := by omega
      have ik : inb (nI k) 24 := inb_n (by omega) (by omega)
      have hup : ∀ v, v < 8 → ∀ x, f v x = true → (if x = k then FLv P v (f v) k else f v x) = true := fun v hv x hx => by
        by_cases e : x = k
        · subst e; rw [if_pos rfl]; exact i2 v hv x hx
        · rw [if_neg e]; exact hx
      refine ⟨(fl || !decide (mkb (fun v => decide (v < 8) && FLv P v (f v) k) = mkb (fun v => decide (v < 8) && f v k)), fun v x => if x = k then FLv P v (f v) k else f v x), ?_, by omega, fun v hv => ⟨fun x hx => hup v hv x ((i1 v hv).1 x hx), fun j hj hj2 hF => ?_, fun C hC hg x hx => ?_⟩, fun v hv x hx => ?_, fun hf v hv x hx => ?_⟩
      · show f_X2_findLive_L47 (bi fl) (nI k) (S16 P s f) = _
        unfold f_X2_findLive_L47
        rw [if_neg (nI_pos (by omega))]
        simp only [gu_t ik, ix_n (show k < 2 ^ 31 by omega), S16_n f (show 12 ≠ 16 by omega), S16_n f (show 13 ≠ 16 by omega), S16_n f (show 14 ≠ 16 by omega), S16_n f (show 15 ≠ 16 by omega), (h.2 k hkn).1, (h.2 k hkn).2, (hu k hkn).1, (hu k hkn).2.1]
        rw [rd_at hn (fun m hm => on_lt hm) (fun m hm => S16_r f hm), ob_e, rd_at hn (fun m hm => asd_lt hm) (fun m hm => S16_r f hm), ob_e]
        simp only [lb_e, mkb_or, mkb_nand]
        have e1 : mkb (fun v => rd P k v || (at1 (on P k) (fun m => decide (v < 8) && f v m) || at1 (asd P k) (fun m => decide (v < 8) && f v m)) && !wr P k v) = mkb (fun v => decide (v < 8) && FLv P v (f v) k) := by
          refine mkb_ext (fun v _ => ?_)
          by_cases hv : v < 8
          · have e2 : FLv P v (f v) k = (rd P k v || (!wr P k v && (at1 (on P k) (f v) || at1 (asd P k) (f v)))) := by simp [FLv, hkn, ex_nx]
            simp only [hv, decide_true, Bool.true_and, e2]
            rw [Bool.and_comm (!wr P k v)]
          · have e3 : rd P k v = false := by
              cases e : rd P k v
              · rfl
              · exact absurd (rd_lt8 ho e) hv
            have e4 : ∀ q : Option Nat, at1 q (fun m => decide (v < 8) && f v m) = false := fun q => by cases q <;> simp [at1, hv]
            rw [e3, e4, e4]; simp [hv]
        rw [e1, S16_r f hkn]
        by_cases e : mkb (fun v => decide (v < 8) && FLv P v (f v) k) = mkb (fun v => decide (v < 8) && f v k)
        · rw [if_pos e]
          simp only [ob2_e, dn_pred, e, decide_true, Bool.not_true, Bool.or_false]
          have : S16 P s f = S16 P s (fun v x => if x = k then FLv P v (f v) k else f v x) := by
            unfold S16
            congr 1
            refine rwN_ext (fun x _ b hb => ?_)
            by_cases e' : x = k
            · subst e'; simp only [if_true]; exact (mkb_inj e hb).symm
            · simp [e']
          rw [← this]
        · rw [if_neg e]
          simp only [ob2_e, dn_pred, e, decide_false, Bool.not_false, Bool.or_true]
          have := S16_up (P := P) (s := s) f (fun v x => if x = k then FLv P v (f v) k else f v x) hkn (fun v x hx => by simp [hx])
          simp only [if_true] at this
          rw [this]
          rfl
      · by_cases e : j = k
        · subst e
          simp only [if_true]
          exact FLv_mon P v _ _ (fun x _ hx => (i1 v hv).1 x hx) j hj2 hF
        · simp only [e, if_false]
          exact (i1 v hv).2.1 j (by omega) hj2 hF
      · by_cases e : x = k
        · subst e
          simp only [if_true] at hx
          exact hC x hkn (FLv_mon P v _ _ (fun y _ hy => (i1 v hv).2.2 C hC hg y hy) x hkn hx)
        · simp only [e, if_false] at hx
          exact (i1 v hv).2.2 C hC hg x hx
      · have hm := FLv_mon P v (f v) (fun x => if x = k then FLv P v (f v) k else f v x) (fun x _ hx => hup v hv x hx)
        by_cases e : x = k
        · subst e
          simp only [if_true] at hx
          exact hm x hkn hx
        · simp only [e, if_false] at hx
          have := i2 v hv x hx
          exact hm x (FLv_lt P v _ _ this) this
      · simp only [Bool.or_eq_false_iff, Bool.not_eq_false', decide_eq_true_eq] at hf
        by_cases e : x = k
        · subst e
          simp only [if_true]
          have := mkb_inj hf.2 (i := v) (by omega)
          simp only [hv, decide_true, Bool.true_and] at this
          rw [this]; exact i3 hf.1 v hv x hx
        · simp only [e, if_false]
          exact i3 hf.1 v hv x hx)
    (fun f ⟨_, i1, i2, i3⟩ => ⟨_, by
      show f_X2_findLive_L47 (bi f.1) (-1) (S16 P s f.2) = _
      unfold f_X2_findLive_L47
      rw [if_pos (by decide)], f.1, f.2, rfl, i2, fun v hv => ⟨(i1 v hv).1, fun j hj hF => (i1 v hv).2.1 j (Nat.zero_le _) hj hF, (i1 v hv).2.2⟩, i3⟩)
    FU (pn P) (false, g) ⟨Nat.le_refl _, fun v hv => ⟨fun _ hx => hx, fun j h1 h2 => by omega, fun C _ hg x hx => hg x hx⟩, hD, fun _ _ _ _ _ => rfl⟩ (FU_gt (by omega))
  obtain ⟨e, h1, fl, f, rfl, h2⟩ := hh
  exact ⟨fl, f, h1, h2⟩
theorem xL_zero (ho : pOK P) (h7 : s 11 7 = nI (pn P)) : lp (fun q : Int32 × sh_S => f_X2_findLive_L2 q.1 q.2) FU ((0 : Int32), s) = some (S16 P s (fun _ => b0)) := by
  have hn := ho.1
  have key := lp_fn (body := fun q : Int32 × sh_S => f_X2_findLive_L2 q.1 q.2) (fun j (g : Nat → Int32) => (nI j, ur s 16 g)) (pn P) (fun j => fun x => if x < j then 0 else s 16 x) (S16 P s (fun _ => b0))
    (fun j hj => by
      show f_X2_findLive_L2 (nI j) (ur s 16 _) = _
      unfold f_X2_findLive_L2
      rw [ur_n _ _ (by omega), h7, if_neg (nI_ge hj (by omega)), gu_t (inb_n (by omega) (by omega)), lb_e, lb_e, ix_n (by omega), ur_ur, ur_s, nI_1]
      congr 3
      congr 1
      funext x
      by_cases e : x = j
      · subst e; simp [upd]
      · rw [upd_n _ _ e]
        by_cases e2 : x < j
        · simp [e2, show x < j + 1 by omega]
        · simp [e2, show ¬ x < j + 1 by omega])
    (by
      show f_X2_findLive_L2 (nI (pn P)) (ur s 16 _) = _
      unfold f_X2_findLive_L2
      rw [ur_n _ _ (by omega), h7, if_pos (nI_le (Nat.le_refl _) (by omega))]
      congr 2
      unfold S16
      congr 1
      funext x
      unfold rwN
      have : mkb (fun v => decide (v < 8) && b0 x) = 0 := by rw [mkb_0]; exact mkb_ext (fun i _ => by simp [b0])
      rw [this])
    (FU_gt (show pn P < 6000 by omega))
  rw [← key]
  show lp _ FU (nI 0, s) = lp _ FU (nI 0, ur s 16 _)
  congr 2
  exact (ur_id s 16).symm
theorem x_findLive (h : NX P s) (hu : UX P s) (ho : pOK P) : f_X2_findLive s = some (S16 P s (Lv P)) := by
  have hn := ho.1
  unfold f_X2_findLive
  rw [xL_zero ho h.1, ob_e]
  obtain ⟨a', h1, -, h2⟩ := lp_fix (body := fun q : Int32 × Int32 × sh_S => f_X2_findLive_L27 q.1 q.2.1 q.2.2) (fun fl j a => (bi fl, nI j, S16 P s a)) (fun v => FLv P v) (fun _ => b0) (pn P) 8 (by omega) (fun v => FLv_mon P v) (fun v => FLv_lt P v) (fun _ => b0_lt _) (fun a => S16 P s a) (fun a => ∀ v, v < 8 → ∀ x, a v x = true → FLv P v (a v) x = true) (fun _ _ _ hx => by cases hx)
    (fun j a => by
      show f_X2_findLive_L27 0 (nI j) _ = _
      unfold f_X2_findLive_L27
      rw [if_pos rfl])
    (fun a => by
      show f_X2_findLive_L27 1 (nI 1000) _ = _
      unfold f_X2_findLive_L27
      rw [if_neg (by decide), if_pos (by decide)])
    (fun j a hj hJ hlt => by
      obtain ⟨fl, g', e1, e2, e3, e4⟩ := xL_in h hu ho a hJ
      refine ⟨fl, g', ?_, e2, e3, e4⟩
      show f_X2_findLive_L27 1 (nI j) (S16 P s a) = _
      unfold f_X2_findLive_L27
      rw [if_neg (by decide), if_neg (show ¬ (1000 : Int32) ≤ nI j from nI_ge (b := 1000) hj (by omega)), lb_e, S16_n a (by omega), h.1, dn_top, e1, ob2_e, lb_e, nI_1])
  have h1' : lp (fun q : Int32 × Int32 × sh_S => f_X2_findLive_L27 q.1 q.2.1 q.2.2) FU ((1 : Int32), (0 : Int32), S16 P s (fun _ => b0)) = some (S16 P s a') := h1
  rw [h1', ob_e]
  congr 1
  unfold S16
  congr 1
  refine rwN_ext (fun x _ b _ => ?_)
  by_cases hb : b < 8
  · rw [h2 b hb x]; rfl
  · simp [hb]
theorem x_livePoints (h7 : s 11 7 = nI (pn P)) (ho : pOK P) (h16 : ∀ k, k < pn P → s 16 k = mkb (fun v => decide (v < 8) && Lv P v k)) {v : Nat} (hv : v < 8) : f_X2_livePoints (nI v) s = some (mkb (Lv P v)) := by
  have hn := ho.1
  unfold f_X2_livePoints
  have key := lp_fn (body := fun q : Int32 × Int32 => f_X2_livePoints_L4 (nI v) s q.1 q.2) (fun j (g : Bf) => (mkb g, nI j)) (pn P) (fun j => fun x => decide (x < j) && Lv P v x) (mkb (Lv P v))
    (fun j hj => by
      show f_X2_livePoints_L4 (nI v) s (mkb (fun x => decide (x < j) && Lv P v x)) (nI j) = _
      unfold f_X2_livePoints_L4
      rw [h7, if_neg (nI_ge hj (by omega)), gu_t (inb_n (by omega) (by omega)), ix_n (by omega), h16 j hj, mkb_bit (by omega), bi_shl (by omega), mkb_or, lb_e, lb_e, nI_1]
      congr 3
      refine mkb_ext (fun x _ => ?_)
      by_cases e : x = j
      · subst e; simp [hv]
      · by_cases e2 : x < j
        · simp [e, e2, show x < j + 1 by omega]
        · simp [e, e2, show ¬ x < j + 1 by omega])
    (by
      show f_X2_livePoints_L4 (nI v) s (mkb (fun x => decide (x < pn P) && Lv P v x)) (nI (pn P)) = _
      unfold f_X2_livePoints_L4
      rw [h7, if_pos (nI_le (Nat.le_refl _) (by omega))]
      refine congrArg (fun z => some (Sum.inr z)) (mkb_ext (fun x _ => ?_))
      cases e : Lv P v x
      · simp
      · simp [Lv_lt e])
    (FU_gt (show pn P < 6000 by omega))
  have e0 : mkb (fun x => decide (x < 0) && Lv P v x) = 0 := by rw [mkb_0]; exact mkb_ext (fun x _ => by simp)
  have key' : lp (fun q : Int32 × Int32 => f_X2_livePoints_L4 (nI v) s q.1 q.2) FU (mkb (fun x => decide (x < 0) && Lv P v x), (0 : Int32)) = some (mkb (Lv P v)) := key
  rw [e0] at key'
  rw [key', ob_e]
def S18 (s : sh_S) (a : Nat → Bf) : sh_S := ur s 18 (rwN (s 18) 8 (fun v b => a b v))
theorem S18_n (a : Nat → Bf) {k : Nat} (h : k ≠ 18) : S18 s a k = s k := by unfold S18; rw [ur_n _ _ h]
theorem S18_r (a : Nat → Bf) {k : Nat} (h : k < 8) : S18 s a 18 k = mkb (fun b => a b k) := by unfold S18; rw [ur_s, rwN_lt h]
theorem S18_up (a : Nat → Bf) {p : Nat} (hp : p < 8) (w : Bf) : ur (S18 s a) 18 (upd (S18 s a 18) p (mkb w)) = S18 s (fun b v => if v = p then w b else a b v) := by
  unfold S18
  rw [ur_ur, ur_s, rwN_upd _ _ _ hp]
  congr 1
  refine rwN_ext (fun x _ b _ => ?_)
  by_cases e : x = p <;> simp [e]
theorem xG_in (hX : LX P s) (h7 : s 11 7 = nI (pn P)) (hr : s 11 8 = mkb (Rc P)) (hu : UX P s) (ho : pOK P) (g : Nat → Bf) : ∃ fl g', lp (fun q : Int32 × Int32 × sh_S => f_X2_findRegions_L50 q.1 q.2.1 q.2.2) FU ((0 : Int32), (0 : Int32), S18 s g) = some (bi fl, S18 s g') ∧ (∀ b, b < 25 → GS (FRg P) 8 (g b) (g' b)) ∧ (fl = false → ∀ b, b < 25 → ∀ x, x < 8 → g' b x = g b x) := by
  have hn := ho.1
  have hh := lp_for (body := fun q : Int32 × Int32 × sh_S => f_X2_findRegions_L50 q.1 q.2.1 q.2.2) (fun k (f : Bool × (Nat → Bf)) => (bi f.1, nI k, S18 s f.2)) (pn P)
    (fun k f => (∀ b, b < 25 → (∀ x, g b x = true → f.2 b x = true) ∧ (∀ j, j < k → ed P j = true → g b (px P j) = true → f.2 b (pv P j) = true) ∧ (∀ C : Bf, (∀ x, x < 8 → FRg P C x = true → C x = true) → (∀ x, g b x = true → C x = true) → ∀ x, f.2 b x = true → C x = true)) ∧ (f.1 = false → ∀ b, b < 25 → ∀ x, x < 8 → f.2 b x = g b x))
    (fun e => ∃ fl f, e = (bi fl, S18 s f) ∧ (∀ b, b < 25 → GS (FRg P) 8 (g b) (f b)) ∧ (fl = false → ∀ b, b < 25 → ∀ x, x < 8 → f b x = g b x))
    (fun k f hk ⟨i1, i3⟩ => by
      obtain ⟨fl, f⟩ := f
      simp only at i1 i3
      have ik : inb (nI k) 24 := inb_n (by omega) (by omega)
      have hpv := pv_lt ho k
      have hpx := (ho.2 k).2.1
      have x2 := (hX.2 k (by omega)).2.1
      by_cases he : ed P k = true
      · have he' := he
        simp only [ed, Bool.and_eq_true] at he'
        refine ⟨(fl || !decide (mkb (fun b => f b (pv P k) || f b (px P k)) = mkb (fun b => f b (pv P k))), fun b v => if v = pv P k then (f b (pv P k) || f b (px P k)) else f b v), ?_, fun b hb => ⟨fun x hx => ?_, fun j hj hj2 hF => ?_, fun C hC hg x hx => ?_⟩, fun hf b hb x hx => ?_⟩
        · show f_X2_findRegions_L50 (bi fl) (nI k) (S18 s f) = _
          unfold f_X2_findRegions_L50
          rw [S18_n f (by omega), h7, if_neg (nI_ge hk (by omega))]
          simp only [gu_t ik, ix_n (show k < 2 ^ 31 by omega), S18_n f (show 17 ≠ 18 by omega), S18_n f (show 11 ≠ 18 by omega), S18_n f (show 2 ≠ 18 by omega), (hu k hk).2.2, hr, x2, lb_e, show oe (src P k) = nI (pv P k) by unfold src; rw [if_pos he'.1]; rfl, if_neg (neg1 (show pv P k < 2 ^ 31 by omega)), x_hasBit (show k < 25 by omega), ob_e, bi_z0, he'.2, Bool.true_eq_false, if_false, gu_t (inb_n hpv (show 8 < 2 ^ 31 by omega)), gu_t (inb_n hpx (show 8 < 2 ^ 31 by omega)), ix_n (show pv P k < 2 ^ 31 by omega), ix_n (show px P k < 2 ^ 31 by omega), S18_r f hpv, S18_r f hpx, mkb_or, nI_1]
          by_cases e : mkb (fun b => f b (pv P k) || f b (px P k)) = mkb (fun b => f b (pv P k))
          · rw [if_pos e]
            simp only [ob2_e, e, decide_true, Bool.not_true, Bool.or_false]
            have : S18 s f = S18 s (fun b v => if v = pv P k then (f b (pv P k) || f b (px P k)) else f b v) := by
              unfold S18
              congr 1
              refine rwN_ext (fun x _ b hb => ?_)
              by_cases e' : x = pv P k
              · subst e'; simp only [if_true]; exact (mkb_inj e hb).symm
              · simp [e']
            rw [← this]
          · rw [if_neg e]
            simp only [ob2_e, e, decide_false, Bool.not_false, Bool.or_true, S18_up f hpv]
            rfl
        · have := (i1 b hb).1 x hx
          by_cases e : x = pv P k
          · subst e; simp [this]
          · simp [e, this]
        · by_cases e : j = k
          · subst e; simp [(i1 b hb).1 _ hF]
          · have := (i1 b hb).2.1 j (by omega) hj2 hF
            by_cases e2 : pv P j = pv P k
            · rw [e2] at this; simp [e2, this]
            · simp [e2, this]
        · by_cases e : x = pv P k
          · subst e
            simp only [if_true, Bool.or_eq_true] at hx
            rcases hx with hx | hx
            · exact (i1 b hb).2.2 C hC hg _ hx
            · refine hC _ hpv ?_
              have hc := (i1 b hb).2.2 C hC hg _ hx
              simp only [FRg, Bool.and_eq_true, decide_eq_true_eq]
              exact ⟨hpv, ex_iff.mpr ⟨k, hk, by simp [he, hc]⟩⟩
          · simp only [e, if_false] at hx
            exact (i1 b hb).2.2 C hC hg x hx
        · simp only [Bool.or_eq_false_iff, Bool.not_eq_false', decide_eq_true_eq] at hf
          by_cases e : x = pv P k
          · subst e
            simp only [if_true]
            rw [mkb_inj hf.2 hb]
            exact i3 hf.1 b hb _ hx
          · simp only [e, if_false]
            exact i3 hf.1 b hb x hx
      · refine ⟨(fl, f), ?_, fun b hb => ⟨(i1 b hb).1, fun j hj hj2 hF => ?_, (i1 b hb).2.2⟩, i3⟩
        · show f_X2_findRegions_L50 (bi fl) (nI k) (S18 s f) = _
          unfold f_X2_findRegions_L50
          rw [S18_n f (by omega), h7, if_neg (nI_ge hk (by omega))]
          simp only [gu_t ik, ix_n (show k < 2 ^ 31 by omega), S18_n f (show 17 ≠ 18 by omega), S18_n f (show 11 ≠ 18 by omega), (hu k hk).2.2, hr, lb_e, x_hasBit (show k < 25 by omega), ob_e, bi_z0, nI_1]
          by_cases e : mvs P k = true
          · have e2 : Rc P k = false := by
              cases q : Rc P k
              · rfl
              · exact absurd (by simp [ed, e, q]) he
            simp only [show oe (src P k) = nI (pv P k) by unfold src; rw [if_pos e]; rfl, if_neg (neg1 (show pv P k < 2 ^ 31 by omega)), e2, if_true, ob2_e]
          · simp only [show oe (src P k) = -1 by unfold src; rw [if_neg e]; rfl, if_true, ob2_e]
        · by_cases e : j = k
          · subst e; exact absurd hj2 he
          · exact (i1 b hb).2.1 j (by omega) hj2 hF)
    (fun f ⟨i1, i3⟩ => ⟨_, by
      show f_X2_findRegions_L50 (bi f.1) (nI (pn P)) (S18 s f.2) = _
      unfold f_X2_findRegions_L50
      rw [S18_n f.2 (by omega), h7, if_pos (nI_le (Nat.le_refl _) (by omega))], f.1, f.2, rfl, fun b hb => ⟨(i1 b hb).1, fun x hx hF => by
        simp only [FRg, Bool.and_eq_true, decide_eq_true_eq] at hF
        obtain ⟨k, hk, hy⟩ := ex_iff.mp hF.2
        simp only [Bool.and_eq_true, decide_eq_true_eq] at hy
        rw [← hy.1.2]
        exact (i1 b hb).2.1 k hk hy.1.1 hy.2, (i1 b hb).2.2⟩, i3⟩)
    FU 0 (false, g) (Nat.zero_le _) ⟨fun b hb => ⟨fun _ hx => hx, fun j hj => by omega, fun C _ hg x hx => hg x hx⟩, fun _ _ _ _ _ => rfl⟩ (FU_gt (by omega))
  obtain ⟨e, h1, fl, f, rfl, h2⟩ := hh
  exact ⟨fl, f, h1, h2⟩
theorem x_findRegions (hX : LX P s) (h7 : s 11 7 = nI (pn P)) (hr : s 11 8 = mkb (Rc P)) (hu : UX P s) (ho : pOK P) (h16 : ∀ k, k < pn P → s 16 k = mkb (fun v => decide (v < 8) && Lv P v k)) : ∃ s', f_X2_findRegions s = some s' ∧ Fx [18] s s' ∧ ∀ v, v < 8 → s' 18 v = mkb (Rg P v) := by
  have hn := ho.1
  unfold f_X2_findRegions
  have key := lp_fn (body := fun q : Int32 × sh_S => f_X2_findRegions_L2 q.1 q.2) (fun j (g : Nat → Int32) => (nI j, ur s 18 g)) 8 (fun j => fun x => if x < j then mkb (fun b => bRg P b x) else s 18 x) (S18 s (fun b v => bRg P b v))
    (fun j hj => by
      show f_X2_findRegions_L2 (nI j) (ur s 18 _) = _
      unfold f_X2_findRegions_L2
      rw [if_neg (show ¬ (8 : Int32) ≤ nI j from nI_ge (b := 8) hj (by omega)), x_livePoints (P := P) (by rw [ur_n _ _ (by omega)]; exact h7) ho (fun k hk => by rw [ur_n _ _ (by omega)]; exact h16 k hk) hj, ob_e, gu_t (inb_n hj (by omega)), ur_n _ _ (show 11 ≠ 18 by omega), hr, mkb_and, lb_e, lb_e, ix_n (by omega), ur_ur, ur_s, nI_1]
      congr 3
      congr 1
      funext x
      by_cases e : x = j
      · subst e; simp [upd, bRg, hj]
      · rw [upd_n _ _ e]
        by_cases e2 : x < j
        · simp [e2, show x < j + 1 by omega]
        · simp [e2, show ¬ x < j + 1 by omega])
    (by
      show f_X2_findRegions_L2 (nI 8) (ur s 18 _) = _
      unfold f_X2_findRegions_L2
      rw [if_pos (by decide)]
      rfl)
    (FU_gt (show 8 < 6000 by omega))
  have key' : lp (fun q : Int32 × sh_S => f_X2_findRegions_L2 q.1 q.2) FU ((0 : Int32), s) = some (S18 s (fun b v => bRg P b v)) := by
    rw [← key]
    show lp _ FU (nI 0, s) = lp _ FU (nI 0, ur s 18 _)
    congr 2
    exact (ur_id s 18).symm
  rw [key', ob_e]
  obtain ⟨a', h1, -, h2⟩ := lp_fix (body := fun q : Int32 × Int32 × sh_S => f_X2_findRegions_L34 q.1 q.2.1 q.2.2) (fun fl j a => (bi fl, nI j, S18 s a)) (fun _ => FRg P) (bRg P) 8 25 (by omega) (fun _ => FRg_mon ho) (fun _ => FRg_lt P) (fun b => bRg_lt P b) (fun a => S18 s a) (fun _ => True) trivial
    (fun j a => by
      show f_X2_findRegions_L34 0 (nI j) _ = _
      unfold f_X2_findRegions_L34
      rw [if_pos rfl])
    (fun a => by
      show f_X2_findRegions_L34 1 (nI 1000) _ = _
      unfold f_X2_findRegions_L34
      rw [if_neg (by decide), if_pos (by decide)])
    (fun j a hj _ hlt => by
      obtain ⟨fl, g', e1, e3, e4⟩ := xG_in hX h7 hr hu ho a
      refine ⟨fl, g', ?_, trivial, e3, e4⟩
      show f_X2_findRegions_L34 1 (nI j) (S18 s a) = _
      unfold f_X2_findRegions_L34
      rw [if_neg (by decide), if_neg (show ¬ (1000 : Int32) ≤ nI j from nI_ge (b := 1000) hj (by omega)), e1, ob2_e, lb_e, nI_1])
  have h1' : lp (fun q : Int32 × Int32 × sh_S => f_X2_findRegions_L34 q.1 q.2.1 q.2.2) FU ((1 : Int32), (0 : Int32), S18 s (fun b v => bRg P b v)) = some (S18 s a') := h1
  rw [h1', ob_e]
  exact ⟨_, rfl, Fx.rf.ur (by simp) _, fun v hv => by rw [S18_r a' hv]; exact mkb_ext (fun b hb => h2 b hb v)⟩
theorem xB_in (hX : LX P s) (h7 : s 11 7 = nI (pn P)) (hr : s 11 8 = mkb (Rc P)) (hu : UX P s) (ho : pOK P) (f : Bf) : ∃ g, lp (fun q : Int32 × Int32 => f_X2_bearers_L34 s q.1 q.2) FU (mkb f, (0 : Int32)) = some (mkb g) ∧ GS (FB P) 8 f g := by
  have hn := ho.1
  have hh := lp_for (body := fun q : Int32 × Int32 => f_X2_bearers_L34 s q.1 q.2) (fun k (g : Bf) => (mkb g, nI k)) (pn P)
    (fun k g => (∀ x, f x = true → g x = true) ∧ (∀ j, j < k → ed P j = true → f (pv P j) = true → g (px P j) = true) ∧ (∀ C : Bf, (∀ x, x < 8 → FB P C x = true → C x = true) → (∀ x, f x = true → C x = true) → ∀ x, g x = true → C x = true))
    (fun e => ∃ g, e = mkb g ∧ GS (FB P) 8 f g)
    (fun k g hk ⟨i1, i2, i3⟩ => by
      have ik : inb (nI k) 24 := inb_n (by omega) (by omega)
      have hpv := pv_lt ho k
      have hpx := (ho.2 k).2.1
      have x2 := (hX.2 k (by omega)).2.1
      refine ⟨fun x => g x || (ed P k && g (pv P k) && decide (x = px P k)), ?_, fun x hx => by simp [i1 x hx], fun j hj hj2 hF => ?_, fun C hC hg x hx => ?_⟩
      · show f_X2_bearers_L34 s (mkb g) (nI k) = _
        unfold f_X2_bearers_L34
        rw [h7, if_neg (nI_ge hk (by omega))]
        simp only [gu_t ik, ix_n (show k < 2 ^ 31 by omega), (hu k hk).2.2, hr, x2, lb_e, x_hasBit (show k < 25 by omega), ob_e, bi_z0, nI_1, mkb_one (show px P k < 25 by omega), mkb_or]
        by_cases e : mvs P k = true
        · simp only [show oe (src P k) = nI (pv P k) by unfold src; rw [if_pos e]; rfl, if_neg (neg1 (show pv P k < 2 ^ 31 by omega)), x_hasBit (show pv P k < 25 by omega), ob_e, bi_z0]
          cases q : Rc P k
          · simp [ed, e, q, ob]
          · cases q2 : g (pv P k)
            · simp [ed, e, q, q2, ob]
            · simp [ed, e, q, q2, ob]
        · simp only [Bool.not_eq_true] at e
          simp [show oe (src P k) = -1 by unfold src; rw [e]; rfl, ed, e, ob]
      · by_cases e : j = k
        · subst e; simp [hj2, i1 _ hF]
        · simp [i2 j (by omega) hj2 hF]
      · simp only [Bool.or_eq_true, Bool.and_eq_true, decide_eq_true_eq] at hx
        rcases hx with hx | ⟨⟨hx, hy⟩, rfl⟩
        · exact i3 C hC hg x hx
        · refine hC _ hpx ?_
          simp only [FB, Bool.and_eq_true, decide_eq_true_eq]
          exact ⟨hpx, ex_iff.mpr ⟨k, hk, by simp [hx, i3 C hC hg _ hy]⟩⟩)
    (fun g ⟨i1, i2, i3⟩ => ⟨mkb g, by
      show f_X2_bearers_L34 s (mkb g) (nI (pn P)) = _
      unfold f_X2_bearers_L34
      rw [h7, if_pos (nI_le (Nat.le_refl _) (by omega))], g, rfl, i1, fun x hx hF => by
        simp only [FB, Bool.and_eq_true, decide_eq_true_eq] at hF
        obtain ⟨k, hk, hy⟩ := ex_iff.mp hF.2
        simp only [Bool.and_eq_true, decide_eq_true_eq] at hy
        rw [← hy.2.2]
        exact i2 k hk hy.1 hy.2.1, i3⟩)
    FU 0 f (Nat.zero_le _) ⟨fun _ hx => hx, fun j hj => by omega, fun C _ hg x hx => hg x hx⟩ (FU_gt (by omega))
  obtain ⟨e, h1, g, rfl, h2⟩ := hh
  exact ⟨g, h1, h2⟩
theorem x_bearers (hX : LX P s) (h7 : s 11 7 = nI (pn P)) (hr : s 11 8 = mkb (Rc P)) (hu : UX P s) (ho : pOK P) {l : Nat} (hl : l < 24) : f_X2_bearers (nI l) s = some (mkb (Br P l)) := by
  have hpx := (ho.2 l).2.1
  unfold f_X2_bearers
  rw [gu_t (inb_n hl (by omega)), lb_e, ix_n (by omega), (hX.2 l hl).2.1, mkb_one (by omega)]
  obtain ⟨a', h1, -, h2⟩ := lp_fix (body := fun q : Int32 × Int32 × Int32 => f_X2_bearers_L15 s q.1 q.2.1 q.2.2) (fun fl j a => (mkb (a 0), bi fl, nI j)) (fun _ => FB P) (fun _ => bB P l) 8 1 (by omega) (fun _ => FB_mon ho) (fun _ => FB_lt P) (fun _ => bB_lt ho l) (fun a => mkb (a 0)) (fun _ => True) trivial
    (fun j a => by
      show f_X2_bearers_L15 s _ 0 (nI j) = _
      unfold f_X2_bearers_L15
      rw [if_pos rfl])
    (fun a => by
      show f_X2_bearers_L15 s _ 1 (nI 1000) = _
      unfold f_X2_bearers_L15
      rw [if_neg (by decide), if_pos (by decide)])
    (fun j a hj _ hlt => by
      obtain ⟨g', e1, e2⟩ := xB_in hX h7 hr hu ho (a 0)
      refine ⟨!decide (mkb g' = mkb (a 0)), fun _ => g', ?_, trivial, fun b hb => ?_, fun hf b hb x hx => ?_⟩
      · show f_X2_bearers_L15 s (mkb (a 0)) 1 (nI j) = _
        unfold f_X2_bearers_L15
        rw [if_neg (by decide), if_neg (show ¬ (1000 : Int32) ≤ nI j from nI_ge (b := 1000) hj (by omega)), e1, ob_e]
        by_cases e : mkb g' = mkb (a 0)
        · rw [if_pos e]; simp [ob, lb, e, bi, nI_1]
        · rw [if_neg e]; simp [ob, lb, e, bi, nI_1]
      · have : b = 0 := by omega
        subst this; exact e2
      · have : b = 0 := by omega
        subst this
        simp only [Bool.not_eq_false', decide_eq_true_eq] at hf
        exact mkb_inj hf (by omega))
  have h1' : lp (fun q : Int32 × Int32 × Int32 => f_X2_bearers_L15 s q.1 q.2.1 q.2.2) FU (mkb (fun i => decide (i = px P l)), (1 : Int32), (0 : Int32)) = some (mkb (a' 0)) := h1
  rw [h1', ob_e]
  exact congrArg some (mkb_ext (fun x _ => h2 0 (by omega) x))
end XL
