theorem c1 {a : Nat} (h : a < 10) : (nI a = (1 : Int32)) = (a = 1) := nI_lt10 (c := 1) h (by omega)
theorem c2 {a : Nat} (h : a < 10) : (nI a = (2 : Int32)) = (a = 2) := nI_lt10 (c := 2) h (by omega)
theorem c3 {a : Nat} (h : a < 10) : (nI a = (3 : Int32)) = (a = 3) := nI_lt10 (c := 3) h (by omega)
theorem c4 {a : Nat} (h : a < 10) : (nI a = (4 : Int32)) = (a = 4) := nI_lt10 (c := 4) h (by omega)
theorem c5 {a : Nat} (h : a < 10) : (nI a = (5 : Int32)) = (a = 5) := nI_lt10 (c := 5) h (by omega)
theorem c6 {a : Nat} (h : a < 10) : (nI a = (6 : Int32)) = (a = 6) := nI_lt10 (c := 6) h (by omega)
theorem c7 {a : Nat} (h : a < 10) : (nI a = (7 : Int32)) = (a = 7) := nI_lt10 (c := 7) h (by omega)
theorem c8 {a : Nat} (h : a < 10) : (nI a = (8 : Int32)) = (a = 8) := nI_lt10 (c := 8) h (by omega)
theorem c9 {a : Nat} (h : a < 10) : (nI a = (9 : Int32)) = (a = 9) := nI_lt10 (c := 9) h (by omega)
theorem ak_iff {P : Pg} {k c : Nat} (h4 : c ≠ 4) (h5 : c ≠ 5) : (ak P k = c) = (pk P k = c) := by
  unfold ak
  apply propext
  split
  · rename_i h; omega
  · rfl
theorem bi_z0 (b : Bool) : (bi b = (0 : Int32)) = (b = false) := propext (bi_0 b)
def rwN (g : Nat → Int32) (n : Nat) (R : Nat → Bf) : Nat → Int32 := fun j => if j < n then mkb (R j) else g j
theorem rwN_lt {g : Nat → Int32} {n : Nat} {R : Nat → Bf} {j : Nat} (h : j < n) : rwN g n R j = mkb (R j) := by simp [rwN, h]
theorem rwN_upd (g : Nat → Int32) (n : Nat) (R : Nat → Bf) {p : Nat} (hp : p < n) (w : Bf) : upd (rwN g n R) p (mkb w) = rwN g n (fun v => if v = p then w else R v) := by
  funext j
  by_cases e : j = p
  · subst e; simp [upd, rwN, hp]
  · simp [upd, rwN, e]
theorem rwN_ext {g : Nat → Int32} {n : Nat} {R R' : Nat → Bf} (h : ∀ v, v < n → ∀ b, b < 25 → R v b = R' v b) : rwN g n R = rwN g n R' := by
  funext j
  unfold rwN
  split
  · exact mkb_ext (h j (by assumption))
  · rfl
section XN
variable {P : Pg} {s : sh_S}
theorem x_findNext (h : LX P s) (ho : pOK P) : ∃ s', f_X2_findNext s = some s' ∧ Fx [11, 12, 13] s s' ∧ s' 11 = upd (s 11) 7 (nI (pn P)) ∧ ∀ k, k < pn P → s' 12 k = oe (on P k) ∧ s' 13 k = oe (asd P k) := by
  have hn := ho.1
  unfold f_X2_findNext
  rw [lb_e, h.1]
  generalize hs1 : ur s 11 (upd (s 11) 7 (nI (pn P))) = s1
  have f1 : Fx [11, 12, 13] s s1 := by rw [← hs1]; exact Fx.rf.ur (by simp) _
  have e11 : s1 11 = upd (s 11) 7 (nI (pn P)) := by rw [← hs1, ur_s]
  have hh := lp_for (body := fun q : Int32 × sh_S => f_X2_findNext_L10 q.1 q.2) (fun k (t : sh_S) => (nI k, t)) (pn P)
    (fun k t => Fx [11, 12, 13] s t ∧ t 11 = upd (s 11) 7 (nI (pn P)) ∧ ∀ j, j < k → t 12 j = oe (on P j) ∧ t 13 j = oe (asd P j))
    (fun e => Fx [11, 12, 13] s e ∧ e 11 = upd (s 11) 7 (nI (pn P)) ∧ ∀ j, j < pn P → e 12 j = oe (on P j) ∧ e 13 j = oe (asd P j))
    (fun k t hk ⟨i1, i2, i3⟩ => by
      have hX := h.fx i1 (by simp)
      obtain ⟨-, -, -, x4, x5, -⟩ := hX.2 k (by omega)
      have ik : inb (nI k) 24 := inb_n (by omega) (by omega)
      have ha := ak_lt ho k
      have e7 : t 11 7 = nI (pn P) := by rw [i2, upd_s]
      have n1 : isPt (pn P) (-1) = false := by simp [isPt, show ((-1 : Int32) < 0) from by decide]
      have m4 : ∀ t' : sh_S, t' 0 9 = nI (pn P) → ∀ v, f_X4_has v (rs em_LI t') = some (bi (isPt (pn P) v)) := fun t' ht v => x_has (s := rs em_LI t') ht v
      refine ⟨ur (ur t 12 (upd (t 12) k (oe (on P k)))) 13 (upd (t 13) k (oe (asd P k))), ?_, (i1.ur (by simp) _).ur (by simp) _, ?_, fun j hj => ?_⟩
      · show f_X2_findNext_L10 (nI k) t = _
        unfold f_X2_findNext_L10
        rw [e7, if_neg (nI_ge hk (by omega))]
        simp only [gu_t ik, ix_n (show k < 2 ^ 31 by omega), lb_e, x5, x4, c7 ha, c8 ha, c9 ha, ak_iff (P := P) (k := k) (show 8 ≠ 4 by omega) (show 8 ≠ 5 by omega), ak_iff (P := P) (k := k) (show 9 ≠ 4 by omega) (show 9 ≠ 5 by omega), ak_iff (P := P) (k := k) (show 7 ≠ 4 by omega) (show 7 ≠ 5 by omega), nI_1]
        have q1 : (ob (if pk P k = 8 then some (-1 : Int32) else if pk P k = 9 then some (-1) else some (nI (k + 1)))) = (fun f : Int32 → Option ((Int32 × sh_S) ⊕ sh_S) => f (if pk P k = 8 ∨ pk P k = 9 then -1 else nI (k + 1))) := by
          funext f
          by_cases a : pk P k = 8
          · simp [a, ob]
          · by_cases b : pk P k = 9 <;> simp [a, b, ob]
        have q2 : (ob (if pk P k = 8 then some (nI (pt P k)) else if pk P k = 7 then some (nI (pt P k)) else some (-1 : Int32))) = (fun f : Int32 → Option ((Int32 × sh_S) ⊕ sh_S) => f (if pk P k = 8 ∨ pk P k = 7 then nI (pt P k) else -1)) := by
          funext f
          by_cases a : pk P k = 8
          · simp [a, ob]
          · by_cases b : pk P k = 7 <;> simp [a, b, ob]
        rw [q1, q2]
        simp only []
        rw [m4 t hX.1, ob_e]
        have r1 : (if bi (isPt (pn P) (if pk P k = 8 ∨ pk P k = 9 then -1 else nI (k + 1))) = 0 then some (-1 : Int32) else some (if pk P k = 8 ∨ pk P k = 9 then -1 else nI (k + 1))) = some (oe (on P k)) := by
          unfold on
          simp only [bi_z0]
          by_cases a : pk P k = 8 ∨ pk P k = 9
          · simp only [a, if_true, n1]
            rcases a with a | a <;> simp [a, oe]
          · simp only [a, if_false, isPt_n hn (show k + 1 < 2 ^ 31 by omega)]
            have a' : ¬ pk P k = 8 ∧ ¬ pk P k = 9 := by omega
            by_cases b : k + 1 < pn P
            · simp [a', b, oe, show ¬ pn P ≤ k + 1 by omega]
            · simp [a', b, oe, show pn P ≤ k + 1 by omega]
        rw [r1, ob_e]
        rw [m4 _ (by rw [ur_n _ _ (by omega)]; exact hX.1), ob_e]
        have r2 : (if bi (isPt (pn P) (if pk P k = 8 ∨ pk P k = 7 then nI (pt P k) else -1)) = 0 then some (-1 : Int32) else some (if pk P k = 8 ∨ pk P k = 7 then nI (pt P k) else -1)) = some (oe (asd P k)) := by
          unfold asd
          simp only [bi_z0]
          have := (ho.2 k).2.2.2
          by_cases a : pk P k = 8 ∨ pk P k = 7
          · simp only [a, if_true, isPt_n hn (show pt P k < 2 ^ 31 by omega)]
            by_cases b : pt P k < pn P
            · simp [b, oe]
            · simp [b, oe]
          · simp only [a, if_false, n1]
            simp [oe]
        rw [r2, ob_e, ur_n _ _ (by omega)]
      · rw [ur_n _ _ (by omega), ur_n _ _ (by omega)]; exact i2
      · rw [ur_n _ _ (by omega), ur_s, ur_s]
        by_cases e : j = k
        · subst e; rw [upd_s, upd_s]; exact ⟨rfl, rfl⟩
        · rw [upd_n _ _ e, upd_n _ _ e]; exact i3 j (by omega))
    (fun t hi => ⟨t, by
      show f_X2_findNext_L10 (nI (pn P)) t = _
      unfold f_X2_findNext_L10
      rw [hi.2.1, upd_s, if_pos (nI_le (Nat.le_refl _) (by omega))], hi⟩)
    FU 0 s1 (Nat.zero_le _) ⟨f1, e11, fun j hj => by omega⟩ (FU_gt (by omega))
  obtain ⟨e, h1, h2⟩ := hh
  have h1' : lp (fun q : Int32 × sh_S => f_X2_findNext_L10 q.1 q.2) FU ((0 : Int32), s1) = some e := h1
  rw [h1', ob_e]
  exact ⟨e, rfl, h2⟩
/-- what findNext leaves -/
def NX (P : Pg) (s : sh_S) : Prop := s 11 7 = nI (pn P) ∧ ∀ k, k < pn P → s 12 k = oe (on P k) ∧ s 13 k = oe (asd P k)
theorem NX.of {s s' : sh_S} (h : NX P s) (e1 : s' 11 7 = s 11 7) (e2 : s' 12 = s 12) (e3 : s' 13 = s 13) : NX P s' := ⟨by rw [e1]; exact h.1, fun k hk => by rw [e2, e3]; exact h.2 k hk⟩
theorem oe_on_lt (ho : pOK P) {k m : Nat} (h : on P k = some m) : m < 25 := by have := on_lt h; have := ho.1; omega
theorem oe_asd_lt (ho : pOK P) {k m : Nat} (h : asd P k = some m) : m < 25 := by have := asd_lt h; have := ho.1; omega
theorem nx_set (ho : pOK P) (k : Nat) : mkb (fun m => decide (on P k = some m)) ||| mkb (fun m => decide (asd P k = some m)) = mkb (nx P k) := by
  rw [mkb_or]
  refine mkb_ext (fun m _ => tt ?_)
  rw [Bool.or_eq_true, decide_eq_true_eq, decide_eq_true_eq, nx_on]
def S8 (s : sh_S) (g : Bf) : sh_S := ur s 11 (upd (s 11) 8 (mkb g))
theorem S8_8 (s : sh_S) (g : Bf) : S8 s g 11 8 = mkb g := by unfold S8; rw [ur_s, upd_s]
theorem S8_o (s : sh_S) (g : Bf) {j : Nat} (h : j ≠ 8) : S8 s g 11 j = s 11 j := by unfold S8; rw [ur_s, upd_n _ _ h]
theorem S8_n (s : sh_S) (g : Bf) {k : Nat} (h : k ≠ 11) : S8 s g k = s k := by unfold S8; rw [ur_n _ _ h]
theorem S8_up (s : sh_S) (g g' : Bf) : ur (S8 s g) 11 (upd (S8 s g 11) 8 (mkb g')) = S8 s g' := by
  unfold S8
  rw [ur_ur, ur_s, upd_upd]
theorem xR_in (h : NX P s) (ho : pOK P) (g : Bf) : ∃ g' : Bf, lp (fun q : Int32 × sh_S => f_X2_findReached_L39 q.1 q.2) FU ((0 : Int32), S8 s g) = some (S8 s g') ∧ GS (FR P) (pn P) g g' := by
  have hn := ho.1
  have hh := lp_for (body := fun q : Int32 × sh_S => f_X2_findReached_L39 q.1 q.2) (fun k (f : Bf) => (nI k, S8 s f)) (pn P)
    (fun k f => (∀ x, g x = true → f x = true) ∧ (∀ j, j < k → g j = true → ∀ x, nx P j x = true → f x = true) ∧ (∀ C : Bf, (∀ k, k < pn P → C k = true → ∀ x, nx P k x = true → C x = true) → (∀ x, g x = true → C x = true) → ∀ x, f x = true → C x = true))
    (fun e => ∃ f, e = S8 s f ∧ (∀ x, g x = true → f x = true) ∧ (∀ j, j < pn P → g j = true → ∀ x, nx P j x = true → f x = true) ∧ (∀ C : Bf, (∀ k, k < pn P → C k = true → ∀ x, nx P k x = true → C x = true) → (∀ x, g x = true → C x = true) → ∀ x, f x = true → C x = true))
    (fun k f hk ⟨i1, i2, i3⟩ => by
      have ik : inb (nI k) 24 := inb_n (by omega) (by omega)
      refine ⟨fun x => f x || (f k && nx P k x), ?_, fun x hx => by simp [i1 x hx], fun j hj hg x hx => ?_, fun C hC hg x hx => ?_⟩
      · show f_X2_findReached_L39 (nI k) (S8 s f) = _
        unfold f_X2_findReached_L39
        rw [S8_o s f (by omega), h.1, if_neg (nI_ge hk (by omega)), S8_8, x_hasBit (by omega), ob_e]
        simp only [gu_t ik, ix_n (show k < 2 ^ 31 by omega), S8_n s f (show 12 ≠ 11 by omega), S8_n s f (show 13 ≠ 11 by omega), (h.2 k hk).1, (h.2 k hk).2, x_bitOf (fun m hm => oe_on_lt ho hm), x_bitOf (fun m hm => oe_asd_lt ho hm), ob_e, lb_e, nx_set ho, mkb_or, S8_up, nI_1, bi_z0]
        cases hf : f k with
        | false => simp [ob]
        | true => simp [ob]
      · by_cases e : j = k
        · subst e; simp [i1 j hg, hx]
        · simp [i2 j (by omega) hg x hx]
      · simp only [Bool.or_eq_true, Bool.and_eq_true] at hx
        rcases hx with hx | ⟨hx, hy⟩
        · exact i3 C hC hg x hx
        · exact hC k hk (i3 C hC hg k hx) x hy)
    (fun f hi => ⟨S8 s f, by
      show f_X2_findReached_L39 (nI (pn P)) (S8 s f) = _
      unfold f_X2_findReached_L39
      rw [S8_o s f (by omega), h.1, if_pos (nI_le (Nat.le_refl _) (by omega))], f, rfl, hi⟩)
    FU 0 g (Nat.zero_le _) ⟨fun _ hx => hx, fun j hj => by omega, fun C _ hg x hx => hg x hx⟩ (FU_gt (by omega))
  obtain ⟨e, h1, f, rfl, h2, h3, h4⟩ := hh
  refine ⟨f, h1, h2, fun x hx hF => ?_, fun C hC hg x hx => h4 C (fun k hk hc y hy => hC y (nx_lt hy) ?_) hg x hx⟩
  · obtain ⟨k, hk, hy⟩ := ex_iff.mp hF
    rw [Bool.and_eq_true] at hy
    exact h3 k hk hy.1 x hy.2
  · exact ex_iff.mpr ⟨k, hk, by rw [hc, hy]; rfl⟩
theorem FR_lt (P : Pg) (f : Bf) (x : Nat) (h : FR P f x = true) : x < pn P := by
  obtain ⟨k, hk, hy⟩ := ex_iff.mp h
  rw [Bool.and_eq_true] at hy
  exact nx_lt hy.2
theorem bR_lt (P : Pg) (x : Nat) (h : bR P x = true) : x < pn P := by
  simp only [bR, Bool.and_eq_true, decide_eq_true_eq] at h
  omega
theorem x_findReached (h : NX P s) (ho : pOK P) : f_X2_findReached s = some (S8 s (Rc P)) := by
  have hn := ho.1
  unfold f_X2_findReached
  rw [h.1]
  have e0 : (if nI (pn P) ≤ 0 then some (0 : Int32) else some 1) = some (mkb (bR P)) := by
    by_cases e : pn P = 0
    · rw [e, if_pos (by decide), mkb_0]
      exact congrArg some (mkb_ext (fun i _ => by simp [bR, e]))
    · have q : ¬ nI (pn P) ≤ (0 : Int32) := (nI_ge (by omega) (by omega) : ¬ nI (pn P) ≤ nI 0)
      rw [if_neg q, show (1 : Int32) = 1 <<< (nI 0 &&& 31) by decide, mkb_one (by omega)]
      exact congrArg some (mkb_ext (fun i _ => by simp [bR, show 0 < pn P by omega]))
  rw [e0, ob_e, lb_e]
  obtain ⟨a', h1, -, h2⟩ := lp_fix (body := fun q : Int32 × Int32 × sh_S => f_X2_findReached_L20 q.1 q.2.1 q.2.2) (fun fl j a => (bi fl, nI j, S8 s (a 0))) (fun _ => FR P) (fun _ => bR P) (pn P) 1 (by omega) (fun _ => FR_mon P) (fun _ => FR_lt P) (fun _ => bR_lt P) (fun a => S8 s (a 0)) (fun _ => True) trivial
    (fun j a => by
      show f_X2_findReached_L20 0 (nI j) _ = _
      unfold f_X2_findReached_L20
      rw [if_pos rfl])
    (fun a => by
      show f_X2_findReached_L20 1 (nI 1000) _ = _
      unfold f_X2_findReached_L20
      rw [if_neg (by decide), if_pos (by decide)])
    (fun j a hj _ hlt => by
      obtain ⟨g', e1, e2⟩ := xR_in h ho (a 0)
      refine ⟨!decide (mkb g' = mkb (a 0)), fun _ => g', ?_, trivial, fun b hb => ?_, fun hf b hb x hx => ?_⟩
      · show f_X2_findReached_L20 1 (nI j) (S8 s (a 0)) = _
        unfold f_X2_findReached_L20
        rw [if_neg (by decide), if_neg (show ¬ (1000 : Int32) ≤ nI j from nI_ge (b := 1000) hj (by omega)), lb_e, e1, ob_e, S8_8, S8_8]
        by_cases e : mkb g' = mkb (a 0)
        · rw [if_pos e]; simp [ob, lb, e, bi, nI_1]
        · rw [if_neg e]; simp [ob, lb, e, bi, nI_1]
      · have : b = 0 := by omega
        subst this; exact e2
      · have : b = 0 := by omega
        subst this
        simp only [Bool.not_eq_false', decide_eq_true_eq] at hf
        exact mkb_inj hf (by omega))
  have h1' : lp (fun q : Int32 × Int32 × sh_S => f_X2_findReached_L20 q.1 q.2.1 q.2.2) FU ((1 : Int32), (0 : Int32), ur s 11 (upd (s 11) 8 (mkb (bR P)))) = some (S8 s (a' 0)) := h1
  rw [h1', ob_e]
  have : a' 0 = Rc P := funext (fun x => h2 0 (by omega) x)
  rw [this]
end XN
