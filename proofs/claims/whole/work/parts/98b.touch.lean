section TO
variable {A : RS} {c : Nat} {s m : sh_S}
theorem x_spare (hA : RK A) (hn : qN A ≤ 300) {a : Int32} (h59 : ∀ r, r < qN A → s 59 r = oe (qF A r)) (h8 : s 56 8 = a) {q : Option Nat} (hq : ∀ k, q = some k → k < qN A) : lp (fun q : Int32 × Int32 × sh_S => f_X8_touch_L16 q.1 q.2.1 q.2.2) FU (oe q, (0 : Int32), s) = some (ur s 62 (fun r => if inc A q r = true then a else s 62 r)) := by
  have z : ∀ fu j (t : sh_S), lp (fun q : Int32 × Int32 × sh_S => f_X8_touch_L16 q.1 q.2.1 q.2.2) (fu + 1) (oe none, nI j, t) = some t := fun fu j t => by
    unfold lp
    have : f_X8_touch_L16 (oe none) (nI j) t = some (.inr t) := by
      unfold f_X8_touch_L16
      rw [if_pos (show oe none = (-1 : Int32) from rfl)]
    rw [this]
  have e0 : ∀ t : sh_S, ur t 62 (fun r => if inc A none r = true then a else t 62 r) = t := fun t => by
    have : (fun r => if inc A none r = true then a else t 62 r) = t 62 := by
      funext r
      rw [show inc A none r = false from cc_none _ _]; rfl
    rw [this, ur_id]
  have key : ∀ k, k < qN A → ∀ j fu (t : sh_S), (∀ r, r < qN A → t 59 r = oe (qF A r)) → t 56 8 = a → k + j < 300 → k + 1 < fu → lp (fun q : Int32 × Int32 × sh_S => f_X8_touch_L16 q.1 q.2.1 q.2.2) fu (nI k, nI j, t) = some (ur t 62 (fun r => if inc A (some k) r = true then a else t 62 r)) := by
    intro k
    induction k using Nat.strongRecOn with
    | _ k ih =>
      intro hk j fu t ht59 ht8 hj hfu
      cases fu with
      | zero => omega
      | succ fu =>
        unfold lp
        have hb : f_X8_touch_L16 (nI k) (nI j) t = some (.inl (oe (qF A k), nI (j + 1), ur t 62 (upd (t 62) k a))) := by
          unfold f_X8_touch_L16
          rw [if_neg (neg1 (by omega)), if_neg (show ¬ (300 : Int32) ≤ nI j from nI_ge (b := 300) (by omega) (by omega)), gu_t (inb_n (by omega) (by omega)), lb_e, gu_t (inb_n (by omega) (by omega)), lb_e, lb_e, ix_n (by omega), ht8, ur_n _ _ (by omega), ht59 k hk, nI_1]
        rw [hb]
        have fin : ∀ q, qF A k = q → ur (ur t 62 (upd (t 62) k a)) 62 (fun r => if inc A q r = true then a else ur t 62 (upd (t 62) k a) 62 r) = ur t 62 (fun r => if inc A (some k) r = true then a else t 62 r) := by
          intro q hq
          rw [ur_ur, ur_s]
          congr 1
          funext r
          have : inc A (some k) r = (decide (k = r) || inc A q r) := by
            unfold inc
            rw [cc_some hA.2.1 (by omega), hq]
          rw [this]
          by_cases e : k = r
          · subst e; simp [upd_s]
          · rw [upd_n _ _ (fun x => e x.symm)]; simp [e]
        show lp _ fu (oe (qF A k), nI (j + 1), ur t 62 (upd (t 62) k a)) = _
        cases hf : qF A k with
        | none =>
          cases fu with
          | zero => omega
          | succ fu =>
            rw [z fu (j + 1), ← fin none hf, e0]
        | some q =>
          have := hA.2.1 k q hf
          have hz := ih q this (by omega) (j + 1) fu (ur t 62 (upd (t 62) k a)) (fun r hr => by rw [ur_n _ _ (by omega)]; exact ht59 r hr) (by rw [ur_n _ _ (by omega)]; exact ht8) (by omega) (by omega)
          rw [← fin (some q) hf]
          exact hz
  cases q with
  | none => rw [e0]; exact z 5999 0 s
  | some k =>
    have := hq k rfl
    exact key k this 0 FU s h59 h8 (by omega) (FU_gt (by omega))
theorem x_touch (hA : RK A) (hn : qN A ≤ 300) (h : XW A c s) (hc : c < 5000) {v p : Nat} (hv : v < 8) (hp : p < 3) (w : Bool) {q : Option Nat} (hq : ∀ k, q = some k → k < qN A) : ∃ s', f_X8_touch (nI (3 * v + p)) (bi w) (oe q) s = some s' ∧ XW (tch A v p w q) (c + 1) s' ∧ Wx s s' := by
  unfold f_X8_touch
  rw [lb_e, h.2.1, nI_1]
  have g59 : ∀ r, r < qN A → ur s 56 (upd (s 56) 8 (nI (c + 1))) 59 r = oe (qF A r) := fun r hr => by rw [ur_n _ _ (by omega)]; exact (h.2.2.1 r hr).2.2.1
  rw [x_spare hA hn g59 (by rw [ur_s, upd_s]) hq, ob_e]
  have fe : ur (ur s 56 (upd (s 56) 8 (nI (c + 1)))) 62 (fun r => if inc A q r = true then nI (c + 1) else ur s 56 (upd (s 56) 8 (nI (c + 1))) 62 r) = ur (ur s 56 (upd (s 56) 8 (nI (c + 1)))) 62 (fun r => if inc A q r = true then nI (c + 1) else s 62 r) := by
    rw [ur_n _ _ (show 62 ≠ 56 by omega)]
  rw [fe]
  generalize ht : ur (ur s 56 (upd (s 56) 8 (nI (c + 1)))) 62 (fun r => if inc A q r = true then nI (c + 1) else s 62 r) = t
  have o : ∀ k, k ≠ 56 → k ≠ 62 → t k = s k := fun k h1 h2 => by rw [← ht, ur_n _ _ h2, ur_n _ _ h1]
  have t56 : t 56 = upd (s 56) 8 (nI (c + 1)) := by rw [← ht, ur_n _ _ (by omega), ur_s]
  have t62 : ∀ r, t 62 r = if inc A q r = true then nI (c + 1) else s 62 r := fun r => by rw [← ht, ur_s]
  have hh := lp_fn (body := fun q : Int32 × sh_S => f_X8_touch_L59 (nI (3 * v + p)) (bi w) q.1 q.2) (fun j (t : sh_S) => (nI j, t)) (qN A) (fun j => ur t 60 (fun r => if r < j then bi (nst A v p w q r) else t 60 r)) (ur t 60 (fun r => if r < qN A then bi (nst A v p w q r) else t 60 r))
    (fun j hj => by
      generalize hu : ur t 60 (fun r => if r < j then bi (nst A v p w q r) else t 60 r) = u
      have uo : ∀ k, k ≠ 60 → u k = t k := fun k hk => by rw [← hu, ur_n _ _ hk]
      have u60 : u 60 j = bi (qS A j) := by
        rw [← hu, ur_s]
        show (if j < j then _ else _) = _
        rw [if_neg (by omega), o 60 (by omega) (by omega)]
        exact (h.2.2.1 j hj).2.2.2.1
      obtain ⟨h1, h2, h3, h4, h5, d, hd, h6⟩ := h.2.2.1 j hj
      obtain ⟨k1, k2, k3⟩ := hA.1 j
      have fin : ur u 60 (upd (u 60) j (bi (nst A v p w q j))) = ur t 60 (fun r => if r < j + 1 then bi (nst A v p w q r) else t 60 r) := by
        rw [← hu, ur_ur, ur_s]
        congr 1
        funext r
        by_cases e : r = j
        · subst e; rw [upd_s, if_pos (by omega)]
        · rw [upd_n _ _ e]
          by_cases e2 : r < j
          · rw [if_pos e2, if_pos (by omega)]
          · rw [if_neg e2, if_neg (by omega)]
      have same : nst A v p w q j = qS A j → u = ur t 60 (fun r => if r < j + 1 then bi (nst A v p w q r) else t 60 r) := fun e => by
        rw [← fin, e, ← u60, upd_id, ur_id]
      show f_X8_touch_L59 (nI (3 * v + p)) (bi w) (nI j) u = some (.inl (nI (j + 1), _))
      unfold f_X8_touch_L59
      rw [uo 56 (by omega), uo 57 (by omega), uo 58 (by omega), uo 61 (by omega), uo 62 (by omega), t56, upd_n _ _ (by omega), h.1, if_neg (nI_ge hj (by omega)), gu_t (inb_n (by omega) (by omega)), ix_n (by omega), u60, upd_s, t62 j, o 57 (by omega) (by omega), o 58 (by omega) (by omega), o 61 (by omega) (by omega), h1, h2, h5, h6, x_meet _ (by omega) _ (by omega), mtN_e k3 hp]
      have ec : (nI d = nI (c + 1)) = False := by rw [nI_eqb (by omega) (by omega)]; exact propext ⟨fun x => by omega, fun x => x.elim⟩
      simp only [gu_t (inb_n (show j < 300 by omega) (by omega)), c4 k1, c5 k1, lb_e, nI_1]
      cases hst : qS A j with
      | true =>
        rw [if_neg (show ¬ bi true = (0 : Int32) by decide), ob_e]
        rw [same (by unfold nst; rw [hst]; rfl)]
      | false =>
        rw [if_pos (show bi false = (0 : Int32) from rfl)]
        cases hi : inc A q j with
        | true =>
          rw [if_pos rfl, if_pos rfl, ob_e]
          rw [same (by unfold nst; rw [hi]; simp)]
        | false =>
          rw [if_neg (show ¬ false = true by decide), if_neg (by rw [ec]; exact id), ob_e]
          cases hm : mt A v p j with
          | false =>
            have hm' : (decide (qV A j = v) && (decide (p = 0) || decide (qP A j = 0) || decide (p = qP A j))) = false := hm
            rw [hm', if_pos (show bi false = (0 : Int32) from rfl), ob_e]
            rw [same (by unfold nst; rw [hm]; simp)]
          | true =>
            have hm' : (decide (qV A j = v) && (decide (p = 0) || decide (qP A j = 0) || decide (p = qP A j))) = true := hm
            rw [hm', if_neg (show ¬ bi true = (0 : Int32) by decide)]
            have ne : nst A v p w q j = (w || decide (qK A j = 4) || (decide (qK A j = 5) && qA A j)) := by
              unfold nst; rw [hst, hm, hi]; simp
            rw [← fin, ne]
            have z0 : nz 0 = bi false := by decide
            have z1 : nz 1 = bi true := by decide
            have b1 : bi true = (1 : Int32) := rfl
            have b0 : bi false = (0 : Int32) := rfl
            by_cases q4 : qK A j = 4
            · cases w <;> simp [q4, ob, z1, b1, b0]
            · by_cases q5 : qK A j = 5
              · cases hw : qA A j <;> cases w <;> simp [q5, ob, z0, z1, b1, b0]
              · cases w <;> simp [q4, q5, ob, z0, z1, b1, b0])
    (by
      show f_X8_touch_L59 (nI (3 * v + p)) (bi w) (nI (qN A)) (ur t 60 (fun r => if r < qN A then bi (nst A v p w q r) else t 60 r)) = _
      unfold f_X8_touch_L59
      rw [ur_n _ _ (by omega), t56, upd_n _ _ (by omega), h.1, if_pos (nI_le (Nat.le_refl _) (by omega))]) (FU_gt (by omega))
  have e0 : ur t 60 (fun r => if r < 0 then bi (nst A v p w q r) else t 60 r) = t := by
    have : (fun r => if r < 0 then bi (nst A v p w q r) else t 60 r) = t 60 := by
      funext r; rw [if_neg (by omega)]
    rw [this, ur_id]
  have hh' : lp (fun q : Int32 × sh_S => f_X8_touch_L59 (nI (3 * v + p)) (bi w) q.1 q.2) FU (nI 0, ur t 60 (fun r => if r < 0 then bi (nst A v p w q r) else t 60 r)) = _ := hh
  rw [e0] at hh'
  have hh2 : lp (fun q : Int32 × sh_S => f_X8_touch_L59 (nI (3 * v + p)) (bi w) q.1 q.2) FU ((0 : Int32), t) = _ := hh'
  rw [hh2, ob_e]
  refine ⟨_, rfl, ⟨?_, ?_, fun r hr => ?_, fun x hx => ?_⟩, fun k hk => ?_, fun j h1 h2 => ?_⟩
  · rw [ur_n _ _ (by omega), t56, upd_n _ _ (by omega)]; exact h.1
  · rw [ur_n _ _ (by omega), t56, upd_s]
  · have hr' : r < qN A := hr
    obtain ⟨h1, h2, h3, h4, h5, d, hd, h6⟩ := h.2.2.1 r hr'
    refine ⟨?_, ?_, ?_, ?_, ?_, ?_⟩
    · rw [ur_n _ _ (by omega), o _ (by omega) (by omega)]; exact h1
    · rw [ur_n _ _ (by omega), o _ (by omega) (by omega)]; exact h2
    · rw [ur_n _ _ (by omega), o _ (by omega) (by omega)]; exact h3
    · rw [ur_s]
      show (if r < qN A then _ else _) = bi (if r < qN A then _ else _)
      rw [if_pos hr', if_pos hr']
    · rw [ur_n _ _ (by omega), o _ (by omega) (by omega)]; exact h5
    · rw [ur_n _ _ (by omega), t62]
      by_cases e : inc A q r = true
      · exact ⟨c + 1, Nat.le_refl _, by rw [if_pos e]⟩
      · exact ⟨d, by omega, by rw [if_neg e]; exact h6⟩
  · rw [ur_n _ _ (by omega), o _ (by omega) (by omega)]; exact h.2.2.2 x hx
  · rw [ur_n _ _ (by omega), o _ (by omega) (by omega)]
  · rw [ur_n _ _ (by omega), t56, upd_n _ _ h2]
theorem m_accesses (hA : RK A) (hn : qN A ≤ 300) (h : MW A m) {v p : Nat} (hv : v < 8) (hp : p < 6) (w : Bool) {q : Option Nat} (hq : ∀ k, q = some k → k < qN A) : ∃ m', f_X10_accesses (nI v) (nI p) (bi w) (oe q) m = some m' ∧ MW (tch A v p w q) m' ∧ Mx m m' := by
  unfold f_X10_accesses
  have hh := lp_fn (body := fun z : Int32 × sh_S => f_X10_accesses_L3 (nI v) (nI p) (bi w) (oe q) z.1 z.2) (fun j (t : sh_S) => (nI j, t)) (qN A) (fun j => ur m 19 (fun r => if r < j then bi (!nst A v p w q r) else m 19 r)) (ur m 19 (fun r => if r < qN A then bi (!nst A v p w q r) else m 19 r))
    (fun j hj => by
      generalize hu : ur m 19 (fun r => if r < j then bi (!nst A v p w q r) else m 19 r) = u
      have uo : ∀ k, k ≠ 19 → u k = m k := fun k hk => by rw [← hu, ur_n _ _ hk]
      obtain ⟨h1, h2, h3, h4, h5, h6⟩ := h.2.1 j hj
      obtain ⟨k1, k2, k3⟩ := hA.1 j
      have u19 : u 19 j = bi (!qS A j) := by
        rw [← hu, ur_s]
        show (if j < j then _ else _) = _
        rw [if_neg (by omega)]
        exact h5
      have fin : ur u 19 (upd (u 19) j (bi (!nst A v p w q j))) = ur m 19 (fun r => if r < j + 1 then bi (!nst A v p w q r) else m 19 r) := by
        rw [← hu, ur_ur, ur_s]
        congr 1
        funext r
        by_cases e : r = j
        · subst e; rw [upd_s, if_pos (by omega)]
        · rw [upd_n _ _ e]
          by_cases e2 : r < j
          · rw [if_pos e2, if_pos (by omega)]
          · rw [if_neg e2, if_neg (by omega)]
      show f_X10_accesses_L3 (nI v) (nI p) (bi w) (oe q) (nI j) u = some (.inl (nI (j + 1), _))
      have hof : f_X10_isOf (nI j) (oe q) u = some (bi (inc A q j)) := by
        have hM : f_X10_isOf (nI j) (oe q) m = some (bi (inc A q j)) := m_isOf hA hn h (by omega) hq
        rw [← hM]
        unfold f_X10_isOf f_X10_isOf_L5
        rw [uo 18 (by omega)]
      unfold f_X10_accesses_L3
      rw [uo 0 (by omega), uo 15 (by omega), uo 16 (by omega), uo 17 (by omega), uo 20 (by omega), h.1, if_neg (nI_ge hj (by omega)), gu_t (inb_n (by omega) (by omega)), ix_n (by omega), u19, h1, h2, h3, h6, hof]
      have ep : (nI p = (0 : Int32)) = (p = 0) := nI_eqb (b := 0) (by omega) (by omega)
      have er : (nI (qP A j) = (0 : Int32)) = (qP A j = 0) := nI_eqb (b := 0) (by omega) (by omega)
      have epr : (nI p = nI (qP A j)) = (p = qP A j) := nI_eqb (by omega) (by omega)
      have ev : (nI (qV A j) = nI v) = (qV A j = v) := nI_eqb (by omega) (by omega)
      have eb : (bi (qA A j) = (1 : Int32)) = (qA A j = true) := propext (bi_1 _)
      simp only [gu_t (inb_n (show j < 301 by omega) (by omega)), c4 k1, c5 k1, lb_e, nI_1, ep, er, epr, ev, eb, ob_e]
      rw [← fin]
      have b1 : bi true = (1 : Int32) := rfl
      have b0 : bi false = (0 : Int32) := rfl
      have m5 : (if qV A j = v then (if p = 0 then some (1 : Int32) else (if qP A j = 0 then some (1 : Int32) else (if p = qP A j then some (1 : Int32) else some (0 : Int32)))) else some (0 : Int32)) = some (bi (mt A v p j)) := by
        unfold mt
        by_cases e1 : qV A j = v
        · by_cases e2 : p = 0
          · simp [e1, e2, b1]
          · by_cases e3 : qP A j = 0
            · simp [e1, e3, b1]
            · by_cases e4 : p = qP A j
              · simp [e1, e2, e3, e4, b1]
              · simp [e1, e2, e3, e4, b0]
        · simp [e1, b0]
      have m8 : (if bi w = (0 : Int32) then (if qK A j = 4 then some (1 : Int32) else (if qK A j = 5 then (if qA A j = true then some (1 : Int32) else some (0 : Int32)) else some (0 : Int32))) else some (1 : Int32)) = some (bi (w || decide (qK A j = 4) || (decide (qK A j = 5) && qA A j))) := by
        cases w
        · by_cases e1 : qK A j = 4
          · simp [e1, b1, b0]
          · by_cases e2 : qK A j = 5
            · cases e3 : qA A j <;> simp [e2, e3, b1, b0]
            · simp [e1, e2, b0]
        · simp [b1]
      rw [m5, ob_e, m8, ob_e]
      unfold nst
      cases mt A v p j <;> cases (w || decide (qK A j = 4) || (decide (qK A j = 5) && qA A j)) <;> cases inc A q j <;> cases qS A j <;> simp [b1, b0, ob])
    (by
      show f_X10_accesses_L3 (nI v) (nI p) (bi w) (oe q) (nI (qN A)) (ur m 19 (fun r => if r < qN A then bi (!nst A v p w q r) else m 19 r)) = _
      unfold f_X10_accesses_L3
      rw [ur_n _ _ (by omega), h.1, if_pos (nI_le (Nat.le_refl _) (by omega))]) (FU_gt (by omega))
  have e0 : ur m 19 (fun r => if r < 0 then bi (!nst A v p w q r) else m 19 r) = m := by
    have : (fun r => if r < 0 then bi (!nst A v p w q r) else m 19 r) = m 19 := by
      funext r; rw [if_neg (by omega)]
    rw [this, ur_id]
  have hh' : lp (fun z : Int32 × sh_S => f_X10_accesses_L3 (nI v) (nI p) (bi w) (oe q) z.1 z.2) FU (nI 0, ur m 19 (fun r => if r < 0 then bi (!nst A v p w q r) else m 19 r)) = _ := hh
  rw [e0] at hh'
  have hh2 : lp (fun z : Int32 × sh_S => f_X10_accesses_L3 (nI v) (nI p) (bi w) (oe q) z.1 z.2) FU ((0 : Int32), m) = _ := hh'
  rw [hh2, ob_e]
  refine ⟨_, rfl, ⟨?_, fun r hr => ?_, fun x hx => ?_⟩, fun k h0 hk => ?_, fun j h1 => ?_⟩
  · rw [ur_n _ _ (by omega)]; exact h.1
  · have hr' : r < qN A := hr
    obtain ⟨h1, h2, h3, h4, h5, h6⟩ := h.2.1 r hr'
    refine ⟨?_, ?_, ?_, ?_, ?_, ?_⟩
    · rw [ur_n _ _ (by omega)]; exact h1
    · rw [ur_n _ _ (by omega)]; exact h2
    · rw [ur_n _ _ (by omega)]; exact h3
    · rw [ur_n _ _ (by omega)]; exact h4
    · rw [ur_s]
      show (if r < qN A then _ else _) = bi (!(if r < qN A then _ else _))
      rw [if_pos hr', if_pos hr']
    · rw [ur_n _ _ (by omega)]; exact h6
  · rw [ur_n _ _ (by omega)]; exact h.2.2 x hx
  · rw [ur_n _ _ (by omega)]
  · rw [ur_n _ _ (by omega)]
end TO
