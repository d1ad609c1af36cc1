def src (P : Pg) (k : Nat) : Option Nat := if mvs P k = true then some (pv P k) else none
def UX (P : Pg) (s : sh_S) : Prop := ∀ k, k < pn P → s 14 k = mkb (rd P k) ∧ s 15 k = mkb (wr P k) ∧ s 17 k = oe (src P k)
theorem UX.of {P : Pg} {s s' : sh_S} (h : UX P s) (e1 : s' 14 = s 14) (e2 : s' 15 = s 15) (e3 : s' 17 = s 17) : UX P s' := fun k hk => by rw [e1, e2, e3]; exact h k hk
theorem lt10 {a : Nat} (h : a < 10) : a = 0 ∨ a = 1 ∨ a = 2 ∨ a = 3 ∨ a = 4 ∨ a = 5 ∨ a = 6 ∨ a = 7 ∨ a = 8 ∨ a = 9 := by omega
theorem bsel {c : Bool} {f : Bf} : (if c = false then some (0 : Int32) else some (mkb f)) = some (mkb (fun i => c && f i)) := by
  rw [mkb_0]
  cases c <;> simp
section XU
variable {P : Pg} {s : sh_S}
theorem x_findUses (h : LX P s) (ho : pOK P) (h7 : s 11 7 = nI (pn P)) : ∃ s', f_X2_findUses s = some s' ∧ Fx [14, 15, 17] s s' ∧ UX P s' := by
  have hn := ho.1
  unfold f_X2_findUses
  have hh := lp_for (body := fun q : Int32 × sh_S => f_X2_findUses_L2 q.1 q.2) (fun k (t : sh_S) => (nI k, t)) (pn P)
    (fun k t => Fx [14, 15, 17] s t ∧ ∀ j, j < k → t 14 j = mkb (rd P j) ∧ t 15 j = mkb (wr P j) ∧ t 17 j = oe (src P j))
    (fun e => Fx [14, 15, 17] s e ∧ UX P e)
    (fun k t hk ⟨i1, i2⟩ => by
      have hX := h.fx i1 (by simp)
      obtain ⟨-, x2, -, -, x5, x6, -, x8, x9⟩ := hX.2 k (by omega)
      have ik : inb (nI k) 24 := inb_n (by omega) (by omega)
      have ha := ak_lt ho k
      have e7 : t 11 7 = nI (pn P) := by rw [i1 11 (by simp)]; exact h7
      have hpv := pv_lt ho k
      have hpx := (ho.2 k).2.1
      refine ⟨ur (ur (ur t 14 (upd (t 14) k (mkb (rd P k)))) 15 (upd (t 15) k (mkb (wr P k)))) 17 (upd (t 17) k (oe (src P k))), ?_, ((i1.ur (by simp) _).ur (by simp) _).ur (by simp) _, fun j hj => ?_⟩
      · show f_X2_findUses_L2 (nI k) t = _
        unfold f_X2_findUses_L2
        rw [e7, if_neg (nI_ge hk (by omega))]
        simp only [gu_t ik, ix_n (show k < 2 ^ 31 by omega), lb_e, x5, x2, x6, x8, x9, c1 ha, c2 ha, c6 ha, ak_iff (P := P) (k := k) (show 1 ≠ 4 by omega) (show 1 ≠ 5 by omega), ak_iff (P := P) (k := k) (show 2 ≠ 4 by omega) (show 2 ≠ 5 by omega), ak_iff (P := P) (k := k) (show 6 ≠ 4 by omega) (show 6 ≠ 5 by omega), nI_1, mkb_one (show pv P k < 25 by omega), mkb_one (show px P k < 25 by omega), bi_z0]
        have q1 : (if pk P k = 1 then some (mkb (fun i => decide (i = pv P k))) else if pk P k = 6 then some (mkb (fun i => decide (i = pv P k))) else if gt P k = false then some (0 : Int32) else some (mkb (fun i => decide (i = pv P k)))) = some (mkb (rd P k)) := by
          rw [mkb_0]
          rcases lt10 (ho.2 k).1 with e | e | e | e | e | e | e | e | e | e <;> cases et : thr P k <;> simp only [e, gt, et] <;> simp <;> exact mkb_ext (fun i _ => by simp [rd, e, et])
        have q2 : (if pk P k = 6 then some (1 : Int32) else if pk P k = 2 then (if gt P k = false then some 1 else some 0) else some 0) = some (bi (decide (pk P k = 6) || (decide (pk P k = 2) && !gt P k))) := by
          by_cases a : pk P k = 6
          · simp [a, bi]
          · by_cases b : pk P k = 2
            · cases c : gt P k <;> simp [a, b, bi]
            · simp [a, b, bi]
        have q3 : (if pk P k = 6 then some (mkb (fun i => decide (i = px P k))) else if lnd P k = false then some (0 : Int32) else some (mkb (fun i => decide (i = px P k)))) = some (mkb (fun i => (decide (pk P k = 6) || lnd P k) && decide (i = px P k))) := by
          rw [mkb_0]
          by_cases a : pk P k = 6
          · simp [a]
          · cases c : lnd P k <;> simp [a]
        have q4 : (if pk P k = 6 then some (nI (pv P k)) else if lnd P k = false then some (-1 : Int32) else if gt P k = false then some (-1) else some (nI (pv P k))) = some (oe (src P k)) := by
          unfold src mvs
          rcases lt10 (ho.2 k).1 with e | e | e | e | e | e | e | e | e | e <;> cases et : thr P k <;> simp [e, gt, et, lnd, oe]
        rw [q1, q2]
        simp only [ob_e, bi_z0]
        rw [bsel, ob_e, q3, ob_e, mkb_or]
        rw [ur_n _ _ (show 15 ≠ 14 by omega)]
        have e6 : ∀ g g', ur (ur t 14 g) 15 g' 6 k = nI (pv P k) := fun g g' => by rw [ur_n _ _ (by omega), ur_n _ _ (by omega)]; exact x6
        simp only [e6]
        rw [q4, ob_e, ur_n _ _ (show 17 ≠ 15 by omega), ur_n _ _ (show 17 ≠ 14 by omega)]
        have q5 : mkb (fun i => ((decide (pk P k = 6) || (decide (pk P k = 2) && !gt P k)) && decide (i = pv P k)) || ((decide (pk P k = 6) || lnd P k) && decide (i = px P k))) = mkb (wr P k) := by
          refine mkb_ext (fun i _ => ?_)
          rcases lt10 (ho.2 k).1 with e | e | e | e | e | e | e | e | e | e <;> cases et : thr P k <;> simp [e, gt, et, lnd, wr, Bool.or_comm]
        rw [q5]
      · rw [ur_s, ur_n _ _ (show 15 ≠ 17 by omega), ur_s, ur_n _ _ (show 14 ≠ 17 by omega), ur_n _ _ (show 14 ≠ 15 by omega), ur_s]
        by_cases e : j = k
        · subst e; rw [upd_s, upd_s, upd_s]; exact ⟨rfl, rfl, rfl⟩
        · rw [upd_n _ _ e, upd_n _ _ e, upd_n _ _ e]; exact i2 j (by omega))
    (fun t hi => ⟨t, by
      show f_X2_findUses_L2 (nI (pn P)) t = _
      unfold f_X2_findUses_L2
      rw [hi.1 11 (by simp), h7, if_pos (nI_le (Nat.le_refl _) (by omega))], hi⟩)
    FU 0 s (Nat.zero_le _) ⟨Fx.rf, fun j hj => by omega⟩ (FU_gt (by omega))
  obtain ⟨e, h1, h2⟩ := hh
  have h1' : lp (fun q : Int32 × sh_S => f_X2_findUses_L2 q.1 q.2) FU ((0 : Int32), s) = some e := h1
  rw [h1', ob_e]
  exact ⟨e, rfl, h2⟩
end XU
