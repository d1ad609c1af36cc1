theorem wd_101_m : Cond.initialized "java/lang/Math" ∈ tb := tb_of 101 (by decide +kernel) rfl
theorem wd_774_m : Cond.methodLink RX7 108 Lib.Math.min.name ∈ tb := tb_of 774 (by decide +kernel) rfl
theorem wd_775_m : Cond.static Lib.Math.min.name ∈ tb := tb_of 775 (by decide +kernel) rfl
theorem wd_776_m : Cond.code Lib.Math.min.name Lib.Math.min.code 2 (some .int) ∈ tb := tb_of 776 (by decide +kernel) rfl
theorem wd_908_m : Cond.methodLink RX9 253 Lib.Math.min.name ∈ tb := tb_of 908 (by decide +kernel) rfl
theorem k_min {G : sh_G} {cc : ByteArray} {own : String} {sh : List sh_T} {pc idx : Nat} {lv : List (Nat × Value)} {st : List Value} {σ : sh_S} {x y : Int32} (h : sh_ok G cc own sh) (hw : Cond.methodLink own idx Lib.Math.min.name ∈ tb ∧ Cond.static Lib.Math.min.name ∈ tb ∧ Cond.initialized "java/lang/Math" ∈ tb ∧ Cond.code Lib.Math.min.name Lib.Math.min.code 2 (some .int) ∈ tb) (hR : 1 ≤ (gR G).frames ∧ 21 ≤ (gR G).locals) (h8 : (st.map fun v => v.category).sum ≤ 8) (d : decode cc pc = .ok (.invokestatic idx, 3)) (kk : sh_K G sh (pc + 3) lv (.int (if y < x then y else x) :: st) σ) : sh_K G sh pc lv (.int y :: .int x :: st) σ := by
  intro H locs ls hP hS hl
  have hv := h.2.2.2.2.1
  refine va_mmin h.1 h.2.1 (h.2.2.1.trans hl.1.symm) h.2.2.2.1 (hv _ hw.1) (hv _ hw.2.1) (hv _ hw.2.2.1) (hv _ hw.2.2.2) hR.1 ?_ h.2.2.2.2.2.2.2.2.2.1 h.2.2.2.2.2.2.2.2.2.2 d (kk H locs ls hP hS hl)
  have e : ((st.map (sh_v (gd G))).map fun v => v.category).sum = (st.map fun v => v.category).sum := by
    rw [List.map_map]
    exact congrArg List.sum (List.map_congr_left (fun v _ => sh_v_cat _ v))
  have := hR.2
  omega
theorem so1 {α : Type} {a b : α} (h : some a = some b) : b = a := (Option.some.inj h).symm
theorem so2 {α β : Type} {a c : α} {b d : β} (h : some (a, b) = some (c, d)) : c = a ∧ d = b := by
  have e := Option.some.inj h
  exact ⟨(congrArg Prod.fst e).symm, (congrArg Prod.snd e).symm⟩
theorem so3 {α β γ : Type} {a c : α} {b d : β} {x y : γ} (h : some (a, b, x) = some (c, d, y)) : c = a ∧ d = b ∧ y = x := by
  have e := Option.some.inj h
  exact ⟨(congrArg Prod.fst e).symm, (congrArg (fun q => q.2.1) e).symm, (congrArg (fun q => q.2.2) e).symm⟩
theorem so4 {α β γ δ : Type} {a c : α} {b d : β} {x y : γ} {z w : δ} (h : some (a, b, x, z) = some (c, d, y, w)) : c = a ∧ d = b ∧ y = x ∧ w = z := by
  have e := Option.some.inj h
  exact ⟨(congrArg Prod.fst e).symm, (congrArg (fun q => q.2.1) e).symm, (congrArg (fun q => q.2.2.1) e).symm, (congrArg (fun q => q.2.2.2) e).symm⟩
theorem so5 {α β γ δ ε : Type} {a c : α} {b d : β} {x y : γ} {z w : δ} {m n : ε} (h : some (a, b, x, z, m) = some (c, d, y, w, n)) : c = a ∧ d = b ∧ y = x ∧ w = z ∧ n = m := by
  have e := Option.some.inj h
  exact ⟨(congrArg Prod.fst e).symm, (congrArg (fun q => q.2.1) e).symm, (congrArg (fun q => q.2.2.1) e).symm, (congrArg (fun q => q.2.2.2.1) e).symm, (congrArg (fun q => q.2.2.2.2) e).symm⟩
theorem sp1 {α : Type} {a b : α} (h : a = b) : b = a := h.symm
theorem sp2 {α β : Type} {a c : α} {b d : β} (h : (a, b) = (c, d)) : c = a ∧ d = b := ⟨(congrArg Prod.fst h).symm, (congrArg Prod.snd h).symm⟩
