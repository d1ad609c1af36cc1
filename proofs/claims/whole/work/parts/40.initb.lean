theorem dX5_init_0 : decode cX5_init 0 = .ok (.aload_n 0, 1) := by decide +kernel
theorem dX5_init_1 : decode cX5_init 1 = .ok (.invokespecial 3, 3) := by decide +kernel
theorem dX5_init_4 : decode cX5_init 4 = .ok (.aload_n 0, 1) := by decide +kernel
theorem dX5_init_5 : decode cX5_init 5 = .ok (.iconst 0, 1) := by decide +kernel
theorem dX5_init_6 : decode cX5_init 6 = .ok (.putfield 9, 3) := by decide +kernel
theorem dX5_init_9 : decode cX5_init 9 = .ok (.aload_n 0, 1) := by decide +kernel
theorem dX5_init_10 : decode cX5_init 10 = .ok (.iconst 0, 1) := by decide +kernel
theorem dX5_init_11 : decode cX5_init 11 = .ok (.putfield 15, 3) := by decide +kernel
theorem dX5_init_14 : decode cX5_init 14 = .ok (.aload_n 0, 1) := by decide +kernel
theorem dX5_init_15 : decode cX5_init 15 = .ok (.iconst (-1), 1) := by decide +kernel
theorem dX5_init_16 : decode cX5_init 16 = .ok (.putfield 18, 3) := by decide +kernel
theorem dX5_init_19 : decode cX5_init 19 = .ok (.aload_n 0, 1) := by decide +kernel
theorem dX5_init_20 : decode cX5_init 20 = .ok (.iconst (-1), 1) := by decide +kernel
theorem dX5_init_21 : decode cX5_init 21 = .ok (.putfield 22, 3) := by decide +kernel
theorem dX5_init_24 : decode cX5_init 24 = .ok (.aload_n 0, 1) := by decide +kernel
theorem dX5_init_25 : decode cX5_init 25 = .ok (.iconst 0, 1) := by decide +kernel
theorem dX5_init_26 : decode cX5_init 26 = .ok (.putfield 25, 3) := by decide +kernel
theorem dX5_init_29 : decode cX5_init 29 = .ok (.aload_n 0, 1) := by decide +kernel
theorem dX5_init_30 : decode cX5_init 30 = .ok (.aload_n 1, 1) := by decide +kernel
theorem dX5_init_31 : decode cX5_init 31 = .ok (.putfield 28, 3) := by decide +kernel
theorem dX5_init_34 : decode cX5_init 34 = .ok (.aload_n 0, 1) := by decide +kernel
theorem dX5_init_35 : decode cX5_init 35 = .ok (.aload_n 2, 1) := by decide +kernel
theorem dX5_init_36 : decode cX5_init 36 = .ok (.putfield 32, 3) := by decide +kernel
theorem dX5_init_39 : decode cX5_init 39 = .ok (.aload_n 0, 1) := by decide +kernel
theorem dX5_init_40 : decode cX5_init 40 = .ok (.new 36, 3) := by decide +kernel
theorem dX5_init_43 : decode cX5_init 43 = .ok (.dup, 1) := by decide +kernel
theorem dX5_init_44 : decode cX5_init 44 = .ok (.aload_n 1, 1) := by decide +kernel
theorem dX5_init_45 : decode cX5_init 45 = .ok (.invokespecial 38, 3) := by decide +kernel
theorem dX5_init_48 : decode cX5_init 48 = .ok (.putfield 41, 3) := by decide +kernel
theorem dX5_init_51 : decode cX5_init 51 = .ok (.return_, 1) := by decide +kernel
abbrev wi_X5 (ar : Nat → ClassId) (h0 : Nat) (h1 h2 : Nat) (q : Nat → Nat) : va_W := [(h0, .inr (5, [.ref h1, .ref h2, .ref (q 0), .int (0 : Int32), .int (0 : Int32), .int (-1 : Int32), .int (-1 : Int32), .int (0 : Int32)])), ((q 0), .inr (0, [.ref h1, .int (0 : Int32), .ref (q 1), .ref (q 9), .ref (q 19)])), ((q 1), .inr (2, [.ref (q 2), .ref (q 3), .ref (q 4), .ref (q 5), .ref (q 6), .ref (q 7), .ref (q 8), .int (0 : Int32), .int (0 : Int32)])), ((q 2), .inl (ar 0, 24, .inl (fun _ => 0))), ((q 3), .inl (ar 0, 24, .inl (fun _ => 0))), ((q 4), .inl (ar 0, 24, .inl (fun _ => 0))), ((q 5), .inl (ar 0, 24, .inl (fun _ => 0))), ((q 6), .inl (ar 0, 24, .inl (fun _ => 0))), ((q 7), .inl (ar 0, 24, .inl (fun _ => 0))), ((q 8), .inl (ar 0, 8, .inl (fun _ => 0))), ((q 9), .inr (3, [.int (0 : Int32), .int (0 : Int32), .int (0 : Int32), .int (0 : Int32), .ref (q 10), .ref (q 11), .int (0 : Int32), .ref (q 12), .ref (q 13), .ref (q 14), .ref (q 15), .ref (q 16), .ref (q 17), .ref (q 18)])), ((q 10), .inl (ar 0, 192, .inl (fun _ => 0))), ((q 11), .inl (ar 0, 8, .inl (fun _ => 0))), ((q 12), .inl (ar 0, 24, .inl (fun _ => 0))), ((q 13), .inl (ar 0, 24, .inl (fun _ => 0))), ((q 14), .inl (ar 0, 24, .inl (fun _ => 0))), ((q 15), .inl (ar 0, 24, .inl (fun _ => 0))), ((q 16), .inl (ar 0, 24, .inl (fun _ => 0))), ((q 17), .inl (ar 0, 8, .inl (fun _ => 0))), ((q 18), .inl (ar 0, 8, .inl (fun _ => 0))), ((q 19), .inr (1, [.ref (q 20), .int (0 : Int32), .int (0 : Int32)])), ((q 20), .inl (ar 0, 96, .inl (fun _ => 0)))]
set_option maxRecDepth 100000 in
set_option maxHeartbeats 8000000 in
theorem ci_X5 (l : Launch) (D : va_G) (ar : Nat → ClassId) (h0 : Nat) (h1 h2 : Nat) (sz : Nat) : Met l yX5_init (.code yX5_init cX5_init 3 none :: tb) ({ frames := 3, cells := 21, slots := 615, locals := 61 } : Room) (va_Pc [.ref h0, .ref h1, .ref h2] (fun U => U.heap.size = sz ∧ va_P D vwCl [(h0, .inr (5, [.null, .null, .null, .int 0, .int 0, .int 0, .int 0, .int 0]))] U.heap ∧ va_K D vwCl (sh_t ar) U ∧ va_D (fun _ => True) [(h0, .inr (5, [.null, .null, .null, .int 0, .int 0, .int 0, .int 0, .int 0]))] ∧ nsOk U ∧ va_AO RX6 U)) (va_Qv (fun _ : Nat → Nat => True) (fun q t => va_P D vwCl (wi_X5 ar h0 h1 h2 q) t.heap ∧ va_D (va_A [(h0, .inr (5, [.null, .null, .null, .int 0, .int 0, .int 0, .int 0, .int 0]))] sz) (wi_X5 ar h0 h1 h2 q)) (va_A [(h0, .inr (5, [.null, .null, .null, .int 0, .int 0, .int 0, .int 0, .int 0]))] sz)) 21 615 (va_A [(h0, .inr (5, [.null, .null, .null, .int 0, .int 0, .int 0, .int 0, .int 0]))] sz) := by
  refine Met.ofW (cc := cX5_init) (maxL := 3) (ret := none) (by decide) rfl ?_
  intro p e s m args below meth c s₁ B hml hv
  obtain ⟨rfl, hsz, hP, hK, hD0, hN, hAO⟩ := hv
  have hx := B.exec
  have hb := B.bytes
  have hr := B.returns
  have hts : ∀ w ∈ tb, w.before _ s = true := fun w hw => atoms_spec (ws := .code yX5_init cX5_init 3 none :: tb) B.pre w (List.mem_cons_of_mem _ hw)
  have hown : s.vm.findClass RX5 = some m.cls := findClass_of_methodNamed B.named
  have hlocks := B.notSynchronized
  have hin : meth.name = "<init>" := (name_of_methodNamed B.named B.method).1
  subst hsz
  have hD := hD0.self (sz := s.heap.size)
  generalize hAe : va_A [(h0, .inr (5, [.null, .null, .null, .int 0, .int 0, .int 0, .int 0, .int 0]))] s.heap.size = A at hD ⊢
  have hA : ∀ q : Nat, s.heap.size ≤ q → A q := fun q h => by rw [← hAe]; exact Or.inr h
  have hS : va_S A s.heap s.heap [] := va_S.rf
  have hl := lv_entry ([.ref h0, .ref h1, .ref h2]) (n := 3) (Nat.le_of_ble_eq_true rfl)
  rw [lg_entry_eq]
  generalize (lg_sl ([.ref h0, .ref h1, .ref h2]) ++ List.replicate (3 - (lg_sl ([.ref h0, .ref h1, .ref h2])).length) Slot.unset).toArray = ls at hl ⊢
  have hl : lv_has ls 3 [(0, .ref h0), (1, .ref h1), (2, .ref h2)] := hl
  refine lv_aload_n hx hb dX5_init_0 rfl (lv_at hl 0 rfl) ?_
  refine W.objInit hx hb hown (hts _ wd_347) (hts _ wd_108) (hts _ wd_109) rfl (by rw [hml]; exact hl.1) rfl dX5_init_1 (Nat.le_of_ble_eq_true rfl) (Nat.le_of_ble_eq_true rfl) ?_
  refine W.eq (g2 := F0 m 4 ls []) rfl ?_
  refine lv_aload_n hx hb dX5_init_4 rfl (lv_at hl 0 rfl) ?_
  refine lv_iconst (v := (0 : Int32)) hx hb dX5_init_5 (by decide) ?_
  refine va_put (D := D) (ci := 5) (v := .int (0 : Int32)) (ty := .boolean) (C := RX5) (T := TX5) (N := 8) hx hb hts in_X5 tyX5 tyX5_ok nmX5 hown hK hP hD hS 0 rfl rfl 3 (by decide) (hts _ wd_353) (fun _ h9 => h9) rfl (by decide +kernel) rfl rfl (Nat.le_of_ble_eq_true rfl) dX5_init_6 (fun H locs hP hD hS => ?_)
  have hP : va_P D vwCl [(h0, .inr (5, [.null, .null, .null, .int (0 : Int32), .int 0, .int 0, .int 0, .int 0]))] H := hP
  have hD : va_D A [(h0, .inr (5, [.null, .null, .null, .int (0 : Int32), .int 0, .int 0, .int 0, .int 0]))] := hD
  refine lv_aload_n hx hb dX5_init_9 rfl (lv_at hl 0 rfl) ?_
  refine lv_iconst (v := (0 : Int32)) hx hb dX5_init_10 (by decide) ?_
  refine va_put (D := D) (ci := 5) (v := .int (0 : Int32)) (ty := .boolean) (C := RX5) (T := TX5) (N := 8) hx hb hts in_X5 tyX5 tyX5_ok nmX5 hown hK hP hD hS 0 rfl rfl 4 (by decide) (hts _ wd_354) (fun _ h9 => h9) rfl (by decide +kernel) rfl rfl (Nat.le_of_ble_eq_true rfl) dX5_init_11 (fun H locs hP hD hS => ?_)
  have hP : va_P D vwCl [(h0, .inr (5, [.null, .null, .null, .int (0 : Int32), .int (0 : Int32), .int 0, .int 0, .int 0]))] H := hP
  have hD : va_D A [(h0, .inr (5, [.null, .null, .null, .int (0 : Int32), .int (0 : Int32), .int 0, .int 0, .int 0]))] := hD
  refine lv_aload_n hx hb dX5_init_14 rfl (lv_at hl 0 rfl) ?_
  refine lv_iconst (v := (-1 : Int32)) hx hb dX5_init_15 (by decide) ?_
  refine va_put (D := D) (ci := 5) (v := .int (-1 : Int32)) (ty := .int) (C := RX5) (T := TX5) (N := 8) hx hb hts in_X5 tyX5 tyX5_ok nmX5 hown hK hP hD hS 0 rfl rfl 5 (by decide) (hts _ wd_355) (fun _ h9 => h9) rfl (by decide +kernel) rfl rfl (Nat.le_of_ble_eq_true rfl) dX5_init_16 (fun H locs hP hD hS => ?_)
  have hP : va_P D vwCl [(h0, .inr (5, [.null, .null, .null, .int (0 : Int32), .int (0 : Int32), .int (-1 : Int32), .int 0, .int 0]))] H := hP
  have hD : va_D A [(h0, .inr (5, [.null, .null, .null, .int (0 : Int32), .int (0 : Int32), .int (-1 : Int32), .int 0, .int 0]))] := hD
  refine lv_aload_n hx hb dX5_init_19 rfl (lv_at hl 0 rfl) ?_
  refine lv_iconst (v := (-1 : Int32)) hx hb dX5_init_20 (by decide) ?_
  refine va_put (D := D) (ci := 5) (v := .int (-1 : Int32)) (ty := .int) (C := RX5) (T := TX5) (N := 8) hx hb hts in_X5 tyX5 tyX5_ok nmX5 hown hK hP hD hS 0 rfl rfl 6 (by decide) (hts _ wd_357) (fun _ h9 => h9) rfl (by decide +kernel) rfl rfl (Nat.le_of_ble_eq_true rfl) dX5_init_21 (fun H locs hP hD hS => ?_)
  have hP : va_P D vwCl [(h0, .inr (5, [.null, .null, .null, .int (0 : Int32), .int (0 : Int32), .int (-1 : Int32), .int (-1 : Int32), .int 0]))] H := hP
  have hD : va_D A [(h0, .inr (5, [.null, .null, .null, .int (0 : Int32), .int (0 : Int32), .int (-1 : Int32), .int (-1 : Int32), .int 0]))] := hD
  refine lv_aload_n hx hb dX5_init_24 rfl (lv_at hl 0 rfl) ?_
  refine lv_iconst (v := (0 : Int32)) hx hb dX5_init_25 (by decide) ?_
  refine va_put (D := D) (ci := 5) (v := .int (0 : Int32)) (ty := .int) (C := RX5) (T := TX5) (N := 8) hx hb hts in_X5 tyX5 tyX5_ok nmX5 hown hK hP hD hS 0 rfl rfl 7 (by decide) (hts _ wd_359) (fun _ h9 => h9) rfl (by decide +kernel) rfl rfl (Nat.le_of_ble_eq_true rfl) dX5_init_26 (fun H locs hP hD hS => ?_)
  have hP : va_P D vwCl [(h0, .inr (5, [.null, .null, .null, .int (0 : Int32), .int (0 : Int32), .int (-1 : Int32), .int (-1 : Int32), .int (0 : Int32)]))] H := hP
  have hD : va_D A [(h0, .inr (5, [.null, .null, .null, .int (0 : Int32), .int (0 : Int32), .int (-1 : Int32), .int (-1 : Int32), .int (0 : Int32)]))] := hD
  refine lv_aload_n hx hb dX5_init_29 rfl (lv_at hl 0 rfl) ?_
  refine lv_aload_n hx hb dX5_init_30 rfl (lv_at hl 1 rfl) ?_
  refine va_putF (D := D) (ci := 5) (v := .ref h1) (ty := (.object "LoanPoints$Listing")) (C := RX5) (T := TX5) (N := 8) hx hb hts in_X5 tyX5 tyX5_ok nmX5 hown hK hP hD hS 0 rfl rfl 0 (by decide) (hts _ wd_350) (fun _ h9 => h9) rfl hin rfl (by decide +kernel) rfl rfl (Nat.le_of_ble_eq_true rfl) dX5_init_31 (fun H locs hP hD hS => ?_)
  have hP : va_P D vwCl [(h0, .inr (5, [.ref h1, .null, .null, .int (0 : Int32), .int (0 : Int32), .int (-1 : Int32), .int (-1 : Int32), .int (0 : Int32)]))] H := hP
  have hD : va_D A [(h0, .inr (5, [.ref h1, .null, .null, .int (0 : Int32), .int (0 : Int32), .int (-1 : Int32), .int (-1 : Int32), .int (0 : Int32)]))] := hD
  refine lv_aload_n hx hb dX5_init_34 rfl (lv_at hl 0 rfl) ?_
  refine lv_aload_n hx hb dX5_init_35 rfl (lv_at hl 2 rfl) ?_
  refine va_putF (D := D) (ci := 5) (v := .ref h2) (ty := (.object "LoanPoints$Check")) (C := RX5) (T := TX5) (N := 8) hx hb hts in_X5 tyX5 tyX5_ok nmX5 hown hK hP hD hS 0 rfl rfl 1 (by decide) (hts _ wd_351) (fun _ h9 => h9) rfl hin rfl (by decide +kernel) rfl rfl (Nat.le_of_ble_eq_true rfl) dX5_init_36 (fun H locs hP hD hS => ?_)
  have hP : va_P D vwCl [(h0, .inr (5, [.ref h1, .ref h2, .null, .int (0 : Int32), .int (0 : Int32), .int (-1 : Int32), .int (-1 : Int32), .int (0 : Int32)]))] H := hP
  have hD : va_D A [(h0, .inr (5, [.ref h1, .ref h2, .null, .int (0 : Int32), .int (0 : Int32), .int (-1 : Int32), .int (-1 : Int32), .int (0 : Int32)]))] := hD
  refine lv_aload_n hx hb dX5_init_39 rfl (lv_at hl 0 rfl) ?_
  refine va_new (ci := 0) (fs := [.null, .int 0, .null, .null, .null]) (C := RX0) (T := TX0) (N := 5) hx hb hts in_X0 tyX0 tyX0_ok hown (hts _ wd_348) (hts _ wd_188) (hts _ wd_90) hK hP hD hS hA rfl df_X0 (Nat.le_of_ble_eq_true rfl) (Nat.le_of_ble_eq_true rfl) dX5_init_40 (fun q1 H hP hD hS => ?_)
  have hP : va_P D vwCl [(h0, .inr (5, [.ref h1, .ref h2, .null, .int (0 : Int32), .int (0 : Int32), .int (-1 : Int32), .int (-1 : Int32), .int (0 : Int32)])), (q1, .inr (0, [.null, .int 0, .null, .null, .null]))] H := hP
  have hD : va_D A [(h0, .inr (5, [.ref h1, .ref h2, .null, .int (0 : Int32), .int (0 : Int32), .int (-1 : Int32), .int (-1 : Int32), .int (0 : Int32)])), (q1, .inr (0, [.null, .int 0, .null, .null, .null]))] := hD
  refine lv_dup hx hb dX5_init_43 rfl ?_
  refine lv_aload_n hx hb dX5_init_44 rfl (lv_at hl 1 rfl) ?_
  have hPc := hP.sub (ws' := [(q1, .inr (0, [.null, .int 0, .null, .null, .null]))]) [1] rfl
  have hDc := hD.sub (ws' := [(q1, .inr (0, [.null, .int 0, .null, .null, .null]))]) [1] (by decide) rfl
  have hFc := va_free (wc := [(q1, .inr (0, [.null, .int 0, .null, .null, .null]))]) hD hS hA [1] rfl
  refine va_callv (va_runI (As := [.ref h1]) (rest := [.ref q1, .ref h0]) ⟨hx, hb, hml, hown, hts⟩ (ci_X0 l D ar q1 h1 H.size) (cwI 1 hts (tb_GI (fun _ z => z) wd_191) rfl rfl rfl (hts _ wd_90) (hts _ wd_349) (hts _ wd_190) rfl (by decide +kernel) ⟨Nat.le_of_ble_eq_true rfl, Nat.le_of_ble_eq_true rfl⟩) ⟨fun a U g mk q => by obtain ⟨q0, q1, qP, qK, qD, qN, qA⟩ := q; exact ⟨q0, q1, qP, va_K.moved (u := U) (U := U.calling g mk a) (Vm.Alike.refl U.vm) qK, qD, nsOk.same (s := U) (U := U.calling g mk a) rfl qN, va_AO.moved (u := U) (U := U.calling g mk a) (Vm.Alike.refl U.vm) qA⟩, fun U hU hW => ⟨rfl, by rw [hU], by rw [hU]; exact hPc, va_K.moved hW.alike hK, hDc.weaken (fun _ _ _ _ => trivial), nsOk.warm hW hN, va_AO.moved hW.alike hAO⟩⟩ rfl rfl hl.1 rfl (lv_room (Nat.le_of_ble_eq_true rfl)) dX5_init_45 ⟨Nat.le_of_ble_eq_true rfl, Nat.le_of_ble_eq_true rfl⟩) hS (fun q _ h => hFc q h) hFc (fun qf t H1 locs ht hvm hw hB hz1 hk1 hS => ?_)
  obtain ⟨hP1, hD1⟩ := hB
  rw [ht] at hP1
  obtain ⟨q2, eq2⟩ : ∃ z, z = qf 0 := ⟨_, rfl⟩
  obtain ⟨q3, eq3⟩ : ∃ z, z = qf 1 := ⟨_, rfl⟩
  obtain ⟨q4, eq4⟩ : ∃ z, z = qf 2 := ⟨_, rfl⟩
  obtain ⟨q5, eq5⟩ : ∃ z, z = qf 3 := ⟨_, rfl⟩
  obtain ⟨q6, eq6⟩ : ∃ z, z = qf 4 := ⟨_, rfl⟩
  obtain ⟨q7, eq7⟩ : ∃ z, z = qf 5 := ⟨_, rfl⟩
  obtain ⟨q8, eq8⟩ : ∃ z, z = qf 6 := ⟨_, rfl⟩
  obtain ⟨q9, eq9⟩ : ∃ z, z = qf 7 := ⟨_, rfl⟩
  obtain ⟨q10, eq10⟩ : ∃ z, z = qf 8 := ⟨_, rfl⟩
  obtain ⟨q11, eq11⟩ : ∃ z, z = qf 9 := ⟨_, rfl⟩
  obtain ⟨q12, eq12⟩ : ∃ z, z = qf 10 := ⟨_, rfl⟩
  obtain ⟨q13, eq13⟩ : ∃ z, z = qf 11 := ⟨_, rfl⟩
  obtain ⟨q14, eq14⟩ : ∃ z, z = qf 12 := ⟨_, rfl⟩
  obtain ⟨q15, eq15⟩ : ∃ z, z = qf 13 := ⟨_, rfl⟩
  obtain ⟨q16, eq16⟩ : ∃ z, z = qf 14 := ⟨_, rfl⟩
  obtain ⟨q17, eq17⟩ : ∃ z, z = qf 15 := ⟨_, rfl⟩
  obtain ⟨q18, eq18⟩ : ∃ z, z = qf 16 := ⟨_, rfl⟩
  obtain ⟨q19, eq19⟩ : ∃ z, z = qf 17 := ⟨_, rfl⟩
  obtain ⟨q20, eq20⟩ : ∃ z, z = qf 18 := ⟨_, rfl⟩
  obtain ⟨q21, eq21⟩ : ∃ z, z = qf 19 := ⟨_, rfl⟩
  have hP1 : va_P D vwCl [(q1, .inr (0, [.ref h1, .int (0 : Int32), .ref q2, .ref q10, .ref q20])), (q2, .inr (2, [.ref q3, .ref q4, .ref q5, .ref q6, .ref q7, .ref q8, .ref q9, .int (0 : Int32), .int (0 : Int32)])), (q3, .inl (ar 0, 24, .inl (fun _ => 0))), (q4, .inl (ar 0, 24, .inl (fun _ => 0))), (q5, .inl (ar 0, 24, .inl (fun _ => 0))), (q6, .inl (ar 0, 24, .inl (fun _ => 0))), (q7, .inl (ar 0, 24, .inl (fun _ => 0))), (q8, .inl (ar 0, 24, .inl (fun _ => 0))), (q9, .inl (ar 0, 8, .inl (fun _ => 0))), (q10, .inr (3, [.int (0 : Int32), .int (0 : Int32), .int (0 : Int32), .int (0 : Int32), .ref q11, .ref q12, .int (0 : Int32), .ref q13, .ref q14, .ref q15, .ref q16, .ref q17, .ref q18, .ref q19])), (q11, .inl (ar 0, 192, .inl (fun _ => 0))), (q12, .inl (ar 0, 8, .inl (fun _ => 0))), (q13, .inl (ar 0, 24, .inl (fun _ => 0))), (q14, .inl (ar 0, 24, .inl (fun _ => 0))), (q15, .inl (ar 0, 24, .inl (fun _ => 0))), (q16, .inl (ar 0, 24, .inl (fun _ => 0))), (q17, .inl (ar 0, 24, .inl (fun _ => 0))), (q18, .inl (ar 0, 8, .inl (fun _ => 0))), (q19, .inl (ar 0, 8, .inl (fun _ => 0))), (q20, .inr (1, [.ref q21, .int (0 : Int32), .int (0 : Int32)])), (q21, .inl (ar 0, 96, .inl (fun _ => 0)))] H1 := by rw [eq2, eq3, eq4, eq5, eq6, eq7, eq8, eq9, eq10, eq11, eq12, eq13, eq14, eq15, eq16, eq17, eq18, eq19, eq20, eq21]; exact hP1
  have hD1 : va_D (va_A [(q1, .inr (0, [.null, .int 0, .null, .null, .null]))] H.size) [(q1, .inr (0, [.ref h1, .int (0 : Int32), .ref q2, .ref q10, .ref q20])), (q2, .inr (2, [.ref q3, .ref q4, .ref q5, .ref q6, .ref q7, .ref q8, .ref q9, .int (0 : Int32), .int (0 : Int32)])), (q3, .inl (ar 0, 24, .inl (fun _ => 0))), (q4, .inl (ar 0, 24, .inl (fun _ => 0))), (q5, .inl (ar 0, 24, .inl (fun _ => 0))), (q6, .inl (ar 0, 24, .inl (fun _ => 0))), (q7, .inl (ar 0, 24, .inl (fun _ => 0))), (q8, .inl (ar 0, 24, .inl (fun _ => 0))), (q9, .inl (ar 0, 8, .inl (fun _ => 0))), (q10, .inr (3, [.int (0 : Int32), .int (0 : Int32), .int (0 : Int32), .int (0 : Int32), .ref q11, .ref q12, .int (0 : Int32), .ref q13, .ref q14, .ref q15, .ref q16, .ref q17, .ref q18, .ref q19])), (q11, .inl (ar 0, 192, .inl (fun _ => 0))), (q12, .inl (ar 0, 8, .inl (fun _ => 0))), (q13, .inl (ar 0, 24, .inl (fun _ => 0))), (q14, .inl (ar 0, 24, .inl (fun _ => 0))), (q15, .inl (ar 0, 24, .inl (fun _ => 0))), (q16, .inl (ar 0, 24, .inl (fun _ => 0))), (q17, .inl (ar 0, 24, .inl (fun _ => 0))), (q18, .inl (ar 0, 8, .inl (fun _ => 0))), (q19, .inl (ar 0, 8, .inl (fun _ => 0))), (q20, .inr (1, [.ref q21, .int (0 : Int32), .int (0 : Int32)])), (q21, .inl (ar 0, 96, .inl (fun _ => 0)))] := by rw [eq2, eq3, eq4, eq5, eq6, eq7, eq8, eq9, eq10, eq11, eq12, eq13, eq14, eq15, eq16, eq17, eq18, eq19, eq20, eq21]; exact hD1
  clear hw ht hvm hz1
  obtain ⟨hP, hD⟩ := va_join (wr := [(h0, .inr (5, [.ref h1, .ref h2, .null, .int (0 : Int32), .int (0 : Int32), .int (-1 : Int32), .int (-1 : Int32), .int (0 : Int32)]))]) (w1 := [(q1, .inr (0, [.ref h1, .int (0 : Int32), .ref q2, .ref q10, .ref q20])), (q2, .inr (2, [.ref q3, .ref q4, .ref q5, .ref q6, .ref q7, .ref q8, .ref q9, .int (0 : Int32), .int (0 : Int32)])), (q3, .inl (ar 0, 24, .inl (fun _ => 0))), (q4, .inl (ar 0, 24, .inl (fun _ => 0))), (q5, .inl (ar 0, 24, .inl (fun _ => 0))), (q6, .inl (ar 0, 24, .inl (fun _ => 0))), (q7, .inl (ar 0, 24, .inl (fun _ => 0))), (q8, .inl (ar 0, 24, .inl (fun _ => 0))), (q9, .inl (ar 0, 8, .inl (fun _ => 0))), (q10, .inr (3, [.int (0 : Int32), .int (0 : Int32), .int (0 : Int32), .int (0 : Int32), .ref q11, .ref q12, .int (0 : Int32), .ref q13, .ref q14, .ref q15, .ref q16, .ref q17, .ref q18, .ref q19])), (q11, .inl (ar 0, 192, .inl (fun _ => 0))), (q12, .inl (ar 0, 8, .inl (fun _ => 0))), (q13, .inl (ar 0, 24, .inl (fun _ => 0))), (q14, .inl (ar 0, 24, .inl (fun _ => 0))), (q15, .inl (ar 0, 24, .inl (fun _ => 0))), (q16, .inl (ar 0, 24, .inl (fun _ => 0))), (q17, .inl (ar 0, 24, .inl (fun _ => 0))), (q18, .inl (ar 0, 8, .inl (fun _ => 0))), (q19, .inl (ar 0, 8, .inl (fun _ => 0))), (q20, .inr (1, [.ref q21, .int (0 : Int32), .int (0 : Int32)])), (q21, .inl (ar 0, 96, .inl (fun _ => 0)))]) hP hD [1] [0] rfl rfl (by decide) (by decide) hk1 hFc hP1 hD1
  generalize H1 = H at hP hS ⊢
  have hP : va_P D vwCl [(h0, .inr (5, [.ref h1, .ref h2, .null, .int (0 : Int32), .int (0 : Int32), .int (-1 : Int32), .int (-1 : Int32), .int (0 : Int32)])), (q1, .inr (0, [.ref h1, .int (0 : Int32), .ref q2, .ref q10, .ref q20])), (q2, .inr (2, [.ref q3, .ref q4, .ref q5, .ref q6, .ref q7, .ref q8, .ref q9, .int (0 : Int32), .int (0 : Int32)])), (q3, .inl (ar 0, 24, .inl (fun _ => 0))), (q4, .inl (ar 0, 24, .inl (fun _ => 0))), (q5, .inl (ar 0, 24, .inl (fun _ => 0))), (q6, .inl (ar 0, 24, .inl (fun _ => 0))), (q7, .inl (ar 0, 24, .inl (fun _ => 0))), (q8, .inl (ar 0, 24, .inl (fun _ => 0))), (q9, .inl (ar 0, 8, .inl (fun _ => 0))), (q10, .inr (3, [.int (0 : Int32), .int (0 : Int32), .int (0 : Int32), .int (0 : Int32), .ref q11, .ref q12, .int (0 : Int32), .ref q13, .ref q14, .ref q15, .ref q16, .ref q17, .ref q18, .ref q19])), (q11, .inl (ar 0, 192, .inl (fun _ => 0))), (q12, .inl (ar 0, 8, .inl (fun _ => 0))), (q13, .inl (ar 0, 24, .inl (fun _ => 0))), (q14, .inl (ar 0, 24, .inl (fun _ => 0))), (q15, .inl (ar 0, 24, .inl (fun _ => 0))), (q16, .inl (ar 0, 24, .inl (fun _ => 0))), (q17, .inl (ar 0, 24, .inl (fun _ => 0))), (q18, .inl (ar 0, 8, .inl (fun _ => 0))), (q19, .inl (ar 0, 8, .inl (fun _ => 0))), (q20, .inr (1, [.ref q21, .int (0 : Int32), .int (0 : Int32)])), (q21, .inl (ar 0, 96, .inl (fun _ => 0)))] H := hP
  have hD : va_D A [(h0, .inr (5, [.ref h1, .ref h2, .null, .int (0 : Int32), .int (0 : Int32), .int (-1 : Int32), .int (-1 : Int32), .int (0 : Int32)])), (q1, .inr (0, [.ref h1, .int (0 : Int32), .ref q2, .ref q10, .ref q20])), (q2, .inr (2, [.ref q3, .ref q4, .ref q5, .ref q6, .ref q7, .ref q8, .ref q9, .int (0 : Int32), .int (0 : Int32)])), (q3, .inl (ar 0, 24, .inl (fun _ => 0))), (q4, .inl (ar 0, 24, .inl (fun _ => 0))), (q5, .inl (ar 0, 24, .inl (fun _ => 0))), (q6, .inl (ar 0, 24, .inl (fun _ => 0))), (q7, .inl (ar 0, 24, .inl (fun _ => 0))), (q8, .inl (ar 0, 24, .inl (fun _ => 0))), (q9, .inl (ar 0, 8, .inl (fun _ => 0))), (q10, .inr (3, [.int (0 : Int32), .int (0 : Int32), .int (0 : Int32), .int (0 : Int32), .ref q11, .ref q12, .int (0 : Int32), .ref q13, .ref q14, .ref q15, .ref q16, .ref q17, .ref q18, .ref q19])), (q11, .inl (ar 0, 192, .inl (fun _ => 0))), (q12, .inl (ar 0, 8, .inl (fun _ => 0))), (q13, .inl (ar 0, 24, .inl (fun _ => 0))), (q14, .inl (ar 0, 24, .inl (fun _ => 0))), (q15, .inl (ar 0, 24, .inl (fun _ => 0))), (q16, .inl (ar 0, 24, .inl (fun _ => 0))), (q17, .inl (ar 0, 24, .inl (fun _ => 0))), (q18, .inl (ar 0, 8, .inl (fun _ => 0))), (q19, .inl (ar 0, 8, .inl (fun _ => 0))), (q20, .inr (1, [.ref q21, .int (0 : Int32), .int (0 : Int32)])), (q21, .inl (ar 0, 96, .inl (fun _ => 0)))] := hD
  refine va_putF (D := D) (ci := 5) (v := .ref q1) (ty := (.object "LoanPoints$Check")) (C := RX5) (T := TX5) (N := 8) hx hb hts in_X5 tyX5 tyX5_ok nmX5 hown hK hP hD hS 0 rfl rfl 2 (by decide) (hts _ wd_352) (fun _ h9 => h9) rfl hin rfl (by decide +kernel) rfl rfl (Nat.le_of_ble_eq_true rfl) dX5_init_48 (fun H locs hP hD hS => ?_)
  have hP : va_P D vwCl [(h0, .inr (5, [.ref h1, .ref h2, .ref q1, .int (0 : Int32), .int (0 : Int32), .int (-1 : Int32), .int (-1 : Int32), .int (0 : Int32)])), (q1, .inr (0, [.ref h1, .int (0 : Int32), .ref q2, .ref q10, .ref q20])), (q2, .inr (2, [.ref q3, .ref q4, .ref q5, .ref q6, .ref q7, .ref q8, .ref q9, .int (0 : Int32), .int (0 : Int32)])), (q3, .inl (ar 0, 24, .inl (fun _ => 0))), (q4, .inl (ar 0, 24, .inl (fun _ => 0))), (q5, .inl (ar 0, 24, .inl (fun _ => 0))), (q6, .inl (ar 0, 24, .inl (fun _ => 0))), (q7, .inl (ar 0, 24, .inl (fun _ => 0))), (q8, .inl (ar 0, 24, .inl (fun _ => 0))), (q9, .inl (ar 0, 8, .inl (fun _ => 0))), (q10, .inr (3, [.int (0 : Int32), .int (0 : Int32), .int (0 : Int32), .int (0 : Int32), .ref q11, .ref q12, .int (0 : Int32), .ref q13, .ref q14, .ref q15, .ref q16, .ref q17, .ref q18, .ref q19])), (q11, .inl (ar 0, 192, .inl (fun _ => 0))), (q12, .inl (ar 0, 8, .inl (fun _ => 0))), (q13, .inl (ar 0, 24, .inl (fun _ => 0))), (q14, .inl (ar 0, 24, .inl (fun _ => 0))), (q15, .inl (ar 0, 24, .inl (fun _ => 0))), (q16, .inl (ar 0, 24, .inl (fun _ => 0))), (q17, .inl (ar 0, 24, .inl (fun _ => 0))), (q18, .inl (ar 0, 8, .inl (fun _ => 0))), (q19, .inl (ar 0, 8, .inl (fun _ => 0))), (q20, .inr (1, [.ref q21, .int (0 : Int32), .int (0 : Int32)])), (q21, .inl (ar 0, 96, .inl (fun _ => 0)))] H := hP
  have hD : va_D A [(h0, .inr (5, [.ref h1, .ref h2, .ref q1, .int (0 : Int32), .int (0 : Int32), .int (-1 : Int32), .int (-1 : Int32), .int (0 : Int32)])), (q1, .inr (0, [.ref h1, .int (0 : Int32), .ref q2, .ref q10, .ref q20])), (q2, .inr (2, [.ref q3, .ref q4, .ref q5, .ref q6, .ref q7, .ref q8, .ref q9, .int (0 : Int32), .int (0 : Int32)])), (q3, .inl (ar 0, 24, .inl (fun _ => 0))), (q4, .inl (ar 0, 24, .inl (fun _ => 0))), (q5, .inl (ar 0, 24, .inl (fun _ => 0))), (q6, .inl (ar 0, 24, .inl (fun _ => 0))), (q7, .inl (ar 0, 24, .inl (fun _ => 0))), (q8, .inl (ar 0, 24, .inl (fun _ => 0))), (q9, .inl (ar 0, 8, .inl (fun _ => 0))), (q10, .inr (3, [.int (0 : Int32), .int (0 : Int32), .int (0 : Int32), .int (0 : Int32), .ref q11, .ref q12, .int (0 : Int32), .ref q13, .ref q14, .ref q15, .ref q16, .ref q17, .ref q18, .ref q19])), (q11, .inl (ar 0, 192, .inl (fun _ => 0))), (q12, .inl (ar 0, 8, .inl (fun _ => 0))), (q13, .inl (ar 0, 24, .inl (fun _ => 0))), (q14, .inl (ar 0, 24, .inl (fun _ => 0))), (q15, .inl (ar 0, 24, .inl (fun _ => 0))), (q16, .inl (ar 0, 24, .inl (fun _ => 0))), (q17, .inl (ar 0, 24, .inl (fun _ => 0))), (q18, .inl (ar 0, 8, .inl (fun _ => 0))), (q19, .inl (ar 0, 8, .inl (fun _ => 0))), (q20, .inr (1, [.ref q21, .int (0 : Int32), .int (0 : Int32)])), (q21, .inl (ar 0, 96, .inl (fun _ => 0)))] := hD
  have hP9 := hP.sub (ws' := [(h0, .inr (5, [.ref h1, .ref h2, .ref q1, .int (0 : Int32), .int (0 : Int32), .int (-1 : Int32), .int (-1 : Int32), .int (0 : Int32)])), (q1, .inr (0, [.ref h1, .int (0 : Int32), .ref q2, .ref q10, .ref q20])), (q2, .inr (2, [.ref q3, .ref q4, .ref q5, .ref q6, .ref q7, .ref q8, .ref q9, .int (0 : Int32), .int (0 : Int32)])), (q3, .inl (ar 0, 24, .inl (fun _ => 0))), (q4, .inl (ar 0, 24, .inl (fun _ => 0))), (q5, .inl (ar 0, 24, .inl (fun _ => 0))), (q6, .inl (ar 0, 24, .inl (fun _ => 0))), (q7, .inl (ar 0, 24, .inl (fun _ => 0))), (q8, .inl (ar 0, 24, .inl (fun _ => 0))), (q9, .inl (ar 0, 8, .inl (fun _ => 0))), (q10, .inr (3, [.int (0 : Int32), .int (0 : Int32), .int (0 : Int32), .int (0 : Int32), .ref q11, .ref q12, .int (0 : Int32), .ref q13, .ref q14, .ref q15, .ref q16, .ref q17, .ref q18, .ref q19])), (q11, .inl (ar 0, 192, .inl (fun _ => 0))), (q12, .inl (ar 0, 8, .inl (fun _ => 0))), (q13, .inl (ar 0, 24, .inl (fun _ => 0))), (q14, .inl (ar 0, 24, .inl (fun _ => 0))), (q15, .inl (ar 0, 24, .inl (fun _ => 0))), (q16, .inl (ar 0, 24, .inl (fun _ => 0))), (q17, .inl (ar 0, 24, .inl (fun _ => 0))), (q18, .inl (ar 0, 8, .inl (fun _ => 0))), (q19, .inl (ar 0, 8, .inl (fun _ => 0))), (q20, .inr (1, [.ref q21, .int (0 : Int32), .int (0 : Int32)])), (q21, .inl (ar 0, 96, .inl (fun _ => 0)))]) [0, 1, 2, 3, 4, 5, 6, 7, 8, 9, 10, 11, 12, 13, 14, 15, 16, 17, 18, 19, 20, 21] rfl
  have hD9 := hD.sub (ws' := [(h0, .inr (5, [.ref h1, .ref h2, .ref q1, .int (0 : Int32), .int (0 : Int32), .int (-1 : Int32), .int (-1 : Int32), .int (0 : Int32)])), (q1, .inr (0, [.ref h1, .int (0 : Int32), .ref q2, .ref q10, .ref q20])), (q2, .inr (2, [.ref q3, .ref q4, .ref q5, .ref q6, .ref q7, .ref q8, .ref q9, .int (0 : Int32), .int (0 : Int32)])), (q3, .inl (ar 0, 24, .inl (fun _ => 0))), (q4, .inl (ar 0, 24, .inl (fun _ => 0))), (q5, .inl (ar 0, 24, .inl (fun _ => 0))), (q6, .inl (ar 0, 24, .inl (fun _ => 0))), (q7, .inl (ar 0, 24, .inl (fun _ => 0))), (q8, .inl (ar 0, 24, .inl (fun _ => 0))), (q9, .inl (ar 0, 8, .inl (fun _ => 0))), (q10, .inr (3, [.int (0 : Int32), .int (0 : Int32), .int (0 : Int32), .int (0 : Int32), .ref q11, .ref q12, .int (0 : Int32), .ref q13, .ref q14, .ref q15, .ref q16, .ref q17, .ref q18, .ref q19])), (q11, .inl (ar 0, 192, .inl (fun _ => 0))), (q12, .inl (ar 0, 8, .inl (fun _ => 0))), (q13, .inl (ar 0, 24, .inl (fun _ => 0))), (q14, .inl (ar 0, 24, .inl (fun _ => 0))), (q15, .inl (ar 0, 24, .inl (fun _ => 0))), (q16, .inl (ar 0, 24, .inl (fun _ => 0))), (q17, .inl (ar 0, 24, .inl (fun _ => 0))), (q18, .inl (ar 0, 8, .inl (fun _ => 0))), (q19, .inl (ar 0, 8, .inl (fun _ => 0))), (q20, .inr (1, [.ref q21, .int (0 : Int32), .int (0 : Int32)])), (q21, .inl (ar 0, 96, .inl (fun _ => 0)))]) [0, 1, 2, 3, 4, 5, 6, 7, 8, 9, 10, 11, 12, 13, 14, 15, 16, 17, 18, 19, 20, 21] (by decide) rfl
  refine W.widen (k := 21) (n := 615) (Nat.le_of_ble_eq_true rfl) (Nat.le_of_ble_eq_true rfl) ?_
  exact W.vret hx hb hr (fun t ht hW => ⟨⟨(fun k => ([q1, q2, q3, q4, q5, q6, q7, q8, q9, q10, q11, q12, q13, q14, q15, q16, q17, q18, q19, q20, q21] : List Nat).getD k 0), rfl, trivial, by rw [ht]; exact hP9, hD9⟩, hS.F ht⟩) hS.2.2 dX5_init_51
theorem dX7_init_0 : decode cX7_init 0 = .ok (.aload_n 0, 1) := by decide +kernel
theorem dX7_init_1 : decode cX7_init 1 = .ok (.invokespecial 3, 3) := by decide +kernel
theorem dX7_init_4 : decode cX7_init 4 = .ok (.aload_n 0, 1) := by decide +kernel
theorem dX7_init_5 : decode cX7_init 5 = .ok (.bipush 24, 2) := by decide +kernel
theorem dX7_init_7 : decode cX7_init 7 = .ok (.newarray .int, 2) := by decide +kernel
theorem dX7_init_9 : decode cX7_init 9 = .ok (.putfield 9, 3) := by decide +kernel
theorem dX7_init_12 : decode cX7_init 12 = .ok (.aload_n 0, 1) := by decide +kernel
theorem dX7_init_13 : decode cX7_init 13 = .ok (.iconst (-1), 1) := by decide +kernel
theorem dX7_init_14 : decode cX7_init 14 = .ok (.putfield 15, 3) := by decide +kernel
theorem dX7_init_17 : decode cX7_init 17 = .ok (.aload_n 0, 1) := by decide +kernel
theorem dX7_init_18 : decode cX7_init 18 = .ok (.bipush 60, 2) := by decide +kernel
theorem dX7_init_20 : decode cX7_init 20 = .ok (.newarray .int, 2) := by decide +kernel
theorem dX7_init_22 : decode cX7_init 22 = .ok (.putfield 19, 3) := by decide +kernel
theorem dX7_init_25 : decode cX7_init 25 = .ok (.aload_n 0, 1) := by decide +kernel
theorem dX7_init_26 : decode cX7_init 26 = .ok (.iconst 0, 1) := by decide +kernel
theorem dX7_init_27 : decode cX7_init 27 = .ok (.putfield 22, 3) := by decide +kernel
theorem dX7_init_30 : decode cX7_init 30 = .ok (.aload_n 0, 1) := by decide +kernel
theorem dX7_init_31 : decode cX7_init 31 = .ok (.aload_n 1, 1) := by decide +kernel
theorem dX7_init_32 : decode cX7_init 32 = .ok (.putfield 25, 3) := by decide +kernel
theorem dX7_init_35 : decode cX7_init 35 = .ok (.aload_n 0, 1) := by decide +kernel
theorem dX7_init_36 : decode cX7_init 36 = .ok (.aload_n 2, 1) := by decide +kernel
theorem dX7_init_37 : decode cX7_init 37 = .ok (.putfield 29, 3) := by decide +kernel
theorem dX7_init_40 : decode cX7_init 40 = .ok (.return_, 1) := by decide +kernel
abbrev wi_X7 (ar : Nat → ClassId) (h0 : Nat) (h1 h2 : Nat) (q : Nat → Nat) : va_W := [(h0, .inr (7, [.ref h1, .ref h2, .ref (q 0), .int (-1 : Int32), .ref (q 1), .int (0 : Int32)])), ((q 0), .inl (ar 0, 24, .inl (fun _ => 0))), ((q 1), .inl (ar 0, 60, .inl (fun _ => 0)))]
set_option maxRecDepth 100000 in
set_option maxHeartbeats 8000000 in
theorem ci_X7 (l : Launch) (D : va_G) (ar : Nat → ClassId) (h0 : Nat) (h1 h2 : Nat) (sz : Nat) : Met l yX7_init (.code yX7_init cX7_init 3 none :: tb) ({ frames := 1, cells := 2, slots := 84, locals := 20 } : Room) (va_Pc [.ref h0, .ref h1, .ref h2] (fun U => U.heap.size = sz ∧ va_P D vwCl [(h0, .inr (7, [.null, .null, .null, .int 0, .null, .int 0]))] U.heap ∧ va_K D vwCl (sh_t ar) U ∧ va_D (fun _ => True) [(h0, .inr (7, [.null, .null, .null, .int 0, .null, .int 0]))] ∧ nsOk U ∧ va_AO RX6 U)) (va_Qv (fun _ : Nat → Nat => True) (fun q t => va_P D vwCl (wi_X7 ar h0 h1 h2 q) t.heap ∧ va_D (va_A [(h0, .inr (7, [.null, .null, .null, .int 0, .null, .int 0]))] sz) (wi_X7 ar h0 h1 h2 q)) (va_A [(h0, .inr (7, [.null, .null, .null, .int 0, .null, .int 0]))] sz)) 2 84 (va_A [(h0, .inr (7, [.null, .null, .null, .int 0, .null, .int 0]))] sz) := by
  refine Met.ofW (cc := cX7_init) (maxL := 3) (ret := none) (by decide) rfl ?_
  intro p e s m args below meth c s₁ B hml hv
  obtain ⟨rfl, hsz, hP, hK, hD0, hN, hAO⟩ := hv
  have hx := B.exec
  have hb := B.bytes
  have hr := B.returns
  have hts : ∀ w ∈ tb, w.before _ s = true := fun w hw => atoms_spec (ws := .code yX7_init cX7_init 3 none :: tb) B.pre w (List.mem_cons_of_mem _ hw)
  have hown : s.vm.findClass RX7 = some m.cls := findClass_of_methodNamed B.named
  have hlocks := B.notSynchronized
  have hin : meth.name = "<init>" := (name_of_methodNamed B.named B.method).1
  subst hsz
  have hD := hD0.self (sz := s.heap.size)
  generalize hAe : va_A [(h0, .inr (7, [.null, .null, .null, .int 0, .null, .int 0]))] s.heap.size = A at hD ⊢
  have hA : ∀ q : Nat, s.heap.size ≤ q → A q := fun q h => by rw [← hAe]; exact Or.inr h
  have hS : va_S A s.heap s.heap [] := va_S.rf
  have hl := lv_entry ([.ref h0, .ref h1, .ref h2]) (n := 3) (Nat.le_of_ble_eq_true rfl)
  rw [lg_entry_eq]
  generalize (lg_sl ([.ref h0, .ref h1, .ref h2]) ++ List.replicate (3 - (lg_sl ([.ref h0, .ref h1, .ref h2])).length) Slot.unset).toArray = ls at hl ⊢
  have hl : lv_has ls 3 [(0, .ref h0), (1, .ref h1), (2, .ref h2)] := hl
  refine lv_aload_n hx hb dX7_init_0 rfl (lv_at hl 0 rfl) ?_
  refine W.objInit hx hb hown (hts _ wd_383) (hts _ wd_108) (hts _ wd_109) rfl (by rw [hml]; exact hl.1) rfl dX7_init_1 (Nat.le_of_ble_eq_true rfl) (Nat.le_of_ble_eq_true rfl) ?_
  refine W.eq (g2 := F0 m 4 ls []) rfl ?_
  refine lv_aload_n hx hb dX7_init_4 rfl (lv_at hl 0 rfl) ?_
  refine lv_bipush (v := (24 : Int32)) hx hb dX7_init_5 (by decide) ?_
  refine na_i (N' := 24) hx hb (hts _ wd_aci) hK hP hD hS hA (by decide) (by decide) (by decide) (Nat.le_of_ble_eq_true rfl) (Nat.le_of_ble_eq_true rfl) dX7_init_7 (fun q1 H hP hD hS => ?_)
  have hP : va_P D vwCl [(h0, .inr (7, [.null, .null, .null, .int 0, .null, .int 0])), (q1, .inl (ar 0, 24, .inl (fun _ => 0)))] H := hP
  have hD : va_D A [(h0, .inr (7, [.null, .null, .null, .int 0, .null, .int 0])), (q1, .inl (ar 0, 24, .inl (fun _ => 0)))] := hD
  refine va_putF (D := D) (ci := 7) (v := .ref q1) (ty := (.array .int)) (C := RX7) (T := TX7) (N := 6) hx hb hts in_X7 tyX7 tyX7_ok nmX7 hown hK hP hD hS 0 rfl rfl 2 (by decide) (hts _ wd_386) (fun _ h9 => h9) rfl hin rfl (by decide +kernel) rfl rfl (Nat.le_of_ble_eq_true rfl) dX7_init_9 (fun H locs hP hD hS => ?_)
  have hP : va_P D vwCl [(h0, .inr (7, [.null, .null, .ref q1, .int 0, .null, .int 0])), (q1, .inl (ar 0, 24, .inl (fun _ => 0)))] H := hP
  have hD : va_D A [(h0, .inr (7, [.null, .null, .ref q1, .int 0, .null, .int 0])), (q1, .inl (ar 0, 24, .inl (fun _ => 0)))] := hD
  refine lv_aload_n hx hb dX7_init_12 rfl (lv_at hl 0 rfl) ?_
  refine lv_iconst (v := (-1 : Int32)) hx hb dX7_init_13 (by decide) ?_
  refine va_put (D := D) (ci := 7) (v := .int (-1 : Int32)) (ty := .int) (C := RX7) (T := TX7) (N := 6) hx hb hts in_X7 tyX7 tyX7_ok nmX7 hown hK hP hD hS 0 rfl rfl 3 (by decide) (hts _ wd_387) (fun _ h9 => h9) rfl (by decide +kernel) rfl rfl (Nat.le_of_ble_eq_true rfl) dX7_init_14 (fun H locs hP hD hS => ?_)
  have hP : va_P D vwCl [(h0, .inr (7, [.null, .null, .ref q1, .int (-1 : Int32), .null, .int 0])), (q1, .inl (ar 0, 24, .inl (fun _ => 0)))] H := hP
  have hD : va_D A [(h0, .inr (7, [.null, .null, .ref q1, .int (-1 : Int32), .null, .int 0])), (q1, .inl (ar 0, 24, .inl (fun _ => 0)))] := hD
  refine lv_aload_n hx hb dX7_init_17 rfl (lv_at hl 0 rfl) ?_
  refine lv_bipush (v := (60 : Int32)) hx hb dX7_init_18 (by decide) ?_
  refine na_i (N' := 60) hx hb (hts _ wd_aci) hK hP hD hS hA (by decide) (by decide) (by decide) (Nat.le_of_ble_eq_true rfl) (Nat.le_of_ble_eq_true rfl) dX7_init_20 (fun q2 H hP hD hS => ?_)
  have hP : va_P D vwCl [(h0, .inr (7, [.null, .null, .ref q1, .int (-1 : Int32), .null, .int 0])), (q1, .inl (ar 0, 24, .inl (fun _ => 0))), (q2, .inl (ar 0, 60, .inl (fun _ => 0)))] H := hP
  have hD : va_D A [(h0, .inr (7, [.null, .null, .ref q1, .int (-1 : Int32), .null, .int 0])), (q1, .inl (ar 0, 24, .inl (fun _ => 0))), (q2, .inl (ar 0, 60, .inl (fun _ => 0)))] := hD
  refine va_putF (D := D) (ci := 7) (v := .ref q2) (ty := (.array .int)) (C := RX7) (T := TX7) (N := 6) hx hb hts in_X7 tyX7 tyX7_ok nmX7 hown hK hP hD hS 0 rfl rfl 4 (by decide) (hts _ wd_388) (fun _ h9 => h9) rfl hin rfl (by decide +kernel) rfl rfl (Nat.le_of_ble_eq_true rfl) dX7_init_22 (fun H locs hP hD hS => ?_)
  have hP : va_P D vwCl [(h0, .inr (7, [.null, .null, .ref q1, .int (-1 : Int32), .ref q2, .int 0])), (q1, .inl (ar 0, 24, .inl (fun _ => 0))), (q2, .inl (ar 0, 60, .inl (fun _ => 0)))] H := hP
  have hD : va_D A [(h0, .inr (7, [.null, .null, .ref q1, .int (-1 : Int32), .ref q2, .int 0])), (q1, .inl (ar 0, 24, .inl (fun _ => 0))), (q2, .inl (ar 0, 60, .inl (fun _ => 0)))] := hD
  refine lv_aload_n hx hb dX7_init_25 rfl (lv_at hl 0 rfl) ?_
  refine lv_iconst (v := (0 : Int32)) hx hb dX7_init_26 (by decide) ?_
  refine va_put (D := D) (ci := 7) (v := .int (0 : Int32)) (ty := .int) (C := RX7) (T := TX7) (N := 6) hx hb hts in_X7 tyX7 tyX7_ok nmX7 hown hK hP hD hS 0 rfl rfl 5 (by decide) (hts _ wd_390) (fun _ h9 => h9) rfl (by decide +kernel) rfl rfl (Nat.le_of_ble_eq_true rfl) dX7_init_27 (fun H locs hP hD hS => ?_)
  have hP : va_P D vwCl [(h0, .inr (7, [.null, .null, .ref q1, .int (-1 : Int32), .ref q2, .int (0 : Int32)])), (q1, .inl (ar 0, 24, .inl (fun _ => 0))), (q2, .inl (ar 0, 60, .inl (fun _ => 0)))] H := hP
  have hD : va_D A [(h0, .inr (7, [.null, .null, .ref q1, .int (-1 : Int32), .ref q2, .int (0 : Int32)])), (q1, .inl (ar 0, 24, .inl (fun _ => 0))), (q2, .inl (ar 0, 60, .inl (fun _ => 0)))] := hD
  refine lv_aload_n hx hb dX7_init_30 rfl (lv_at hl 0 rfl) ?_
  refine lv_aload_n hx hb dX7_init_31 rfl (lv_at hl 1 rfl) ?_
  refine va_putF (D := D) (ci := 7) (v := .ref h1) (ty := (.object "LoanPoints$Listing")) (C := RX7) (T := TX7) (N := 6) hx hb hts in_X7 tyX7 tyX7_ok nmX7 hown hK hP hD hS 0 rfl rfl 0 (by decide) (hts _ wd_384) (fun _ h9 => h9) rfl hin rfl (by decide +kernel) rfl rfl (Nat.le_of_ble_eq_true rfl) dX7_init_32 (fun H locs hP hD hS => ?_)
  have hP : va_P D vwCl [(h0, .inr (7, [.ref h1, .null, .ref q1, .int (-1 : Int32), .ref q2, .int (0 : Int32)])), (q1, .inl (ar 0, 24, .inl (fun _ => 0))), (q2, .inl (ar 0, 60, .inl (fun _ => 0)))] H := hP
  have hD : va_D A [(h0, .inr (7, [.ref h1, .null, .ref q1, .int (-1 : Int32), .ref q2, .int (0 : Int32)])), (q1, .inl (ar 0, 24, .inl (fun _ => 0))), (q2, .inl (ar 0, 60, .inl (fun _ => 0)))] := hD
  refine lv_aload_n hx hb dX7_init_35 rfl (lv_at hl 0 rfl) ?_
  refine lv_aload_n hx hb dX7_init_36 rfl (lv_at hl 2 rfl) ?_
  refine va_putF (D := D) (ci := 7) (v := .ref h2) (ty := (.object "LoanPoints$Check")) (C := RX7) (T := TX7) (N := 6) hx hb hts in_X7 tyX7 tyX7_ok nmX7 hown hK hP hD hS 0 rfl rfl 1 (by decide) (hts _ wd_385) (fun _ h9 => h9) rfl hin rfl (by decide +kernel) rfl rfl (Nat.le_of_ble_eq_true rfl) dX7_init_37 (fun H locs hP hD hS => ?_)
  have hP : va_P D vwCl [(h0, .inr (7, [.ref h1, .ref h2, .ref q1, .int (-1 : Int32), .ref q2, .int (0 : Int32)])), (q1, .inl (ar 0, 24, .inl (fun _ => 0))), (q2, .inl (ar 0, 60, .inl (fun _ => 0)))] H := hP
  have hD : va_D A [(h0, .inr (7, [.ref h1, .ref h2, .ref q1, .int (-1 : Int32), .ref q2, .int (0 : Int32)])), (q1, .inl (ar 0, 24, .inl (fun _ => 0))), (q2, .inl (ar 0, 60, .inl (fun _ => 0)))] := hD
  have hP9 := hP.sub (ws' := [(h0, .inr (7, [.ref h1, .ref h2, .ref q1, .int (-1 : Int32), .ref q2, .int (0 : Int32)])), (q1, .inl (ar 0, 24, .inl (fun _ => 0))), (q2, .inl (ar 0, 60, .inl (fun _ => 0)))]) [0, 1, 2] rfl
  have hD9 := hD.sub (ws' := [(h0, .inr (7, [.ref h1, .ref h2, .ref q1, .int (-1 : Int32), .ref q2, .int (0 : Int32)])), (q1, .inl (ar 0, 24, .inl (fun _ => 0))), (q2, .inl (ar 0, 60, .inl (fun _ => 0)))]) [0, 1, 2] (by decide) rfl
  refine W.widen (k := 2) (n := 84) (Nat.le_of_ble_eq_true rfl) (Nat.le_of_ble_eq_true rfl) ?_
  exact W.vret hx hb hr (fun t ht hW => ⟨⟨(fun k => ([q1, q2] : List Nat).getD k 0), rfl, trivial, by rw [ht]; exact hP9, hD9⟩, hS.F ht⟩) hS.2.2 dX7_init_40
theorem dX8_init_0 : decode cX8_init 0 = .ok (.aload_n 0, 1) := by decide +kernel
theorem dX8_init_1 : decode cX8_init 1 = .ok (.invokespecial 3, 3) := by decide +kernel
theorem dX8_init_4 : decode cX8_init 4 = .ok (.aload_n 0, 1) := by decide +kernel
theorem dX8_init_5 : decode cX8_init 5 = .ok (.sipush 300, 3) := by decide +kernel
theorem dX8_init_8 : decode cX8_init 8 = .ok (.newarray .int, 2) := by decide +kernel
theorem dX8_init_10 : decode cX8_init 10 = .ok (.putfield 9, 3) := by decide +kernel
theorem dX8_init_13 : decode cX8_init 13 = .ok (.aload_n 0, 1) := by decide +kernel
theorem dX8_init_14 : decode cX8_init 14 = .ok (.sipush 300, 3) := by decide +kernel
theorem dX8_init_17 : decode cX8_init 17 = .ok (.newarray .int, 2) := by decide +kernel
theorem dX8_init_19 : decode cX8_init 19 = .ok (.putfield 15, 3) := by decide +kernel
theorem dX8_init_22 : decode cX8_init 22 = .ok (.aload_n 0, 1) := by decide +kernel
theorem dX8_init_23 : decode cX8_init 23 = .ok (.sipush 300, 3) := by decide +kernel
theorem dX8_init_26 : decode cX8_init 26 = .ok (.newarray .int, 2) := by decide +kernel
theorem dX8_init_28 : decode cX8_init 28 = .ok (.putfield 18, 3) := by decide +kernel
theorem dX8_init_31 : decode cX8_init 31 = .ok (.aload_n 0, 1) := by decide +kernel
theorem dX8_init_32 : decode cX8_init 32 = .ok (.sipush 300, 3) := by decide +kernel
theorem dX8_init_35 : decode cX8_init 35 = .ok (.newarray .boolean, 2) := by decide +kernel
theorem dX8_init_37 : decode cX8_init 37 = .ok (.putfield 21, 3) := by decide +kernel
theorem dX8_init_40 : decode cX8_init 40 = .ok (.aload_n 0, 1) := by decide +kernel
theorem dX8_init_41 : decode cX8_init 41 = .ok (.sipush 300, 3) := by decide +kernel
theorem dX8_init_44 : decode cX8_init 44 = .ok (.newarray .boolean, 2) := by decide +kernel
theorem dX8_init_46 : decode cX8_init 46 = .ok (.putfield 25, 3) := by decide +kernel
theorem dX8_init_49 : decode cX8_init 49 = .ok (.aload_n 0, 1) := by decide +kernel
theorem dX8_init_50 : decode cX8_init 50 = .ok (.sipush 300, 3) := by decide +kernel
theorem dX8_init_53 : decode cX8_init 53 = .ok (.newarray .int, 2) := by decide +kernel
theorem dX8_init_55 : decode cX8_init 55 = .ok (.putfield 28, 3) := by decide +kernel
theorem dX8_init_58 : decode cX8_init 58 = .ok (.aload_n 0, 1) := by decide +kernel
theorem dX8_init_59 : decode cX8_init 59 = .ok (.iconst 0, 1) := by decide +kernel
theorem dX8_init_60 : decode cX8_init 60 = .ok (.putfield 31, 3) := by decide +kernel
theorem dX8_init_63 : decode cX8_init 63 = .ok (.aload_n 0, 1) := by decide +kernel
theorem dX8_init_64 : decode cX8_init 64 = .ok (.iconst 0, 1) := by decide +kernel
theorem dX8_init_65 : decode cX8_init 65 = .ok (.putfield 35, 3) := by decide +kernel
theorem dX8_init_68 : decode cX8_init 68 = .ok (.aload_n 0, 1) := by decide +kernel
theorem dX8_init_69 : decode cX8_init 69 = .ok (.bipush 8, 2) := by decide +kernel
theorem dX8_init_71 : decode cX8_init 71 = .ok (.newarray .int, 2) := by decide +kernel
theorem dX8_init_73 : decode cX8_init 73 = .ok (.putfield 38, 3) := by decide +kernel
theorem dX8_init_76 : decode cX8_init 76 = .ok (.aload_n 0, 1) := by decide +kernel
theorem dX8_init_77 : decode cX8_init 77 = .ok (.iconst 0, 1) := by decide +kernel
theorem dX8_init_78 : decode cX8_init 78 = .ok (.putfield 41, 3) := by decide +kernel
theorem dX8_init_81 : decode cX8_init 81 = .ok (.aload_n 0, 1) := by decide +kernel
theorem dX8_init_82 : decode cX8_init 82 = .ok (.iconst 0, 1) := by decide +kernel
theorem dX8_init_83 : decode cX8_init 83 = .ok (.putfield 45, 3) := by decide +kernel
theorem dX8_init_86 : decode cX8_init 86 = .ok (.aload_n 0, 1) := by decide +kernel
theorem dX8_init_87 : decode cX8_init 87 = .ok (.iconst 0, 1) := by decide +kernel
theorem dX8_init_88 : decode cX8_init 88 = .ok (.putfield 48, 3) := by decide +kernel
theorem dX8_init_91 : decode cX8_init 91 = .ok (.aload_n 0, 1) := by decide +kernel
theorem dX8_init_92 : decode cX8_init 92 = .ok (.iconst (-1), 1) := by decide +kernel
theorem dX8_init_93 : decode cX8_init 93 = .ok (.putfield 51, 3) := by decide +kernel
theorem dX8_init_96 : decode cX8_init 96 = .ok (.aload_n 0, 1) := by decide +kernel
theorem dX8_init_97 : decode cX8_init 97 = .ok (.iconst (-1), 1) := by decide +kernel
theorem dX8_init_98 : decode cX8_init 98 = .ok (.putfield 54, 3) := by decide +kernel
theorem dX8_init_101 : decode cX8_init 101 = .ok (.aload_n 0, 1) := by decide +kernel
theorem dX8_init_102 : decode cX8_init 102 = .ok (.iconst 0, 1) := by decide +kernel
theorem dX8_init_103 : decode cX8_init 103 = .ok (.putfield 57, 3) := by decide +kernel
theorem dX8_init_106 : decode cX8_init 106 = .ok (.aload_n 0, 1) := by decide +kernel
theorem dX8_init_107 : decode cX8_init 107 = .ok (.aload_n 1, 1) := by decide +kernel
theorem dX8_init_108 : decode cX8_init 108 = .ok (.putfield 60, 3) := by decide +kernel
theorem dX8_init_111 : decode cX8_init 111 = .ok (.return_, 1) := by decide +kernel
abbrev wi_X8 (ar : Nat → ClassId) (h0 : Nat) (h1 : Nat) (q : Nat → Nat) : va_W := [(h0, .inr (8, [.ref h1, .ref (q 0), .ref (q 1), .ref (q 2), .ref (q 3), .ref (q 4), .ref (q 5), .int (0 : Int32), .int (0 : Int32), .ref (q 6), .int (0 : Int32), .int (0 : Int32), .int (0 : Int32), .int (-1 : Int32), .int (-1 : Int32), .int (0 : Int32)])), ((q 0), .inl (ar 0, 300, .inl (fun _ => 0))), ((q 1), .inl (ar 0, 300, .inl (fun _ => 0))), ((q 2), .inl (ar 0, 300, .inl (fun _ => 0))), ((q 3), .inl (ar 1, 300, .inl (fun _ => 0))), ((q 4), .inl (ar 1, 300, .inl (fun _ => 0))), ((q 5), .inl (ar 0, 300, .inl (fun _ => 0))), ((q 6), .inl (ar 0, 8, .inl (fun _ => 0)))]
set_option maxRecDepth 100000 in
set_option maxHeartbeats 8000000 in
theorem ci_X8 (l : Launch) (D : va_G) (ar : Nat → ClassId) (h0 : Nat) (h1 : Nat) (sz : Nat) : Met l yX8_init (.code yX8_init cX8_init 2 none :: tb) ({ frames := 1, cells := 7, slots := 1808, locals := 20 } : Room) (va_Pc [.ref h0, .ref h1] (fun U => U.heap.size = sz ∧ va_P D vwCl [(h0, .inr (8, [.null, .null, .null, .null, .null, .null, .null, .int 0, .int 0, .null, .int 0, .int 0, .int 0, .int 0, .int 0, .int 0]))] U.heap ∧ va_K D vwCl (sh_t ar) U ∧ va_D (fun _ => True) [(h0, .inr (8, [.null, .null, .null, .null, .null, .null, .null, .int 0, .int 0, .null, .int 0, .int 0, .int 0, .int 0, .int 0, .int 0]))] ∧ nsOk U ∧ va_AO RX6 U)) (va_Qv (fun _ : Nat → Nat => True) (fun q t => va_P D vwCl (wi_X8 ar h0 h1 q) t.heap ∧ va_D (va_A [(h0, .inr (8, [.null, .null, .null, .null, .null, .null, .null, .int 0, .int 0, .null, .int 0, .int 0, .int 0, .int 0, .int 0, .int 0]))] sz) (wi_X8 ar h0 h1 q)) (va_A [(h0, .inr (8, [.null, .null, .null, .null, .null, .null, .null, .int 0, .int 0, .null, .int 0, .int 0, .int 0, .int 0, .int 0, .int 0]))] sz)) 7 1808 (va_A [(h0, .inr (8, [.null, .null, .null, .null, .null, .null, .null, .int 0, .int 0, .null, .int 0, .int 0, .int 0, .int 0, .int 0, .int 0]))] sz) := by
  refine Met.ofW (cc := cX8_init) (maxL := 2) (ret := none) (by decide) rfl ?_
  intro p e s m args below meth c s₁ B hml hv
  obtain ⟨rfl, hsz, hP, hK, hD0, hN, hAO⟩ := hv
  have hx := B.exec
  have hb := B.bytes
  have hr := B.returns
  have hts : ∀ w ∈ tb, w.before _ s = true := fun w hw => atoms_spec (ws := .code yX8_init cX8_init 2 none :: tb) B.pre w (List.mem_cons_of_mem _ hw)
  have hown : s.vm.findClass RX8 = some m.cls := findClass_of_methodNamed B.named
  have hlocks := B.notSynchronized
  have hin : meth.name = "<init>" := (name_of_methodNamed B.named B.method).1
  subst hsz
  have hD := hD0.self (sz := s.heap.size)
  generalize hAe : va_A [(h0, .inr (8, [.null, .null, .null, .null, .null, .null, .null, .int 0, .int 0, .null, .int 0, .int 0, .int 0, .int 0, .int 0, .int 0]))] s.heap.size = A at hD ⊢
  have hA : ∀ q : Nat, s.heap.size ≤ q → A q := fun q h => by rw [← hAe]; exact Or.inr h
  have hS : va_S A s.heap s.heap [] := va_S.rf
  have hl := lv_entry ([.ref h0, .ref h1]) (n := 2) (Nat.le_of_ble_eq_true rfl)
  rw [lg_entry_eq]
  generalize (lg_sl ([.ref h0, .ref h1]) ++ List.replicate (2 - (lg_sl ([.ref h0, .ref h1])).length) Slot.unset).toArray = ls at hl ⊢
  have hl : lv_has ls 2 [(0, .ref h0), (1, .ref h1)] := hl
  refine lv_aload_n hx hb dX8_init_0 rfl (lv_at hl 0 rfl) ?_
  refine W.objInit hx hb hown (hts _ wd_410) (hts _ wd_108) (hts _ wd_109) rfl (by rw [hml]; exact hl.1) rfl dX8_init_1 (Nat.le_of_ble_eq_true rfl) (Nat.le_of_ble_eq_true rfl) ?_
  refine W.eq (g2 := F0 m 4 ls []) rfl ?_
  refine lv_aload_n hx hb dX8_init_4 rfl (lv_at hl 0 rfl) ?_
  refine lv_sipush (v := (300 : Int32)) hx hb dX8_init_5 (by decide) ?_
  refine na_i (N' := 300) hx hb (hts _ wd_aci) hK hP hD hS hA (by decide) (by decide) (by decide) (Nat.le_of_ble_eq_true rfl) (Nat.le_of_ble_eq_true rfl) dX8_init_8 (fun q1 H hP hD hS => ?_)
  have hP : va_P D vwCl [(h0, .inr (8, [.null, .null, .null, .null, .null, .null, .null, .int 0, .int 0, .null, .int 0, .int 0, .int 0, .int 0, .int 0, .int 0])), (q1, .inl (ar 0, 300, .inl (fun _ => 0)))] H := hP
  have hD : va_D A [(h0, .inr (8, [.null, .null, .null, .null, .null, .null, .null, .int 0, .int 0, .null, .int 0, .int 0, .int 0, .int 0, .int 0, .int 0])), (q1, .inl (ar 0, 300, .inl (fun _ => 0)))] := hD
  refine va_putF (D := D) (ci := 8) (v := .ref q1) (ty := (.array .int)) (C := RX8) (T := TX8) (N := 16) hx hb hts in_X8 tyX8 tyX8_ok nmX8 hown hK hP hD hS 0 rfl rfl 1 (by decide) (hts _ wd_412) (fun _ h9 => h9) rfl hin rfl (by decide +kernel) rfl rfl (Nat.le_of_ble_eq_true rfl) dX8_init_10 (fun H locs hP hD hS => ?_)
  have hP : va_P D vwCl [(h0, .inr (8, [.null, .ref q1, .null, .null, .null, .null, .null, .int 0, .int 0, .null, .int 0, .int 0, .int 0, .int 0, .int 0, .int 0])), (q1, .inl (ar 0, 300, .inl (fun _ => 0)))] H := hP
  have hD : va_D A [(h0, .inr (8, [.null, .ref q1, .null, .null, .null, .null, .null, .int 0, .int 0, .null, .int 0, .int 0, .int 0, .int 0, .int 0, .int 0])), (q1, .inl (ar 0, 300, .inl (fun _ => 0)))] := hD
  refine lv_aload_n hx hb dX8_init_13 rfl (lv_at hl 0 rfl) ?_
  refine lv_sipush (v := (300 : Int32)) hx hb dX8_init_14 (by decide) ?_
  refine na_i (N' := 300) hx hb (hts _ wd_aci) hK hP hD hS hA (by decide) (by decide) (by decide) (Nat.le_of_ble_eq_true rfl) (Nat.le_of_ble_eq_true rfl) dX8_init_17 (fun q2 H hP hD hS => ?_)
  have hP : va_P D vwCl [(h0, .inr (8, [.null, .ref q1, .null, .null, .null, .null, .null, .int 0, .int 0, .null, .int 0, .int 0, .int 0, .int 0, .int 0, .int 0])), (q1, .inl (ar 0, 300, .inl (fun _ => 0))), (q2, .inl (ar 0, 300, .inl (fun _ => 0)))] H := hP
  have hD : va_D A [(h0, .inr (8, [.null, .ref q1, .null, .null, .null, .null, .null, .int 0, .int 0, .null, .int 0, .int 0, .int 0, .int 0, .int 0, .int 0])), (q1, .inl (ar 0, 300, .inl (fun _ => 0))), (q2, .inl (ar 0, 300, .inl (fun _ => 0)))] := hD
  refine va_putF (D := D) (ci := 8) (v := .ref q2) (ty := (.array .int)) (C := RX8) (T := TX8) (N := 16) hx hb hts in_X8 tyX8 tyX8_ok nmX8 hown hK hP hD hS 0 rfl rfl 2 (by decide) (hts _ wd_413) (fun _ h9 => h9) rfl hin rfl (by decide +kernel) rfl rfl (Nat.le_of_ble_eq_true rfl) dX8_init_19 (fun H locs hP hD hS => ?_)
  have hP : va_P D vwCl [(h0, .inr (8, [.null, .ref q1, .ref q2, .null, .null, .null, .null, .int 0, .int 0, .null, .int 0, .int 0, .int 0, .int 0, .int 0, .int 0])), (q1, .inl (ar 0, 300, .inl (fun _ => 0))), (q2, .inl (ar 0, 300, .inl (fun _ => 0)))] H := hP
  have hD : va_D A [(h0, .inr (8, [.null, .ref q1, .ref q2, .null, .null, .null, .null, .int 0, .int 0, .null, .int 0, .int 0, .int 0, .int 0, .int 0, .int 0])), (q1, .inl (ar 0, 300, .inl (fun _ => 0))), (q2, .inl (ar 0, 300, .inl (fun _ => 0)))] := hD
  refine lv_aload_n hx hb dX8_init_22 rfl (lv_at hl 0 rfl) ?_
  refine lv_sipush (v := (300 : Int32)) hx hb dX8_init_23 (by decide) ?_
  refine na_i (N' := 300) hx hb (hts _ wd_aci) hK hP hD hS hA (by decide) (by decide) (by decide) (Nat.le_of_ble_eq_true rfl) (Nat.le_of_ble_eq_true rfl) dX8_init_26 (fun q3 H hP hD hS => ?_)
  have hP : va_P D vwCl [(h0, .inr (8, [.null, .ref q1, .ref q2, .null, .null, .null, .null, .int 0, .int 0, .null, .int 0, .int 0, .int 0, .int 0, .int 0, .int 0])), (q1, .inl (ar 0, 300, .inl (fun _ => 0))), (q2, .inl (ar 0, 300, .inl (fun _ => 0))), (q3, .inl (ar 0, 300, .inl (fun _ => 0)))] H := hP
  have hD : va_D A [(h0, .inr (8, [.null, .ref q1, .ref q2, .null, .null, .null, .null, .int 0, .int 0, .null, .int 0, .int 0, .int 0, .int 0, .int 0, .int 0])), (q1, .inl (ar 0, 300, .inl (fun _ => 0))), (q2, .inl (ar 0, 300, .inl (fun _ => 0))), (q3, .inl (ar 0, 300, .inl (fun _ => 0)))] := hD
  refine va_putF (D := D) (ci := 8) (v := .ref q3) (ty := (.array .int)) (C := RX8) (T := TX8) (N := 16) hx hb hts in_X8 tyX8 tyX8_ok nmX8 hown hK hP hD hS 0 rfl rfl 3 (by decide) (hts _ wd_414) (fun _ h9 => h9) rfl hin rfl (by decide +kernel) rfl rfl (Nat.le_of_ble_eq_true rfl) dX8_init_28 (fun H locs hP hD hS => ?_)
  have hP : va_P D vwCl [(h0, .inr (8, [.null, .ref q1, .ref q2, .ref q3, .null, .null, .null, .int 0, .int 0, .null, .int 0, .int 0, .int 0, .int 0, .int 0, .int 0])), (q1, .inl (ar 0, 300, .inl (fun _ => 0))), (q2, .inl (ar 0, 300, .inl (fun _ => 0))), (q3, .inl (ar 0, 300, .inl (fun _ => 0)))] H := hP
  have hD : va_D A [(h0, .inr (8, [.null, .ref q1, .ref q2, .ref q3, .null, .null, .null, .int 0, .int 0, .null, .int 0, .int 0, .int 0, .int 0, .int 0, .int 0])), (q1, .inl (ar 0, 300, .inl (fun _ => 0))), (q2, .inl (ar 0, 300, .inl (fun _ => 0))), (q3, .inl (ar 0, 300, .inl (fun _ => 0)))] := hD
  refine lv_aload_n hx hb dX8_init_31 rfl (lv_at hl 0 rfl) ?_
  refine lv_sipush (v := (300 : Int32)) hx hb dX8_init_32 (by decide) ?_
  refine na_z (N' := 300) hx hb (hts _ wd_acz) hK hP hD hS hA (by decide) (by decide) (by decide) (Nat.le_of_ble_eq_true rfl) (Nat.le_of_ble_eq_true rfl) dX8_init_35 (fun q4 H hP hD hS => ?_)
  have hP : va_P D vwCl [(h0, .inr (8, [.null, .ref q1, .ref q2, .ref q3, .null, .null, .null, .int 0, .int 0, .null, .int 0, .int 0, .int 0, .int 0, .int 0, .int 0])), (q1, .inl (ar 0, 300, .inl (fun _ => 0))), (q2, .inl (ar 0, 300, .inl (fun _ => 0))), (q3, .inl (ar 0, 300, .inl (fun _ => 0))), (q4, .inl (ar 1, 300, .inl (fun _ => 0)))] H := hP
  have hD : va_D A [(h0, .inr (8, [.null, .ref q1, .ref q2, .ref q3, .null, .null, .null, .int 0, .int 0, .null, .int 0, .int 0, .int 0, .int 0, .int 0, .int 0])), (q1, .inl (ar 0, 300, .inl (fun _ => 0))), (q2, .inl (ar 0, 300, .inl (fun _ => 0))), (q3, .inl (ar 0, 300, .inl (fun _ => 0))), (q4, .inl (ar 1, 300, .inl (fun _ => 0)))] := hD
  refine va_putF (D := D) (ci := 8) (v := .ref q4) (ty := (.array .boolean)) (C := RX8) (T := TX8) (N := 16) hx hb hts in_X8 tyX8 tyX8_ok nmX8 hown hK hP hD hS 0 rfl rfl 4 (by decide) (hts _ wd_415) (fun _ h9 => h9) rfl hin rfl (by decide +kernel) rfl rfl (Nat.le_of_ble_eq_true rfl) dX8_init_37 (fun H locs hP hD hS => ?_)
  have hP : va_P D vwCl [(h0, .inr (8, [.null, .ref q1, .ref q2, .ref q3, .ref q4, .null, .null, .int 0, .int 0, .null, .int 0, .int 0, .int 0, .int 0, .int 0, .int 0])), (q1, .inl (ar 0, 300, .inl (fun _ => 0))), (q2, .inl (ar 0, 300, .inl (fun _ => 0))), (q3, .inl (ar 0, 300, .inl (fun _ => 0))), (q4, .inl (ar 1, 300, .inl (fun _ => 0)))] H := hP
  have hD : va_D A [(h0, .inr (8, [.null, .ref q1, .ref q2, .ref q3, .ref q4, .null, .null, .int 0, .int 0, .null, .int 0, .int 0, .int 0, .int 0, .int 0, .int 0])), (q1, .inl (ar 0, 300, .inl (fun _ => 0))), (q2, .inl (ar 0, 300, .inl (fun _ => 0))), (q3, .inl (ar 0, 300, .inl (fun _ => 0))), (q4, .inl (ar 1, 300, .inl (fun _ => 0)))] := hD
  refine lv_aload_n hx hb dX8_init_40 rfl (lv_at hl 0 rfl) ?_
  refine lv_sipush (v := (300 : Int32)) hx hb dX8_init_41 (by decide) ?_
  refine na_z (N' := 300) hx hb (hts _ wd_acz) hK hP hD hS hA (by decide) (by decide) (by decide) (Nat.le_of_ble_eq_true rfl) (Nat.le_of_ble_eq_true rfl) dX8_init_44 (fun q5 H hP hD hS => ?_)
  have hP : va_P D vwCl [(h0, .inr (8, [.null, .ref q1, .ref q2, .ref q3, .ref q4, .null, .null, .int 0, .int 0, .null, .int 0, .int 0, .int 0, .int 0, .int 0, .int 0])), (q1, .inl (ar 0, 300, .inl (fun _ => 0))), (q2, .inl (ar 0, 300, .inl (fun _ => 0))), (q3, .inl (ar 0, 300, .inl (fun _ => 0))), (q4, .inl (ar 1, 300, .inl (fun _ => 0))), (q5, .inl (ar 1, 300, .inl (fun _ => 0)))] H := hP
  have hD : va_D A [(h0, .inr (8, [.null, .ref q1, .ref q2, .ref q3, .ref q4, .null, .null, .int 0, .int 0, .null, .int 0, .int 0, .int 0, .int 0, .int 0, .int 0])), (q1, .inl (ar 0, 300, .inl (fun _ => 0))), (q2, .inl (ar 0, 300, .inl (fun _ => 0))), (q3, .inl (ar 0, 300, .inl (fun _ => 0))), (q4, .inl (ar 1, 300, .inl (fun _ => 0))), (q5, .inl (ar 1, 300, .inl (fun _ => 0)))] := hD
  refine va_putF (D := D) (ci := 8) (v := .ref q5) (ty := (.array .boolean)) (C := RX8) (T := TX8) (N := 16) hx hb hts in_X8 tyX8 tyX8_ok nmX8 hown hK hP hD hS 0 rfl rfl 5 (by decide) (hts _ wd_416) (fun _ h9 => h9) rfl hin rfl (by decide +kernel) rfl rfl (Nat.le_of_ble_eq_true rfl) dX8_init_46 (fun H locs hP hD hS => ?_)
  have hP : va_P D vwCl [(h0, .inr (8, [.null, .ref q1, .ref q2, .ref q3, .ref q4, .ref q5, .null, .int 0, .int 0, .null, .int 0, .int 0, .int 0, .int 0, .int 0, .int 0])), (q1, .inl (ar 0, 300, .inl (fun _ => 0))), (q2, .inl (ar 0, 300, .inl (fun _ => 0))), (q3, .inl (ar 0, 300, .inl (fun _ => 0))), (q4, .inl (ar 1, 300, .inl (fun _ => 0))), (q5, .inl (ar 1, 300, .inl (fun _ => 0)))] H := hP
  have hD : va_D A [(h0, .inr (8, [.null, .ref q1, .ref q2, .ref q3, .ref q4, .ref q5, .null, .int 0, .int 0, .null, .int 0, .int 0, .int 0, .int 0, .int 0, .int 0])), (q1, .inl (ar 0, 300, .inl (fun _ => 0))), (q2, .inl (ar 0, 300, .inl (fun _ => 0))), (q3, .inl (ar 0, 300, .inl (fun _ => 0))), (q4, .inl (ar 1, 300, .inl (fun _ => 0))), (q5, .inl (ar 1, 300, .inl (fun _ => 0)))] := hD
  refine lv_aload_n hx hb dX8_init_49 rfl (lv_at hl 0 rfl) ?_
  refine lv_sipush (v := (300 : Int32)) hx hb dX8_init_50 (by decide) ?_
  refine na_i (N' := 300) hx hb (hts _ wd_aci) hK hP hD hS hA (by decide) (by decide) (by decide) (Nat.le_of_ble_eq_true rfl) (Nat.le_of_ble_eq_true rfl) dX8_init_53 (fun q6 H hP hD hS => ?_)
  have hP : va_P D vwCl [(h0, .inr (8, [.null, .ref q1, .ref q2, .ref q3, .ref q4, .ref q5, .null, .int 0, .int 0, .null, .int 0, .int 0, .int 0, .int 0, .int 0, .int 0])), (q1, .inl (ar 0, 300, .inl (fun _ => 0))), (q2, .inl (ar 0, 300, .inl (fun _ => 0))), (q3, .inl (ar 0, 300, .inl (fun _ => 0))), (q4, .inl (ar 1, 300, .inl (fun _ => 0))), (q5, .inl (ar 1, 300, .inl (fun _ => 0))), (q6, .inl (ar 0, 300, .inl (fun _ => 0)))] H := hP
  have hD : va_D A [(h0, .inr (8, [.null, .ref q1, .ref q2, .ref q3, .ref q4, .ref q5, .null, .int 0, .int 0, .null, .int 0, .int 0, .int 0, .int 0, .int 0, .int 0])), (q1, .inl (ar 0, 300, .inl (fun _ => 0))), (q2, .inl (ar 0, 300, .inl (fun _ => 0))), (q3, .inl (ar 0, 300, .inl (fun _ => 0))), (q4, .inl (ar 1, 300, .inl (fun _ => 0))), (q5, .inl (ar 1, 300, .inl (fun _ => 0))), (q6, .inl (ar 0, 300, .inl (fun _ => 0)))] := hD
  refine va_putF (D := D) (ci := 8) (v := .ref q6) (ty := (.array .int)) (C := RX8) (T := TX8) (N := 16) hx hb hts in_X8 tyX8 tyX8_ok nmX8 hown hK hP hD hS 0 rfl rfl 6 (by decide) (hts _ wd_417) (fun _ h9 => h9) rfl hin rfl (by decide +kernel) rfl rfl (Nat.le_of_ble_eq_true rfl) dX8_init_55 (fun H locs hP hD hS => ?_)
  have hP : va_P D vwCl [(h0, .inr (8, [.null, .ref q1, .ref q2, .ref q3, .ref q4, .ref q5, .ref q6, .int 0, .int 0, .null, .int 0, .int 0, .int 0, .int 0, .int 0, .int 0])), (q1, .inl (ar 0, 300, .inl (fun _ => 0))), (q2, .inl (ar 0, 300, .inl (fun _ => 0))), (q3, .inl (ar 0, 300, .inl (fun _ => 0))), (q4, .inl (ar 1, 300, .inl (fun _ => 0))), (q5, .inl (ar 1, 300, .inl (fun _ => 0))), (q6, .inl (ar 0, 300, .inl (fun _ => 0)))] H := hP
  have hD : va_D A [(h0, .inr (8, [.null, .ref q1, .ref q2, .ref q3, .ref q4, .ref q5, .ref q6, .int 0, .int 0, .null, .int 0, .int 0, .int 0, .int 0, .int 0, .int 0])), (q1, .inl (ar 0, 300, .inl (fun _ => 0))), (q2, .inl (ar 0, 300, .inl (fun _ => 0))), (q3, .inl (ar 0, 300, .inl (fun _ => 0))), (q4, .inl (ar 1, 300, .inl (fun _ => 0))), (q5, .inl (ar 1, 300, .inl (fun _ => 0))), (q6, .inl (ar 0, 300, .inl (fun _ => 0)))] := hD
  refine lv_aload_n hx hb dX8_init_58 rfl (lv_at hl 0 rfl) ?_
  refine lv_iconst (v := (0 : Int32)) hx hb dX8_init_59 (by decide) ?_
  refine va_put (D := D) (ci := 8) (v := .int (0 : Int32)) (ty := .int) (C := RX8) (T := TX8) (N := 16) hx hb hts in_X8 tyX8 tyX8_ok nmX8 hown hK hP hD hS 0 rfl rfl 7 (by decide) (hts _ wd_418) (fun _ h9 => h9) rfl (by decide +kernel) rfl rfl (Nat.le_of_ble_eq_true rfl) dX8_init_60 (fun H locs hP hD hS => ?_)
  have hP : va_P D vwCl [(h0, .inr (8, [.null, .ref q1, .ref q2, .ref q3, .ref q4, .ref q5, .ref q6, .int (0 : Int32), .int 0, .null, .int 0, .int 0, .int 0, .int 0, .int 0, .int 0])), (q1, .inl (ar 0, 300, .inl (fun _ => 0))), (q2, .inl (ar 0, 300, .inl (fun _ => 0))), (q3, .inl (ar 0, 300, .inl (fun _ => 0))), (q4, .inl (ar 1, 300, .inl (fun _ => 0))), (q5, .inl (ar 1, 300, .inl (fun _ => 0))), (q6, .inl (ar 0, 300, .inl (fun _ => 0)))] H := hP
  have hD : va_D A [(h0, .inr (8, [.null, .ref q1, .ref q2, .ref q3, .ref q4, .ref q5, .ref q6, .int (0 : Int32), .int 0, .null, .int 0, .int 0, .int 0, .int 0, .int 0, .int 0])), (q1, .inl (ar 0, 300, .inl (fun _ => 0))), (q2, .inl (ar 0, 300, .inl (fun _ => 0))), (q3, .inl (ar 0, 300, .inl (fun _ => 0))), (q4, .inl (ar 1, 300, .inl (fun _ => 0))), (q5, .inl (ar 1, 300, .inl (fun _ => 0))), (q6, .inl (ar 0, 300, .inl (fun _ => 0)))] := hD
  refine lv_aload_n hx hb dX8_init_63 rfl (lv_at hl 0 rfl) ?_
  refine lv_iconst (v := (0 : Int32)) hx hb dX8_init_64 (by decide) ?_
  refine va_put (D := D) (ci := 8) (v := .int (0 : Int32)) (ty := .int) (C := RX8) (T := TX8) (N := 16) hx hb hts in_X8 tyX8 tyX8_ok nmX8 hown hK hP hD hS 0 rfl rfl 8 (by decide) (hts _ wd_419) (fun _ h9 => h9) rfl (by decide +kernel) rfl rfl (Nat.le_of_ble_eq_true rfl) dX8_init_65 (fun H locs hP hD hS => ?_)
  have hP : va_P D vwCl [(h0, .inr (8, [.null, .ref q1, .ref q2, .ref q3, .ref q4, .ref q5, .ref q6, .int (0 : Int32), .int (0 : Int32), .null, .int 0, .int 0, .int 0, .int 0, .int 0, .int 0])), (q1, .inl (ar 0, 300, .inl (fun _ => 0))), (q2, .inl (ar 0, 300, .inl (fun _ => 0))), (q3, .inl (ar 0, 300, .inl (fun _ => 0))), (q4, .inl (ar 1, 300, .inl (fun _ => 0))), (q5, .inl (ar 1, 300, .inl (fun _ => 0))), (q6, .inl (ar 0, 300, .inl (fun _ => 0)))] H := hP
  have hD : va_D A [(h0, .inr (8, [.null, .ref q1, .ref q2, .ref q3, .ref q4, .ref q5, .ref q6, .int (0 : Int32), .int (0 : Int32), .null, .int 0, .int 0, .int 0, .int 0, .int 0, .int 0])), (q1, .inl (ar 0, 300, .inl (fun _ => 0))), (q2, .inl (ar 0, 300, .inl (fun _ => 0))), (q3, .inl (ar 0, 300, .inl (fun _ => 0))), (q4, .inl (ar 1, 300, .inl (fun _ => 0))), (q5, .inl (ar 1, 300, .inl (fun _ => 0))), (q6, .inl (ar 0, 300, .inl (fun _ => 0)))] := hD
  refine lv_aload_n hx hb dX8_init_68 rfl (lv_at hl 0 rfl) ?_
  refine lv_bipush (v := (8 : Int32)) hx hb dX8_init_69 (by decide) ?_
  refine na_i (N' := 8) hx hb (hts _ wd_aci) hK hP hD hS hA (by decide) (by decide) (by decide) (Nat.le_of_ble_eq_true rfl) (Nat.le_of_ble_eq_true rfl) dX8_init_71 (fun q7 H hP hD hS => ?_)
  have hP : va_P D vwCl [(h0, .inr (8, [.null, .ref q1, .ref q2, .ref q3, .ref q4, .ref q5, .ref q6, .int (0 : Int32), .int (0 : Int32), .null, .int 0, .int 0, .int 0, .int 0, .int 0, .int 0])), (q1, .inl (ar 0, 300, .inl (fun _ => 0))), (q2, .inl (ar 0, 300, .inl (fun _ => 0))), (q3, .inl (ar 0, 300, .inl (fun _ => 0))), (q4, .inl (ar 1, 300, .inl (fun _ => 0))), (q5, .inl (ar 1, 300, .inl (fun _ => 0))), (q6, .inl (ar 0, 300, .inl (fun _ => 0))), (q7, .inl (ar 0, 8, .inl (fun _ => 0)))] H := hP
  have hD : va_D A [(h0, .inr (8, [.null, .ref q1, .ref q2, .ref q3, .ref q4, .ref q5, .ref q6, .int (0 : Int32), .int (0 : Int32), .null, .int 0, .int 0, .int 0, .int 0, .int 0, .int 0])), (q1, .inl (ar 0, 300, .inl (fun _ => 0))), (q2, .inl (ar 0, 300, .inl (fun _ => 0))), (q3, .inl (ar 0, 300, .inl (fun _ => 0))), (q4, .inl (ar 1, 300, .inl (fun _ => 0))), (q5, .inl (ar 1, 300, .inl (fun _ => 0))), (q6, .inl (ar 0, 300, .inl (fun _ => 0))), (q7, .inl (ar 0, 8, .inl (fun _ => 0)))] := hD
  refine va_putF (D := D) (ci := 8) (v := .ref q7) (ty := (.array .int)) (C := RX8) (T := TX8) (N := 16) hx hb hts in_X8 tyX8 tyX8_ok nmX8 hown hK hP hD hS 0 rfl rfl 9 (by decide) (hts _ wd_420) (fun _ h9 => h9) rfl hin rfl (by decide +kernel) rfl rfl (Nat.le_of_ble_eq_true rfl) dX8_init_73 (fun H locs hP hD hS => ?_)
  have hP : va_P D vwCl [(h0, .inr (8, [.null, .ref q1, .ref q2, .ref q3, .ref q4, .ref q5, .ref q6, .int (0 : Int32), .int (0 : Int32), .ref q7, .int 0, .int 0, .int 0, .int 0, .int 0, .int 0])), (q1, .inl (ar 0, 300, .inl (fun _ => 0))), (q2, .inl (ar 0, 300, .inl (fun _ => 0))), (q3, .inl (ar 0, 300, .inl (fun _ => 0))), (q4, .inl (ar 1, 300, .inl (fun _ => 0))), (q5, .inl (ar 1, 300, .inl (fun _ => 0))), (q6, .inl (ar 0, 300, .inl (fun _ => 0))), (q7, .inl (ar 0, 8, .inl (fun _ => 0)))] H := hP
  have hD : va_D A [(h0, .inr (8, [.null, .ref q1, .ref q2, .ref q3, .ref q4, .ref q5, .ref q6, .int (0 : Int32), .int (0 : Int32), .ref q7, .int 0, .int 0, .int 0, .int 0, .int 0, .int 0])), (q1, .inl (ar 0, 300, .inl (fun _ => 0))), (q2, .inl (ar 0, 300, .inl (fun _ => 0))), (q3, .inl (ar 0, 300, .inl (fun _ => 0))), (q4, .inl (ar 1, 300, .inl (fun _ => 0))), (q5, .inl (ar 1, 300, .inl (fun _ => 0))), (q6, .inl (ar 0, 300, .inl (fun _ => 0))), (q7, .inl (ar 0, 8, .inl (fun _ => 0)))] := hD
  refine lv_aload_n hx hb dX8_init_76 rfl (lv_at hl 0 rfl) ?_
  refine lv_iconst (v := (0 : Int32)) hx hb dX8_init_77 (by decide) ?_
  refine va_put (D := D) (ci := 8) (v := .int (0 : Int32)) (ty := .boolean) (C := RX8) (T := TX8) (N := 16) hx hb hts in_X8 tyX8 tyX8_ok nmX8 hown hK hP hD hS 0 rfl rfl 10 (by decide) (hts _ wd_421) (fun _ h9 => h9) rfl (by decide +kernel) rfl rfl (Nat.le_of_ble_eq_true rfl) dX8_init_78 (fun H locs hP hD hS => ?_)
  have hP : va_P D vwCl [(h0, .inr (8, [.null, .ref q1, .ref q2, .ref q3, .ref q4, .ref q5, .ref q6, .int (0 : Int32), .int (0 : Int32), .ref q7, .int (0 : Int32), .int 0, .int 0, .int 0, .int 0, .int 0])), (q1, .inl (ar 0, 300, .inl (fun _ => 0))), (q2, .inl (ar 0, 300, .inl (fun _ => 0))), (q3, .inl (ar 0, 300, .inl (fun _ => 0))), (q4, .inl (ar 1, 300, .inl (fun _ => 0))), (q5, .inl (ar 1, 300, .inl (fun _ => 0))), (q6, .inl (ar 0, 300, .inl (fun _ => 0))), (q7, .inl (ar 0, 8, .inl (fun _ => 0)))] H := hP
  have hD : va_D A [(h0, .inr (8, [.null, .ref q1, .ref q2, .ref q3, .ref q4, .ref q5, .ref q6, .int (0 : Int32), .int (0 : Int32), .ref q7, .int (0 : Int32), .int 0, .int 0, .int 0, .int 0, .int 0])), (q1, .inl (ar 0, 300, .inl (fun _ => 0))), (q2, .inl (ar 0, 300, .inl (fun _ => 0))), (q3, .inl (ar 0, 300, .inl (fun _ => 0))), (q4, .inl (ar 1, 300, .inl (fun _ => 0))), (q5, .inl (ar 1, 300, .inl (fun _ => 0))), (q6, .inl (ar 0, 300, .inl (fun _ => 0))), (q7, .inl (ar 0, 8, .inl (fun _ => 0)))] := hD
  refine lv_aload_n hx hb dX8_init_81 rfl (lv_at hl 0 rfl) ?_
  refine lv_iconst (v := (0 : Int32)) hx hb dX8_init_82 (by decide) ?_
  refine va_put (D := D) (ci := 8) (v := .int (0 : Int32)) (ty := .int) (C := RX8) (T := TX8) (N := 16) hx hb hts in_X8 tyX8 tyX8_ok nmX8 hown hK hP hD hS 0 rfl rfl 11 (by decide) (hts _ wd_422) (fun _ h9 => h9) rfl (by decide +kernel) rfl rfl (Nat.le_of_ble_eq_true rfl) dX8_init_83 (fun H locs hP hD hS => ?_)
  have hP : va_P D vwCl [(h0, .inr (8, [.null, .ref q1, .ref q2, .ref q3, .ref q4, .ref q5, .ref q6, .int (0 : Int32), .int (0 : Int32), .ref q7, .int (0 : Int32), .int (0 : Int32), .int 0, .int 0, .int 0, .int 0])), (q1, .inl (ar 0, 300, .inl (fun _ => 0))), (q2, .inl (ar 0, 300, .inl (fun _ => 0))), (q3, .inl (ar 0, 300, .inl (fun _ => 0))), (q4, .inl (ar 1, 300, .inl (fun _ => 0))), (q5, .inl (ar 1, 300, .inl (fun _ => 0))), (q6, .inl (ar 0, 300, .inl (fun _ => 0))), (q7, .inl (ar 0, 8, .inl (fun _ => 0)))] H := hP
  have hD : va_D A [(h0, .inr (8, [.null, .ref q1, .ref q2, .ref q3, .ref q4, .ref q5, .ref q6, .int (0 : Int32), .int (0 : Int32), .ref q7, .int (0 : Int32), .int (0 : Int32), .int 0, .int 0, .int 0, .int 0])), (q1, .inl (ar 0, 300, .inl (fun _ => 0))), (q2, .inl (ar 0, 300, .inl (fun _ => 0))), (q3, .inl (ar 0, 300, .inl (fun _ => 0))), (q4, .inl (ar 1, 300, .inl (fun _ => 0))), (q5, .inl (ar 1, 300, .inl (fun _ => 0))), (q6, .inl (ar 0, 300, .inl (fun _ => 0))), (q7, .inl (ar 0, 8, .inl (fun _ => 0)))] := hD
  refine lv_aload_n hx hb dX8_init_86 rfl (lv_at hl 0 rfl) ?_
  refine lv_iconst (v := (0 : Int32)) hx hb dX8_init_87 (by decide) ?_
  refine va_put (D := D) (ci := 8) (v := .int (0 : Int32)) (ty := .int) (C := RX8) (T := TX8) (N := 16) hx hb hts in_X8 tyX8 tyX8_ok nmX8 hown hK hP hD hS 0 rfl rfl 12 (by decide) (hts _ wd_423) (fun _ h9 => h9) rfl (by decide +kernel) rfl rfl (Nat.le_of_ble_eq_true rfl) dX8_init_88 (fun H locs hP hD hS => ?_)
  have hP : va_P D vwCl [(h0, .inr (8, [.null, .ref q1, .ref q2, .ref q3, .ref q4, .ref q5, .ref q6, .int (0 : Int32), .int (0 : Int32), .ref q7, .int (0 : Int32), .int (0 : Int32), .int (0 : Int32), .int 0, .int 0, .int 0])), (q1, .inl (ar 0, 300, .inl (fun _ => 0))), (q2, .inl (ar 0, 300, .inl (fun _ => 0))), (q3, .inl (ar 0, 300, .inl (fun _ => 0))), (q4, .inl (ar 1, 300, .inl (fun _ => 0))), (q5, .inl (ar 1, 300, .inl (fun _ => 0))), (q6, .inl (ar 0, 300, .inl (fun _ => 0))), (q7, .inl (ar 0, 8, .inl (fun _ => 0)))] H := hP
  have hD : va_D A [(h0, .inr (8, [.null, .ref q1, .ref q2, .ref q3, .ref q4, .ref q5, .ref q6, .int (0 : Int32), .int (0 : Int32), .ref q7, .int (0 : Int32), .int (0 : Int32), .int (0 : Int32), .int 0, .int 0, .int 0])), (q1, .inl (ar 0, 300, .inl (fun _ => 0))), (q2, .inl (ar 0, 300, .inl (fun _ => 0))), (q3, .inl (ar 0, 300, .inl (fun _ => 0))), (q4, .inl (ar 1, 300, .inl (fun _ => 0))), (q5, .inl (ar 1, 300, .inl (fun _ => 0))), (q6, .inl (ar 0, 300, .inl (fun _ => 0))), (q7, .inl (ar 0, 8, .inl (fun _ => 0)))] := hD
  refine lv_aload_n hx hb dX8_init_91 rfl (lv_at hl 0 rfl) ?_
  refine lv_iconst (v := (-1 : Int32)) hx hb dX8_init_92 (by decide) ?_
  refine va_put (D := D) (ci := 8) (v := .int (-1 : Int32)) (ty := .int) (C := RX8) (T := TX8) (N := 16) hx hb hts in_X8 tyX8 tyX8_ok nmX8 hown hK hP hD hS 0 rfl rfl 13 (by decide) (hts _ wd_424) (fun _ h9 => h9) rfl (by decide +kernel) rfl rfl (Nat.le_of_ble_eq_true rfl) dX8_init_93 (fun H locs hP hD hS => ?_)
  have hP : va_P D vwCl [(h0, .inr (8, [.null, .ref q1, .ref q2, .ref q3, .ref q4, .ref q5, .ref q6, .int (0 : Int32), .int (0 : Int32), .ref q7, .int (0 : Int32), .int (0 : Int32), .int (0 : Int32), .int (-1 : Int32), .int 0, .int 0])), (q1, .inl (ar 0, 300, .inl (fun _ => 0))), (q2, .inl (ar 0, 300, .inl (fun _ => 0))), (q3, .inl (ar 0, 300, .inl (fun _ => 0))), (q4, .inl (ar 1, 300, .inl (fun _ => 0))), (q5, .inl (ar 1, 300, .inl (fun _ => 0))), (q6, .inl (ar 0, 300, .inl (fun _ => 0))), (q7, .inl (ar 0, 8, .inl (fun _ => 0)))] H := hP
  have hD : va_D A [(h0, .inr (8, [.null, .ref q1, .ref q2, .ref q3, .ref q4, .ref q5, .ref q6, .int (0 : Int32), .int (0 : Int32), .ref q7, .int (0 : Int32), .int (0 : Int32), .int (0 : Int32), .int (-1 : Int32), .int 0, .int 0])), (q1, .inl (ar 0, 300, .inl (fun _ => 0))), (q2, .inl (ar 0, 300, .inl (fun _ => 0))), (q3, .inl (ar 0, 300, .inl (fun _ => 0))), (q4, .inl (ar 1, 300, .inl (fun _ => 0))), (q5, .inl (ar 1, 300, .inl (fun _ => 0))), (q6, .inl (ar 0, 300, .inl (fun _ => 0))), (q7, .inl (ar 0, 8, .inl (fun _ => 0)))] := hD
  refine lv_aload_n hx hb dX8_init_96 rfl (lv_at hl 0 rfl) ?_
  refine lv_iconst (v := (-1 : Int32)) hx hb dX8_init_97 (by decide) ?_
  refine va_put (D := D) (ci := 8) (v := .int (-1 : Int32)) (ty := .int) (C := RX8) (T := TX8) (N := 16) hx hb hts in_X8 tyX8 tyX8_ok nmX8 hown hK hP hD hS 0 rfl rfl 14 (by decide) (hts _ wd_426) (fun _ h9 => h9) rfl (by decide +kernel) rfl rfl (Nat.le_of_ble_eq_true rfl) dX8_init_98 (fun H locs hP hD hS => ?_)
  have hP : va_P D vwCl [(h0, .inr (8, [.null, .ref q1, .ref q2, .ref q3, .ref q4, .ref q5, .ref q6, .int (0 : Int32), .int (0 : Int32), .ref q7, .int (0 : Int32), .int (0 : Int32), .int (0 : Int32), .int (-1 : Int32), .int (-1 : Int32), .int 0])), (q1, .inl (ar 0, 300, .inl (fun _ => 0))), (q2, .inl (ar 0, 300, .inl (fun _ => 0))), (q3, .inl (ar 0, 300, .inl (fun _ => 0))), (q4, .inl (ar 1, 300, .inl (fun _ => 0))), (q5, .inl (ar 1, 300, .inl (fun _ => 0))), (q6, .inl (ar 0, 300, .inl (fun _ => 0))), (q7, .inl (ar 0, 8, .inl (fun _ => 0)))] H := hP
  have hD : va_D A [(h0, .inr (8, [.null, .ref q1, .ref q2, .ref q3, .ref q4, .ref q5, .ref q6, .int (0 : Int32), .int (0 : Int32), .ref q7, .int (0 : Int32), .int (0 : Int32), .int (0 : Int32), .int (-1 : Int32), .int (-1 : Int32), .int 0])), (q1, .inl (ar 0, 300, .inl (fun _ => 0))), (q2, .inl (ar 0, 300, .inl (fun _ => 0))), (q3, .inl (ar 0, 300, .inl (fun _ => 0))), (q4, .inl (ar 1, 300, .inl (fun _ => 0))), (q5, .inl (ar 1, 300, .inl (fun _ => 0))), (q6, .inl (ar 0, 300, .inl (fun _ => 0))), (q7, .inl (ar 0, 8, .inl (fun _ => 0)))] := hD
  refine lv_aload_n hx hb dX8_init_101 rfl (lv_at hl 0 rfl) ?_
  refine lv_iconst (v := (0 : Int32)) hx hb dX8_init_102 (by decide) ?_
  refine va_put (D := D) (ci := 8) (v := .int (0 : Int32)) (ty := .int) (C := RX8) (T := TX8) (N := 16) hx hb hts in_X8 tyX8 tyX8_ok nmX8 hown hK hP hD hS 0 rfl rfl 15 (by decide) (hts _ wd_428) (fun _ h9 => h9) rfl (by decide +kernel) rfl rfl (Nat.le_of_ble_eq_true rfl) dX8_init_103 (fun H locs hP hD hS => ?_)
  have hP : va_P D vwCl [(h0, .inr (8, [.null, .ref q1, .ref q2, .ref q3, .ref q4, .ref q5, .ref q6, .int (0 : Int32), .int (0 : Int32), .ref q7, .int (0 : Int32), .int (0 : Int32), .int (0 : Int32), .int (-1 : Int32), .int (-1 : Int32), .int (0 : Int32)])), (q1, .inl (ar 0, 300, .inl (fun _ => 0))), (q2, .inl (ar 0, 300, .inl (fun _ => 0))), (q3, .inl (ar 0, 300, .inl (fun _ => 0))), (q4, .inl (ar 1, 300, .inl (fun _ => 0))), (q5, .inl (ar 1, 300, .inl (fun _ => 0))), (q6, .inl (ar 0, 300, .inl (fun _ => 0))), (q7, .inl (ar 0, 8, .inl (fun _ => 0)))] H := hP
  have hD : va_D A [(h0, .inr (8, [.null, .ref q1, .ref q2, .ref q3, .ref q4, .ref q5, .ref q6, .int (0 : Int32), .int (0 : Int32), .ref q7, .int (0 : Int32), .int (0 : Int32), .int (0 : Int32), .int (-1 : Int32), .int (-1 : Int32), .int (0 : Int32)])), (q1, .inl (ar 0, 300, .inl (fun _ => 0))), (q2, .inl (ar 0, 300, .inl (fun _ => 0))), (q3, .inl (ar 0, 300, .inl (fun _ => 0))), (q4, .inl (ar 1, 300, .inl (fun _ => 0))), (q5, .inl (ar 1, 300, .inl (fun _ => 0))), (q6, .inl (ar 0, 300, .inl (fun _ => 0))), (q7, .inl (ar 0, 8, .inl (fun _ => 0)))] := hD
  refine lv_aload_n hx hb dX8_init_106 rfl (lv_at hl 0 rfl) ?_
  refine lv_aload_n hx hb dX8_init_107 rfl (lv_at hl 1 rfl) ?_
  refine va_putF (D := D) (ci := 8) (v := .ref h1) (ty := (.object "LoanPoints$Listing")) (C := RX8) (T := TX8) (N := 16) hx hb hts in_X8 tyX8 tyX8_ok nmX8 hown hK hP hD hS 0 rfl rfl 0 (by decide) (hts _ wd_411) (fun _ h9 => h9) rfl hin rfl (by decide +kernel) rfl rfl (Nat.le_of_ble_eq_true rfl) dX8_init_108 (fun H locs hP hD hS => ?_)
  have hP : va_P D vwCl [(h0, .inr (8, [.ref h1, .ref q1, .ref q2, .ref q3, .ref q4, .ref q5, .ref q6, .int (0 : Int32), .int (0 : Int32), .ref q7, .int (0 : Int32), .int (0 : Int32), .int (0 : Int32), .int (-1 : Int32), .int (-1 : Int32), .int (0 : Int32)])), (q1, .inl (ar 0, 300, .inl (fun _ => 0))), (q2, .inl (ar 0, 300, .inl (fun _ => 0))), (q3, .inl (ar 0, 300, .inl (fun _ => 0))), (q4, .inl (ar 1, 300, .inl (fun _ => 0))), (q5, .inl (ar 1, 300, .inl (fun _ => 0))), (q6, .inl (ar 0, 300, .inl (fun _ => 0))), (q7, .inl (ar 0, 8, .inl (fun _ => 0)))] H := hP
  have hD : va_D A [(h0, .inr (8, [.ref h1, .ref q1, .ref q2, .ref q3, .ref q4, .ref q5, .ref q6, .int (0 : Int32), .int (0 : Int32), .ref q7, .int (0 : Int32), .int (0 : Int32), .int (0 : Int32), .int (-1 : Int32), .int (-1 : Int32), .int (0 : Int32)])), (q1, .inl (ar 0, 300, .inl (fun _ => 0))), (q2, .inl (ar 0, 300, .inl (fun _ => 0))), (q3, .inl (ar 0, 300, .inl (fun _ => 0))), (q4, .inl (ar 1, 300, .inl (fun _ => 0))), (q5, .inl (ar 1, 300, .inl (fun _ => 0))), (q6, .inl (ar 0, 300, .inl (fun _ => 0))), (q7, .inl (ar 0, 8, .inl (fun _ => 0)))] := hD
  have hP9 := hP.sub (ws' := [(h0, .inr (8, [.ref h1, .ref q1, .ref q2, .ref q3, .ref q4, .ref q5, .ref q6, .int (0 : Int32), .int (0 : Int32), .ref q7, .int (0 : Int32), .int (0 : Int32), .int (0 : Int32), .int (-1 : Int32), .int (-1 : Int32), .int (0 : Int32)])), (q1, .inl (ar 0, 300, .inl (fun _ => 0))), (q2, .inl (ar 0, 300, .inl (fun _ => 0))), (q3, .inl (ar 0, 300, .inl (fun _ => 0))), (q4, .inl (ar 1, 300, .inl (fun _ => 0))), (q5, .inl (ar 1, 300, .inl (fun _ => 0))), (q6, .inl (ar 0, 300, .inl (fun _ => 0))), (q7, .inl (ar 0, 8, .inl (fun _ => 0)))]) [0, 1, 2, 3, 4, 5, 6, 7] rfl
  have hD9 := hD.sub (ws' := [(h0, .inr (8, [.ref h1, .ref q1, .ref q2, .ref q3, .ref q4, .ref q5, .ref q6, .int (0 : Int32), .int (0 : Int32), .ref q7, .int (0 : Int32), .int (0 : Int32), .int (0 : Int32), .int (-1 : Int32), .int (-1 : Int32), .int (0 : Int32)])), (q1, .inl (ar 0, 300, .inl (fun _ => 0))), (q2, .inl (ar 0, 300, .inl (fun _ => 0))), (q3, .inl (ar 0, 300, .inl (fun _ => 0))), (q4, .inl (ar 1, 300, .inl (fun _ => 0))), (q5, .inl (ar 1, 300, .inl (fun _ => 0))), (q6, .inl (ar 0, 300, .inl (fun _ => 0))), (q7, .inl (ar 0, 8, .inl (fun _ => 0)))]) [0, 1, 2, 3, 4, 5, 6, 7] (by decide) rfl
  refine W.widen (k := 7) (n := 1808) (Nat.le_of_ble_eq_true rfl) (Nat.le_of_ble_eq_true rfl) ?_
  exact W.vret hx hb hr (fun t ht hW => ⟨⟨(fun k => ([q1, q2, q3, q4, q5, q6, q7] : List Nat).getD k 0), rfl, trivial, by rw [ht]; exact hP9, hD9⟩, hS.F ht⟩) hS.2.2 dX8_init_111
theorem dX6_init_0 : decode cX6_init 0 = .ok (.aload_n 0, 1) := by decide +kernel
theorem dX6_init_1 : decode cX6_init 1 = .ok (.invokespecial 3, 3) := by decide +kernel
theorem dX6_init_4 : decode cX6_init 4 = .ok (.aload_n 0, 1) := by decide +kernel
theorem dX6_init_5 : decode cX6_init 5 = .ok (.bipush 60, 2) := by decide +kernel
theorem dX6_init_7 : decode cX6_init 7 = .ok (.newarray .int, 2) := by decide +kernel
theorem dX6_init_9 : decode cX6_init 9 = .ok (.putfield 9, 3) := by decide +kernel
theorem dX6_init_12 : decode cX6_init 12 = .ok (.aload_n 0, 1) := by decide +kernel
theorem dX6_init_13 : decode cX6_init 13 = .ok (.iconst (-1), 1) := by decide +kernel
theorem dX6_init_14 : decode cX6_init 14 = .ok (.putfield 15, 3) := by decide +kernel
theorem dX6_init_17 : decode cX6_init 17 = .ok (.aload_n 0, 1) := by decide +kernel
theorem dX6_init_18 : decode cX6_init 18 = .ok (.iconst 0, 1) := by decide +kernel
theorem dX6_init_19 : decode cX6_init 19 = .ok (.putfield 19, 3) := by decide +kernel
theorem dX6_init_22 : decode cX6_init 22 = .ok (.return_, 1) := by decide +kernel
abbrev wi_X6 (ar : Nat → ClassId) (h0 : Nat) (q : Nat → Nat) : va_W := [(h0, .inr (6, [.ref (q 0), .int (-1 : Int32), .int (0 : Int32)])), ((q 0), .inl (ar 0, 60, .inl (fun _ => 0)))]
set_option maxRecDepth 100000 in
set_option maxHeartbeats 8000000 in
theorem ci_X6 (l : Launch) (D : va_G) (ar : Nat → ClassId) (h0 : Nat) (sz : Nat) : Met l yX6_init (.code yX6_init cX6_init 1 none :: tb) ({ frames := 1, cells := 1, slots := 60, locals := 20 } : Room) (va_Pc [.ref h0] (fun U => U.heap.size = sz ∧ va_P D vwCl [(h0, .inr (6, [.null, .int 0, .int 0]))] U.heap ∧ va_K D vwCl (sh_t ar) U ∧ va_D (fun _ => True) [(h0, .inr (6, [.null, .int 0, .int 0]))] ∧ nsOk U ∧ va_AO RX6 U)) (va_Qv (fun _ : Nat → Nat => True) (fun q t => va_P D vwCl (wi_X6 ar h0  q) t.heap ∧ va_D (va_A [(h0, .inr (6, [.null, .int 0, .int 0]))] sz) (wi_X6 ar h0  q)) (va_A [(h0, .inr (6, [.null, .int 0, .int 0]))] sz)) 1 60 (va_A [(h0, .inr (6, [.null, .int 0, .int 0]))] sz) := by
  refine Met.ofW (cc := cX6_init) (maxL := 1) (ret := none) (by decide) rfl ?_
  intro p e s m args below meth c s₁ B hml hv
  obtain ⟨rfl, hsz, hP, hK, hD0, hN, hAO⟩ := hv
  have hx := B.exec
  have hb := B.bytes
  have hr := B.returns
  have hts : ∀ w ∈ tb, w.before _ s = true := fun w hw => atoms_spec (ws := .code yX6_init cX6_init 1 none :: tb) B.pre w (List.mem_cons_of_mem _ hw)
  have hown : s.vm.findClass RX6 = some m.cls := findClass_of_methodNamed B.named
  have hlocks := B.notSynchronized
  have hin : meth.name = "<init>" := (name_of_methodNamed B.named B.method).1
  subst hsz
  have hD := hD0.self (sz := s.heap.size)
  generalize hAe : va_A [(h0, .inr (6, [.null, .int 0, .int 0]))] s.heap.size = A at hD ⊢
  have hA : ∀ q : Nat, s.heap.size ≤ q → A q := fun q h => by rw [← hAe]; exact Or.inr h
  have hS : va_S A s.heap s.heap [] := va_S.rf
  have hl := lv_entry ([.ref h0]) (n := 1) (Nat.le_of_ble_eq_true rfl)
  rw [lg_entry_eq]
  generalize (lg_sl ([.ref h0]) ++ List.replicate (1 - (lg_sl ([.ref h0])).length) Slot.unset).toArray = ls at hl ⊢
  have hl : lv_has ls 1 [(0, .ref h0)] := hl
  refine lv_aload_n hx hb dX6_init_0 rfl (lv_at hl 0 rfl) ?_
  refine W.objInit hx hb hown (hts _ wd_469) (hts _ wd_108) (hts _ wd_109) rfl (by rw [hml]; exact hl.1) rfl dX6_init_1 (Nat.le_of_ble_eq_true rfl) (Nat.le_of_ble_eq_true rfl) ?_
  refine W.eq (g2 := F0 m 4 ls []) rfl ?_
  refine lv_aload_n hx hb dX6_init_4 rfl (lv_at hl 0 rfl) ?_
  refine lv_bipush (v := (60 : Int32)) hx hb dX6_init_5 (by decide) ?_
  refine na_i (N' := 60) hx hb (hts _ wd_aci) hK hP hD hS hA (by decide) (by decide) (by decide) (Nat.le_of_ble_eq_true rfl) (Nat.le_of_ble_eq_true rfl) dX6_init_7 (fun q1 H hP hD hS => ?_)
  have hP : va_P D vwCl [(h0, .inr (6, [.null, .int 0, .int 0])), (q1, .inl (ar 0, 60, .inl (fun _ => 0)))] H := hP
  have hD : va_D A [(h0, .inr (6, [.null, .int 0, .int 0])), (q1, .inl (ar 0, 60, .inl (fun _ => 0)))] := hD
  refine va_putF (D := D) (ci := 6) (v := .ref q1) (ty := (.array .int)) (C := RX6) (T := TX6) (N := 3) hx hb hts in_X6 tyX6 tyX6_ok nmX6 hown hK hP hD hS 0 rfl rfl 0 (by decide) (hts _ wd_470) (fun _ h9 => h9) rfl hin rfl (by decide +kernel) rfl rfl (Nat.le_of_ble_eq_true rfl) dX6_init_9 (fun H locs hP hD hS => ?_)
  have hP : va_P D vwCl [(h0, .inr (6, [.ref q1, .int 0, .int 0])), (q1, .inl (ar 0, 60, .inl (fun _ => 0)))] H := hP
  have hD : va_D A [(h0, .inr (6, [.ref q1, .int 0, .int 0])), (q1, .inl (ar 0, 60, .inl (fun _ => 0)))] := hD
  refine lv_aload_n hx hb dX6_init_12 rfl (lv_at hl 0 rfl) ?_
  refine lv_iconst (v := (-1 : Int32)) hx hb dX6_init_13 (by decide) ?_
  refine va_put (D := D) (ci := 6) (v := .int (-1 : Int32)) (ty := .int) (C := RX6) (T := TX6) (N := 3) hx hb hts in_X6 tyX6 tyX6_ok nmX6 hown hK hP hD hS 0 rfl rfl 1 (by decide) (hts _ wd_472) (fun _ h9 => h9) rfl (by decide +kernel) rfl rfl (Nat.le_of_ble_eq_true rfl) dX6_init_14 (fun H locs hP hD hS => ?_)
  have hP : va_P D vwCl [(h0, .inr (6, [.ref q1, .int (-1 : Int32), .int 0])), (q1, .inl (ar 0, 60, .inl (fun _ => 0)))] H := hP
  have hD : va_D A [(h0, .inr (6, [.ref q1, .int (-1 : Int32), .int 0])), (q1, .inl (ar 0, 60, .inl (fun _ => 0)))] := hD
  refine lv_aload_n hx hb dX6_init_17 rfl (lv_at hl 0 rfl) ?_
  refine lv_iconst (v := (0 : Int32)) hx hb dX6_init_18 (by decide) ?_
  refine va_put (D := D) (ci := 6) (v := .int (0 : Int32)) (ty := .int) (C := RX6) (T := TX6) (N := 3) hx hb hts in_X6 tyX6 tyX6_ok nmX6 hown hK hP hD hS 0 rfl rfl 2 (by decide) (hts _ wd_474) (fun _ h9 => h9) rfl (by decide +kernel) rfl rfl (Nat.le_of_ble_eq_true rfl) dX6_init_19 (fun H locs hP hD hS => ?_)
  have hP : va_P D vwCl [(h0, .inr (6, [.ref q1, .int (-1 : Int32), .int (0 : Int32)])), (q1, .inl (ar 0, 60, .inl (fun _ => 0)))] H := hP
  have hD : va_D A [(h0, .inr (6, [.ref q1, .int (-1 : Int32), .int (0 : Int32)])), (q1, .inl (ar 0, 60, .inl (fun _ => 0)))] := hD
  have hP9 := hP.sub (ws' := [(h0, .inr (6, [.ref q1, .int (-1 : Int32), .int (0 : Int32)])), (q1, .inl (ar 0, 60, .inl (fun _ => 0)))]) [0, 1] rfl
  have hD9 := hD.sub (ws' := [(h0, .inr (6, [.ref q1, .int (-1 : Int32), .int (0 : Int32)])), (q1, .inl (ar 0, 60, .inl (fun _ => 0)))]) [0, 1] (by decide) rfl
  refine W.widen (k := 1) (n := 60) (Nat.le_of_ble_eq_true rfl) (Nat.le_of_ble_eq_true rfl) ?_
  exact W.vret hx hb hr (fun t ht hW => ⟨⟨(fun k => ([q1] : List Nat).getD k 0), rfl, trivial, by rw [ht]; exact hP9, hD9⟩, hS.F ht⟩) hS.2.2 dX6_init_22
