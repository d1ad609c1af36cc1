theorem lv_args_p (ad : Nat → Nat) : ∀ (av : List Value) (i : Nat), lv_args i (av.map (sh_v ad)) = (lv_args i av).map (sh_p ad)
  | [], _ => rfl
  | v :: vs, i => by
    show (i, sh_v ad v) :: lv_args (if (sh_v ad v).category = 2 then i + 2 else i + 1) (vs.map (sh_v ad)) = sh_p ad (i, v) :: (lv_args (if v.category = 2 then i + 2 else i + 1) vs).map (sh_p ad)
    rw [sh_v_cat, lv_args_p ad vs]
    rfl
theorem lg_sl_p (ad : Nat → Nat) (av : List Value) : (lg_sl (av.map (sh_v ad))).length = (lg_sl av).length := by
  unfold lg_sl
  induction av with
  | nil => rfl
  | cons v vs ih =>
    simp only [List.map_cons, List.flatMap_cons, List.length_append, ih, sh_v_cat]
    congr 1
    split <;> rfl
def Rt (bytes : ByteArray) (ret : Option FieldType) (ri : Instr) (r : Option Value) (C : Prop) : Prop := C → ∀ (ad : Nat → Nat) (p : Program) (l : Launch) (e : Env) (R : Room) (s : State) (m : MethodId) (args : Array Value) (below : List Frame) (meth : Method) (c : Code) (H : Heap) (locs : List Loc) (Qc : Array Value → State → Outcome → State → Prop) (free : Addr → Prop) (pc : Nat) (ls : Array Slot), p.tables.exec = Jvm.exec → c.code = bytes → meth.sig.returnType = ret → meth.locks = false → (∀ t : State, t.heap = H → s.WarmedH t.vm → Qc args s (.returned (r.map (sh_v ad))) t) → (∀ q ∈ locs, free q.base) → decode bytes pc = .ok (ri, 1) → W p l e R s m args below meth c H locs 0 0 (MQ below Qc args s 0 0 free) (F0 m pc ls (r.toList.map (sh_v ad)))
theorem Rt_i {bytes : ByteArray} (x : Int32) : Rt bytes (some .int) .ireturn (some (.int x)) True := by
  intro _ ad p l e R s m args below meth c H locs Qc free pc ls hx hb hr hlk hq hf d
  exact W.iret hx hb hr hq hf d hlk
theorem Rt_z {bytes : ByteArray} (x : Int32) : Rt bytes (some .boolean) .ireturn (some (.int x)) (x = 0 ∨ x = 1) := by
  intro hz ad p l e R s m args below meth c H locs Qc free pc ls hx hb hr hlk hq hf d
  exact W.zret hx hb hr (by rcases hz with rfl | rfl <;> rfl) hq hf d hlk
theorem Rt_l {bytes : ByteArray} (x : Int64) : Rt bytes (some .long) .lreturn (some (.long x)) True := by
  intro _ ad p l e R s m args below meth c H locs Qc free pc ls hx hb hr hlk hq hf d
  exact W.lret hx hb hr hq hf d hlk
theorem Rt_v {bytes : ByteArray} : Rt bytes none .return_ none True := by
  intro _ ad p l e R s m args below meth c H locs Qc free pc ls hx hb hr hlk hq hf d
  exact W.vret hx hb hr hq hf d hlk
theorem Rt_a {bytes : ByteArray} {C : String} (k : Nat) : Rt bytes (some (.object C)) .areturn (some (.ref k)) True := by
  intro _ ad p l e R s m args below meth c H locs Qc free pc ls hx hb hr hlk hq hf d
  exact W.aret hx hb hr (Or.inl ⟨_, rfl⟩) (Or.inr ⟨_, rfl⟩) hq hf d hlk
theorem Ctr.mk {y : MethodName} {bytes : ByteArray} {mL : Nat} {ret : Option FieldType} {rm : Room} {sh : List sh_T} {av : List Value} {σ : sh_S} {r : Option Value} {σ' : sh_S} {ri : Instr} {C : Prop} (hy : plainName y.cls = true) (hlen : (lg_sl av).length ≤ mL) (hrt : Rt bytes ret ri r C)
    (body : ∀ G : sh_G, sh_ok G bytes y.cls sh → gn G = mL → gR G = rm → (∀ (pc : Nat) (lv : List (Nat × Value)), decode bytes pc = .ok (ri, 1) → C → sh_K G sh pc lv r.toList σ') → sh_K G sh 0 (lv_args 0 av) [] σ) : Ctr y bytes mL ret rm sh av σ r σ' := by
  intro l D ar ad sz
  refine Met.ofW (cc := bytes) (maxL := mL) (ret := ret) hy rfl ?_
  intro p e s m args below meth c s₁ B hml hv
  obtain ⟨rfl, hsz, hP, hK, hD0, hN⟩ := hv
  subst hsz
  have hts := atoms_spec (ws := .code y bytes mL ret :: tb) B.pre
  have hown : s.vm.findClass y.cls = some m.cls := findClass_of_methodNamed B.named
  have hl := lv_entry (av.map (sh_v ad)) (n := mL) (by rw [lg_sl_p]; exact hlen)
  rw [lv_args_p] at hl
  rw [lg_entry_eq]
  have key := body (p, l, e, rm, s, m, (av.map (sh_v ad)).toArray, below, meth, c, MQ below (Cq D ar ad sh (sh_W ar ad σ sh) s.heap.size r σ') (av.map (sh_v ad)).toArray s 0 0 (va_A (sh_W ar ad σ sh) s.heap.size), D, ar, ad, va_A (sh_W ar ad σ sh) s.heap.size, mL, 0, 0)
    ⟨B.exec, B.bytes, hml, hown, fun w hw => hts w (List.mem_cons_of_mem _ hw), hK, sh_D hD0.self, hN, fun q h => Or.inr h, Nat.zero_le _, Nat.zero_le _⟩ rfl rfl
    (fun pc lv d hC H locs ls hP1 hS1 hl1 => hrt hC ad p l e rm s m _ below meth c H locs _ _ pc ls B.exec B.bytes B.returns B.notSynchronized (fun t ht hW => ⟨⟨rfl, by rw [ht]; exact hP1⟩, hS1.F ht⟩) hS1.2.2 d)
  exact key s.heap [] _ hP va_S.rf hl
def gu {α : Type} (c : Prop) [Decidable c] (t : Option α) : Option α := if c then t else none
def lb {α β : Type} (a : α) (f : α → β) : β := f a
def ob {α β : Type} (x : Option α) (f : α → Option β) : Option β := match x with
  | some a => f a
  | none => none
def ob2 {α β γ : Type} (x : Option (α × β)) (f : α → β → Option γ) : Option γ := match x with
  | some q => f q.1 q.2
  | none => none
def ob3 {α β γ δ : Type} (x : Option (α × β × γ)) (f : α → β → γ → Option δ) : Option δ := match x with
  | some q => f q.1 q.2.1 q.2.2
  | none => none
def ob4 {α β γ δ ε : Type} (x : Option (α × β × γ × δ)) (f : α → β → γ → δ → Option ε) : Option ε := match x with
  | some q => f q.1 q.2.1 q.2.2.1 q.2.2.2
  | none => none
def ob5 {α β γ δ ε ζ : Type} (x : Option (α × β × γ × δ × ε)) (f : α → β → γ → δ → ε → Option ζ) : Option ζ := match x with
  | some q => f q.1 q.2.1 q.2.2.1 q.2.2.2.1 q.2.2.2.2
  | none => none
def lp {S E : Type} (body : S → Option (S ⊕ E)) (n : Nat) (s : S) : Option E := match n with
  | 0 => none
  | n + 1 => match body s with
    | none => none
    | some (.inl s') => lp body n s'
    | some (.inr e) => some e
def FU : Nat := 6000
theorem gu_s {α : Type} {c : Prop} [Decidable c] {t : Option α} {r : α} (h : gu c t = some r) : c ∧ t = some r := by
  unfold gu at h
  split at h
  · exact ⟨by assumption, h⟩
  · cases h
theorem lb_s {α β : Type} {a : α} {f : α → β} {r : β} (h : lb a f = r) : ∃ v, v = a ∧ f v = r := ⟨a, rfl, h⟩
theorem it_p {α : Type} {c : Prop} [Decidable c] {t e r : α} (hc : c) (h : (if c then t else e) = r) : t = r := by rw [if_pos hc] at h; exact h
theorem it_n {α : Type} {c : Prop} [Decidable c] {t e r : α} (hc : ¬ c) (h : (if c then t else e) = r) : e = r := by rw [if_neg hc] at h; exact h
theorem ob_s {α β : Type} {x : Option α} {f : α → Option β} {r : β} (h : ob x f = some r) : ∃ a, x = some a ∧ f a = some r := by
  cases x with
  | none => cases h
  | some a => exact ⟨a, rfl, h⟩
theorem ob2_s {α β γ : Type} {x : Option (α × β)} {f : α → β → Option γ} {r : γ} (h : ob2 x f = some r) : ∃ a b, x = some (a, b) ∧ f a b = some r := by
  cases x with
  | none => cases h
  | some a => exact ⟨a.1, a.2, rfl, h⟩
theorem ob3_s {α β γ δ : Type} {x : Option (α × β × γ)} {f : α → β → γ → Option δ} {r : δ} (h : ob3 x f = some r) : ∃ a b c, x = some (a, b, c) ∧ f a b c = some r := by
  cases x with
  | none => cases h
  | some a => exact ⟨a.1, a.2.1, a.2.2, rfl, h⟩
theorem ob4_s {α β γ δ ε : Type} {x : Option (α × β × γ × δ)} {f : α → β → γ → δ → Option ε} {r : ε} (h : ob4 x f = some r) : ∃ a b c d, x = some (a, b, c, d) ∧ f a b c d = some r := by
  cases x with
  | none => cases h
  | some a => exact ⟨a.1, a.2.1, a.2.2.1, a.2.2.2, rfl, h⟩
theorem ob5_s {α β γ δ ε ζ : Type} {x : Option (α × β × γ × δ × ε)} {f : α → β → γ → δ → ε → Option ζ} {r : ζ} (h : ob5 x f = some r) : ∃ a b c d e, x = some (a, b, c, d, e) ∧ f a b c d e = some r := by
  cases x with
  | none => cases h
  | some a => exact ⟨a.1, a.2.1, a.2.2.1, a.2.2.2.1, a.2.2.2.2, rfl, h⟩
theorem lp_s {S E : Type} {body : S → Option (S ⊕ E)} (P : S → Prop) (Q : E → Prop) (step : ∀ (s : S) (r : S ⊕ E), body s = some r → Sum.elim P Q r → P s) : ∀ {n : Nat} {s : S} {e : E}, lp body n s = some e → Q e → P s
  | 0, _, _, h, _ => by cases h
  | n + 1, s, e, h, hq => by
    unfold lp at h
    cases hb : body s with
    | none => rw [hb] at h; cases h
    | some r =>
      rw [hb] at h
      cases r with
      | inl s' => exact step s _ hb (lp_s P Q step h hq)
      | inr e' => cases h; exact step s _ hb hq
def sm {α β γ : Type} (e : α ⊕ β) (f : α → γ) (g : β → γ) : γ := match e with
  | .inl a => f a
  | .inr b => g b
theorem mg_rs (em : List Nat) (σ : sh_S) : σ = mg em 0 σ (rs em σ) := by
  funext k
  rcases mg_at σ (rs em σ) em 0 k with ⟨j, h1, h2⟩ | ⟨h1, h2⟩
  · rw [h2, Nat.zero_add]
    show σ k = σ (em.getD j 0)
    rw [List.getD_eq_getElem?_getD, h1]
    rfl
  · exact h2.symm
theorem rk {R rm : Room} {a b : Nat} (e : R = rm) (h1 : a ≤ rm.frames) (h2 : b ≤ rm.locals) : a ≤ R.frames ∧ b ≤ R.locals := by rw [e]; exact ⟨h1, h2⟩
theorem nk {a b i : Nat} (e : a = b) (h : i < b) : i < a := by rw [e]; exact h
section K0
variable {G : sh_G} {cc : ByteArray} {own : String} {sh shc : List sh_T} {pc : Nat} {lv : List (Nat × Value)} {st st0 st1 : List Value} {σ σ1 σ2 : sh_S} {em : List Nat} {y : MethodName} {bytes : ByteArray} {mL idx n ci : Nat} {ret : Option FieldType} {rm : Room} {av : List Value} {r : Option Value}
theorem k_run0 (h : sh_ok G cc own sh) {aa : Array Value}
    (hr : ∀ (H : Heap) (locs : List Loc) (ls : Array Slot), va_P (gD G) vwCl (sh_W (gr G) (gd G) σ sh) H → va_S (gA G) (gs G).heap H locs → ls.size = gn G →
      va_Run (gp G) (gl G) (ge G) (gR G) (gs G) (gm G) (ga G) (gb G) (gM G) (gc G) H locs (gk G) (gz G) 0 0 (F0 (gm G) pc ls (st0.map (sh_v (gd G)))) (st.map (sh_v (gd G))) (Cq (gD G) (gr G) (gd G) sh (sh_W (gr G) (gd G) σ sh) H.size r σ2 aa) (va_A (sh_W (gr G) (gd G) σ sh) H.size))
    (kk : sh_K G sh (pc + 3) lv (r.toList ++ st) σ2) : sh_K G sh pc lv st0 σ := by
  intro H locs ls hP hS hl T hT X
  have hD : va_D (gA G) (sh_W (gr G) (gd G) σ sh) := sh_D h.2.2.2.2.2.2.1
  have hA : ∀ q, H.size ≤ q → gA G q := fun q hq => h.2.2.2.2.2.2.2.2.1 q (Nat.le_trans hS.1 hq)
  have hF : ∀ q, va_A (sh_W (gr G) (gd G) σ sh) H.size q → gA G q := by
    intro q hq
    rcases hq with ⟨k, e, hq⟩ | hq
    · exact hD.2 k _ hq
    · exact hA q hq
  obtain ⟨v, st₀, t, T', L, h0, X', hL, e1, e2, ⟨⟨hv, hB⟩, hz, hk⟩, sp⟩ := hr H locs ls hP hS hl.1 T hT X
  rw [h0] at hz hk
  rw [← e1] at hz hk hB
  have hv2 : v = r.map (sh_v (gd G)) := by
    injection hv
  have hst : (v.toList ++ st.map (sh_v (gd G))) = (r.toList ++ st).map (sh_v (gd G)) := by
    rw [hv2, List.map_append]
    congr 1
    cases r <;> rfl
  obtain ⟨t2, a1, b1⟩ := kk T'.heap (locs ++ L) ls hB ⟨Nat.le_trans hS.1 hz, fun q h1 h2 => by
      rw [hk q (Nat.lt_of_lt_of_le h1 hS.1) (fun z => h2 (hF q z))]
      exact hS.2.1 q h1 h2, fun q hq => by
      rcases List.mem_append.mp hq with h | h
      · exact hS.2.2 q h
      · exact hF _ (hL q h)⟩ hl T' rfl X'
  rw [← hst] at a1
  exact ⟨t2, sp t2 a1, b1⟩
theorem k_pre0 (h : sh_ok G cc own sh) {H : Heap} (hP : va_P (gD G) vwCl (sh_W (gr G) (gd G) σ sh) H) (U : State) (hU : U.heap = H) (hW : (gs G).WarmedH U.vm) : Cp (gD G) (gr G) (gd G) sh av σ H.size (av.map (sh_v (gd G))).toArray U :=
  ⟨rfl, by rw [hU], by rw [hU]; exact hP, va_K.moved hW.alike h.2.2.2.2.2.1, (sh_D h.2.2.2.2.2.2.1).weaken (fun _ _ _ _ => trivial), nsOk.warm hW h.2.2.2.2.2.2.2.1⟩
theorem k_callS0 (h : sh_ok G cc own sh) (cs : CS own idx y bytes mL ret n) (hc : Ctr y bytes mL ret rm sh av σ r σ2) (hn : av.length = n) (hst : av.reverse ++ st = st0) (hst1 : r.toList ++ st = st1) (hrm : rm.cells = 0 ∧ rm.slots = 0) (hR : rm.frames + 1 ≤ (gR G).frames ∧ 8 + (mL + 11) + rm.locals ≤ (gR G).locals) (h8 : (st.map fun v => v.category).sum ≤ 8) (d : decode cc pc = .ok (.invokestatic idx, 3))
    (kk : sh_K G sh (pc + 3) lv st1 σ2) : sh_K G sh pc lv st0 σ := by
  obtain ⟨hd, hl, hs, hi, hco⟩ := cs
  refine k_run0 h (r := r) (aa := (av.map (sh_v (gd G))).toArray) (fun H locs ls hP hS hsz => ?_) (by rw [hst1]; exact kk)
  have hw := h.2.2.2.2.1
  refine va_runS (As := av.map (sh_v (gd G))) (k_fix h) (hc (gl G) (gD G) (gr G) (gd G) H.size) ⟨callB_of n hw (tb_GI (fun _ z => z) hco) rfl hrm.1 hrm.2 (hw _ hi) (hw _ hl) hd hR, hw _ hs⟩ ⟨Cp_blind, fun U hU hW => k_pre0 h hP U hU hW⟩ rfl (by rw [List.length_map]; exact hn) hsz ?_ (lv_room (by rw [List.map_map]; exact (show _ = (st.map fun v => v.category).sum from congrArg List.sum (List.map_congr_left (fun v _ => sh_v_cat _ v))) ▸ h8)) d ⟨h.2.2.2.2.2.2.2.2.2.1, h.2.2.2.2.2.2.2.2.2.2⟩
  show st0.map _ = _
  rw [← hst, List.map_append, List.map_reverse]
theorem k_callV0 (h : sh_ok G cc own sh) (cs : CV own idx ci y bytes mL ret n) {k0 : Nat} {fs : List (Option Nat)} {as : List Value} (hc : Ctr y bytes mL ret rm sh (.ref k0 :: as) σ r σ2) (hk : sh[k0]? = some (.inr (.inl (ci, fs)))) (hn : as.length = n) (hst : as.reverse ++ .ref k0 :: st = st0) (hst1 : r.toList ++ st = st1) (hrm : rm.cells = 0 ∧ rm.slots = 0) (hR : rm.frames + 1 ≤ (gR G).frames ∧ 8 + (mL + 11) + rm.locals ≤ (gR G).locals) (h8 : (st.map fun v => v.category).sum ≤ 8) (d : decode cc pc = .ok (.invokevirtual idx, 3))
    (kk : sh_K G sh (pc + 3) lv st1 σ2) : sh_K G sh pc lv st0 σ := by
  obtain ⟨q, hq, hy, hd, hl, hin, hse, hi, hco⟩ := cs
  refine k_run0 h (r := r) (aa := ((Value.ref (gd G k0)) :: as.map (sh_v (gd G))).toArray) (fun H locs ls hP hS hsz => ?_) (by rw [hst1]; exact kk)
  have hw := h.2.2.2.2.1
  refine va_runV (C := y.cls) (b := gd G k0) (As := as.map (sh_v (gd G))) (k_fix h) (hc (gl G) (gD G) (gr G) (gd G) H.size) ⟨callB_of n hw (tb_GI (fun _ z => z) hco) rfl hrm.1 hrm.2 (hw _ hi) (hw _ hl) hd hR, hw _ hin, hw _ hse⟩ ⟨Cp_blind, ?_, fun U hU hW => k_pre0 h hP U hU hW⟩ rfl (by rw [List.length_map]; exact hn) hsz ?_ (lv_room (by rw [List.map_map]; exact (show _ = (st.map fun v => v.category).sum from congrArg List.sum (List.map_congr_left (fun v _ => sh_v_cat _ v))) ▸ h8)) d ⟨h.2.2.2.2.2.2.2.2.2.1, h.2.2.2.2.2.2.2.2.2.2⟩
  · rw [hy]
    exact va_recv h.2.2.2.2.2.1 hP hq (sh_at hk)
  · show st0.map _ = _
    rw [← hst, List.map_append, List.map_reverse]
    rfl
theorem emb_nil : emb [] [] sh := ⟨rfl, rfl⟩
theorem k_callSp (h : sh_ok G cc own sh) (cs : CS own idx y bytes mL ret n) (hc : Ctr y bytes mL ret rm [] av (rs [] σ) r σ2) (hn : av.length = n) (hst : (av.map (sh_v (emf []))).reverse ++ st = st0) (hst1 : (r.map (sh_v (emf []))).toList ++ st = st1) (hrm : rm.cells = 0 ∧ rm.slots = 0) (hR : rm.frames + 1 ≤ (gR G).frames ∧ 8 + (mL + 11) + rm.locals ≤ (gR G).locals) (h8 : (st.map fun v => v.category).sum ≤ 8) (d : decode cc pc = .ok (.invokestatic idx, 3))
    (kk : sh_K G sh (pc + 3) lv st1 σ) : sh_K G sh pc lv st0 σ := k_callS h cs hc emb_nil hn hst hrm hR h8 d (by rw [hst1]; exact kk)
theorem k_callNp (h : sh_ok G cc own sh) (cs : CN own idx y bytes mL ret n) (hc : Ctr y bytes mL ret rm [] av (rs [] σ) r σ2) (hn : av.length = n) (hst : (av.map (sh_v (emf []))).reverse ++ st = st0) (hst1 : (r.map (sh_v (emf []))).toList ++ st = st1) (hrm : rm.cells = 0 ∧ rm.slots = 0) (hR : rm.frames + 1 ≤ (gR G).frames ∧ 8 + (mL + 11) + rm.locals ≤ (gR G).locals) (h8 : (st.map fun v => v.category).sum ≤ 8) (d : decode cc pc = .ok (.invokestatic idx, 3))
    (kk : sh_K G sh (pc + 3) lv st1 σ) : sh_K G sh pc lv st0 σ := k_callN h cs hc emb_nil hn hst hrm hR h8 d (by rw [hst1]; exact kk)
theorem k_callVe (h : sh_ok G cc own sh) (cs : CV own idx ci y bytes mL ret n) {k0 : Nat} {fs : List (Option Nat)} {as : List Value} (hc : Ctr y bytes mL ret rm shc (.ref k0 :: as) (rs em σ) r σ2) (hE : emb em shc sh) (hk : sh[emf em k0]? = some (.inr (.inl (ci, fs)))) (hn : as.length = n) (hst : (as.map (sh_v (emf em))).reverse ++ .ref (emf em k0) :: st = st0) (hst1 : (r.map (sh_v (emf em))).toList ++ st = st1) (hrm : rm.cells = 0 ∧ rm.slots = 0) (hR : rm.frames + 1 ≤ (gR G).frames ∧ 8 + (mL + 11) + rm.locals ≤ (gR G).locals) (h8 : (st.map fun v => v.category).sum ≤ 8) (d : decode cc pc = .ok (.invokevirtual idx, 3)) (hσ : σ1 = mg em 0 σ σ2)
    (kk : sh_K G sh (pc + 3) lv st1 σ1) : sh_K G sh pc lv st0 σ := k_callV h cs hc hE hk hn hst hrm hR h8 d (by rw [hst1, ← hσ]; exact kk)
theorem k_acopy (h : sh_ok G cc own sh) {k0 k1 n0 n1 : Nat} {sp dp m : Int32} (hs0 : sh[k0]? = some (.inl (0, n0))) (hs1 : sh[k1]? = some (.inl (0, n1))) (hw : Cond.methodLink own idx arraycopyName ∈ tb ∧ Cond.native arraycopyName ∈ tb ∧ Cond.static arraycopyName ∈ tb ∧ Cond.initialized "java/lang/System" ∈ tb)
    (hg : (¬ sp < 0 ∧ ¬ dp < 0 ∧ ¬ m < 0) ∧ ix sp + ix m ≤ n0 ∧ ix dp + ix m ≤ n1) (hR : 1 ≤ (gR G).frames ∧ 8 + (nativeFrameWords "java/lang/System" "arraycopy" 5 + 11) ≤ (gR G).locals) (h8 : (st.map fun v => v.category).sum ≤ 8) (d : decode cc pc = .ok (.invokestatic idx, 3))
    (kk : sh_K G sh (pc + 3) lv st (ur σ k1 (va_cpy (σ k0) (σ k1) (ix sp) (ix dp) (ix m)))) : sh_K G sh pc lv (.int m :: .int dp :: .ref k1 :: .int sp :: .ref k0 :: st) σ := by
  intro H locs ls hP hS hl
  have hv := h.2.2.2.2.1
  refine va_copyi (ty := .int) h.1 h.2.1 (h.2.2.1.trans hl.1.symm) h.2.2.2.1 (hv _ hw.1) (hv _ hw.2.1) (hv _ hw.2.2.1) (hv _ hw.2.2.2) h.2.2.2.2.2.1 hP (sh_D h.2.2.2.2.2.2.1) hS k0 k1 0 0 (sh_at hs0) (sh_at hs1) rfl rfl rfl hg.1.1 hg.1.2.1 hg.1.2.2 hg.2.1 hg.2.2 (fun _ _ => rfl) hR.1 ?_ d (fun H1 locs1 hP1 _ hS1 => ?_)
  · have e : ((st.map (sh_v (gd G))).map fun v => v.category).sum = (st.map fun v => v.category).sum := by
      rw [List.map_map]
      exact congrArg List.sum (List.map_congr_left (fun v _ => sh_v_cat _ v))
    have := hR.2
    omega
  · have e := sh_set (ar := gr G) (ad := gd G) (σ := σ) (va_cpy (σ k0) (σ k1) (ix sp) (ix dp) (ix m)) hs1
    exact kk H1 locs1 ls (e ▸ hP1) hS1 hl
end K0
