def rs (em : List Nat) (σ : sh_S) : sh_S := fun k => σ (em.getD k 0)
def mg (em : List Nat) (i : Nat) (σ σ2 : sh_S) : sh_S := match em with
  | [] => σ
  | e :: em => ur (mg em (i + 1) σ σ2) e (σ2 i)
def sh_r (em : Nat → Nat) (s : sh_T) : sh_T := match s with
  | .inl q => .inl q
  | .inr (.inl q) => .inr (.inl (q.1, q.2.map (fun f => f.map em)))
  | .inr (.inr r) => .inr (.inr (r.map em))
abbrev emf (em : List Nat) : Nat → Nat := fun k => em.getD k 0
def emb (em : List Nat) (shc sh : List sh_T) : Prop := em.map (fun i => sh[i]?) = (shc.map (sh_r (emf em))).map some ∧ va_nd em = true
theorem mg_at (σ σ2 : sh_S) : ∀ (em : List Nat) (i k : Nat), (∃ j, em[j]? = some k ∧ mg em i σ σ2 k = σ2 (i + j)) ∨ (k ∉ em ∧ mg em i σ σ2 k = σ k)
  | [], i, k => Or.inr ⟨List.not_mem_nil, rfl⟩
  | e :: em, i, k => by
    by_cases hk : k = e
    · subst hk
      exact Or.inl ⟨0, rfl, by show ur _ k _ k = _; rw [ur_s, Nat.add_zero]⟩
    · rcases mg_at σ σ2 em (i + 1) k with ⟨j, h1, h2⟩ | ⟨h1, h2⟩
      · exact Or.inl ⟨j + 1, h1, by show ur _ e _ k = _; rw [ur_n _ _ hk, h2]; congr 1; omega⟩
      · exact Or.inr ⟨fun h => (List.mem_cons.mp h).elim hk h1, by show ur _ e _ k = _; rw [ur_n _ _ hk, h2]⟩
theorem emb_at {em : List Nat} {shc sh : List sh_T} (h : emb em shc sh) {i : Nat} {s : sh_T} (hs : shc[i]? = some s) : em[i]? = some (emf em i) ∧ sh[emf em i]? = some (sh_r (emf em) s) := by
  have h1 : (em.map (fun i => sh[i]?))[i]? = some (some (sh_r (emf em) s)) := by rw [h.1, List.getElem?_map, List.getElem?_map, hs]; rfl
  rw [List.getElem?_map] at h1
  cases he : em[i]? with
  | none => rw [he] at h1; cases h1
  | some k =>
    rw [he] at h1
    have e : emf em i = k := by show em.getD i 0 = k; rw [List.getD_eq_getElem?_getD, he]; rfl
    rw [e]
    exact ⟨rfl, Option.some.inj h1⟩
theorem emb_of {em : List Nat} {shc sh : List sh_T} (h : emb em shc sh) {i k : Nat} (hk : em[i]? = some k) : emf em i = k ∧ ∃ s, shc[i]? = some s ∧ sh[k]? = some (sh_r (emf em) s) := by
  have e : emf em i = k := by show em.getD i 0 = k; rw [List.getD_eq_getElem?_getD, hk]; rfl
  refine ⟨e, ?_⟩
  have h1 : (em.map (fun i => sh[i]?))[i]? = some (sh[k]?) := by rw [List.getElem?_map, hk]; rfl
  rw [h.1, List.getElem?_map, List.getElem?_map] at h1
  cases hs : shc[i]? with
  | none => rw [hs] at h1; cases h1
  | some s => rw [hs] at h1; exact ⟨s, rfl, (Option.some.inj h1).symm⟩
theorem sh_er (ar : Nat → ClassId) (ad em : Nat → Nat) (g : Nat → Int32) (s : sh_T) : sh_e ar (fun k => ad (em k)) g s = sh_e ar ad g (sh_r em s) := by
  rcases s with q | q | r
  · rfl
  · show Sum.inr (q.1, sh_f _ g q.2) = Sum.inr (q.1, sh_f ad g (q.2.map _))
    congr 2
    apply List.ext_getElem?
    intro i
    unfold sh_f
    rw [List.getElem?_mapIdx, List.getElem?_mapIdx, List.getElem?_map]
    cases q.2[i]? with
    | none => rfl
    | some f => cases f <;> rfl
  · have e : (fun j => (r[j]?).map (fun k => ad (em k))) = (fun j : Nat => ((r.map em)[j]?).map ad) := by
      funext j
      rw [List.getElem?_map, Option.map_map]
      rfl
    show Sum.inl (ar 2, r.length, Sum.inr (Sum.inr (Sum.inr (Sum.inr (fun j => (r[j]?).map (fun k => ad (em k))))))) = Sum.inl (ar 2, (r.map em).length, Sum.inr (Sum.inr (Sum.inr (Sum.inr (fun j => ((r.map em)[j]?).map ad)))))
    rw [List.length_map, e]
theorem sh_vr (ad em : Nat → Nat) (v : Value) : sh_v (fun k => ad (em k)) v = sh_v ad (sh_v em v) := by cases v <;> rfl
section EM
variable {D : va_G} {ar : Nat → ClassId} {ad : Nat → Nat} {em : List Nat} {shc sh : List sh_T} {σ σ2 : sh_S} {H H1 : Heap} {A : Nat → Prop}
theorem emb_P (hE : emb em shc sh) (hP : va_P D vwCl (sh_W ar ad σ sh) H) : va_P D vwCl (sh_W ar (fun k => ad (emf em k)) (rs em σ) shc) H := by
  intro i q hq
  obtain ⟨s, hs, rfl⟩ := sh_of hq
  obtain ⟨-, h2⟩ := emb_at hE hs
  have h3 := hP _ _ (sh_at h2)
  rw [sh_er]
  exact h3
theorem emb_D (hE : emb em shc sh) (hD : va_D A (sh_W ar ad σ sh)) : va_D A (sh_W ar (fun k => ad (emf em k)) (rs em σ) shc) := by
  refine ⟨fun i j p q hi hj hpq => ?_, fun k q hk => ?_⟩
  · obtain ⟨s1, a1, rfl⟩ := sh_of hi
    obtain ⟨s2, a2, rfl⟩ := sh_of hj
    obtain ⟨b1, c1⟩ := emb_at hE a1
    obtain ⟨b2, c2⟩ := emb_at hE a2
    have := hD.1 _ _ _ _ (sh_at c1) (sh_at c2) hpq
    rw [← this] at b2
    exact va_nd_inj em hE.2 i j _ b1 b2
  · obtain ⟨s1, a1, rfl⟩ := sh_of hk
    obtain ⟨b1, c1⟩ := emb_at hE a1
    have h9 := hD.2 _ _ (sh_at (ar := ar) (ad := ad) (σ := σ) c1)
    exact h9
theorem emb_A (hE : emb em shc sh) (hD : va_D A (sh_W ar ad σ sh)) (hA : ∀ q, H.size ≤ q → A q) : ∀ q, va_A (sh_W ar (fun k => ad (emf em k)) (rs em σ) shc) H.size q → A q := by
  intro q h
  rcases h with ⟨k, e, h⟩ | h
  · exact (emb_D hE hD).2 k _ h
  · exact hA q h
theorem emb_back (hE : emb em shc sh) (hP : va_P D vwCl (sh_W ar ad σ sh) H) (hD : va_D A (sh_W ar ad σ sh)) (hk : ∀ q : Nat, q < H.size → ¬ va_A (sh_W ar (fun k => ad (emf em k)) (rs em σ) shc) H.size q → H1[q]? = H[q]?)
    (hP1 : va_P D vwCl (sh_W ar (fun k => ad (emf em k)) σ2 shc) H1) : va_P D vwCl (sh_W ar ad (mg em 0 σ σ2) sh) H1 := by
  intro k q hq
  obtain ⟨s, hs, rfl⟩ := sh_of hq
  rcases mg_at σ σ2 em 0 k with ⟨j, h1, h2⟩ | ⟨h1, h2⟩
  · obtain ⟨e, s', h3, h4⟩ := emb_of hE h1
    rw [hs] at h4
    have h5 := hP1 _ _ (sh_at h3)
    rw [sh_er] at h5
    rw [h2, Nat.zero_add, Option.some.inj h4]
    rw [e] at h5
    exact h5
  · have h3 := hP k _ (sh_at hs)
    rw [h2]
    refine h3.kept (hk _ h3.lt (fun hx => ?_))
    rcases hx with ⟨i, e, hx⟩ | hx
    · obtain ⟨s', h5, h6⟩ := sh_of hx
      obtain ⟨h7, h8⟩ := emb_at hE h5
      have h9 : ad k = ad (emf em i) := congrArg Prod.fst h6
      have := hD.1 _ _ _ _ (sh_at (σ := σ) hs) (sh_at h8) h9
      rw [← this] at h7
      exact h1 (List.mem_of_getElem? h7)
    · exact absurd h3.lt (Nat.not_lt.mpr hx)
end EM
def Cq (D : va_G) (ar : Nat → ClassId) (ad : Nat → Nat) (sh : List sh_T) (wc : va_W) (sz : Nat) (r : Option Value) (σ' : sh_S) : Array Value → State → Outcome → State → Prop := fun _ st oc t => (oc = .returned (r.map (sh_v ad)) ∧ va_P D vwCl (sh_W ar ad σ' sh) t.heap) ∧ va_F (va_A wc sz) st t
def Cp (D : va_G) (ar : Nat → ClassId) (ad : Nat → Nat) (sh : List sh_T) (av : List Value) (σ : sh_S) (sz : Nat) : Array Value → State → Prop := va_Pc (av.map (sh_v ad)) (fun U => U.heap.size = sz ∧ va_P D vwCl (sh_W ar ad σ sh) U.heap ∧ va_K D vwCl (sh_t ar) U ∧ va_D (fun _ => True) (sh_W ar ad σ sh) ∧ nsOk U)
def Ctr (y : MethodName) (bytes : ByteArray) (mL : Nat) (ret : Option FieldType) (rm : Room) (sh : List sh_T) (av : List Value) (σ : sh_S) (r : Option Value) (σ' : sh_S) : Prop :=
  ∀ (l : Launch) (D : va_G) (ar : Nat → ClassId) (ad : Nat → Nat) (sz : Nat), Met l y (.code y bytes mL ret :: tb) rm (Cp D ar ad sh av σ sz) (Cq D ar ad sh (sh_W ar ad σ sh) sz r σ') 0 0 (va_A (sh_W ar ad σ sh) sz)
theorem Cp_blind {D : va_G} {ar : Nat → ClassId} {ad : Nat → Nat} {sh : List sh_T} {av : List Value} {σ : sh_S} {sz : Nat} : FrameBlind (Cp D ar ad sh av σ sz) := fun a U g mk q => by
  obtain ⟨q0, q1, qP, qK, qD, qN⟩ := q
  exact ⟨q0, q1, qP, va_K.moved (u := U) (U := U.calling g mk a) (Vm.Alike.refl U.vm) qK, qD, nsOk.same (s := U) (U := U.calling g mk a) rfl qN⟩
def CV (own : String) (idx ci : Nat) (y : MethodName) (bytes : ByteArray) (mL : Nat) (ret : Option FieldType) (n : Nat) : Prop := ∃ q : vw_C, vwCl[ci]? = some q ∧ y.cls = q.1 ∧ (y.cls ≠ "java/lang/invoke/MethodHandle" ∧ y.cls ≠ "java/lang/invoke/VarHandle" ∧ (parseMethodDescriptor y.desc).map (fun d => d.parameters.length) = some n) ∧ Cond.methodLink own idx y ∈ tb ∧ Cond.instanceMethod y ∈ tb ∧ Cond.selects y.cls y y ∈ tb ∧ Cond.initialized y.cls ∈ tb ∧ Cond.code y bytes mL ret ∈ tb
def CS (own : String) (idx : Nat) (y : MethodName) (bytes : ByteArray) (mL : Nat) (ret : Option FieldType) (n : Nat) : Prop := (y.cls ≠ "java/lang/invoke/MethodHandle" ∧ y.cls ≠ "java/lang/invoke/VarHandle" ∧ (parseMethodDescriptor y.desc).map (fun d => d.parameters.length) = some n) ∧ Cond.methodLink own idx y ∈ tb ∧ Cond.static y ∈ tb ∧ Cond.initialized y.cls ∈ tb ∧ Cond.code y bytes mL ret ∈ tb
def CN (own : String) (idx : Nat) (y : MethodName) (bytes : ByteArray) (mL : Nat) (ret : Option FieldType) (n : Nat) : Prop := (y.cls ≠ "java/lang/invoke/MethodHandle" ∧ y.cls ≠ "java/lang/invoke/VarHandle" ∧ (parseMethodDescriptor y.desc).map (fun d => d.parameters.length) = some n) ∧ (own, idx, y, RX9) ∈ nsQ ∧ Cond.static y ∈ tb ∧ Cond.initialized y.cls ∈ tb ∧ Cond.code y bytes mL ret ∈ tb
section KC
variable {G : sh_G} {cc : ByteArray} {own : String} {sh shc : List sh_T} {pc : Nat} {lv : List (Nat × Value)} {st st0 : List Value} {σ σ2 : sh_S} {em : List Nat} {y : MethodName} {bytes : ByteArray} {mL idx n ci : Nat} {ret : Option FieldType} {rm : Room} {av : List Value} {r : Option Value}
theorem k_run (h : sh_ok G cc own sh) (hE : emb em shc sh) {aa : Array Value}
    (hr : ∀ (H : Heap) (locs : List Loc) (ls : Array Slot), va_P (gD G) vwCl (sh_W (gr G) (gd G) σ sh) H → va_S (gA G) (gs G).heap H locs → ls.size = gn G →
      va_Run (gp G) (gl G) (ge G) (gR G) (gs G) (gm G) (ga G) (gb G) (gM G) (gc G) H locs (gk G) (gz G) 0 0 (F0 (gm G) pc ls (st0.map (sh_v (gd G)))) (st.map (sh_v (gd G))) (Cq (gD G) (gr G) (fun k => gd G (emf em k)) shc (sh_W (gr G) (fun k => gd G (emf em k)) (rs em σ) shc) H.size r σ2 aa) (va_A (sh_W (gr G) (fun k => gd G (emf em k)) (rs em σ) shc) H.size))
    (kk : sh_K G sh (pc + 3) lv ((r.map (sh_v (emf em))).toList ++ st) (mg em 0 σ σ2)) : sh_K G sh pc lv st0 σ := by
  intro H locs ls hP hS hl T hT X
  have hD : va_D (gA G) (sh_W (gr G) (gd G) σ sh) := sh_D h.2.2.2.2.2.2.1
  have hA : ∀ q, H.size ≤ q → gA G q := fun q hq => h.2.2.2.2.2.2.2.2.1 q (Nat.le_trans hS.1 hq)
  have hF := emb_A hE hD hA
  obtain ⟨v, st₀, t, T', L, h0, X', hL, e1, e2, ⟨⟨hv, hB⟩, hz, hk⟩, sp⟩ := hr H locs ls hP hS hl.1 T hT X
  rw [h0] at hz hk
  rw [← e1] at hz hk hB
  have hP1 := emb_back hE hP hD hk hB
  have hv2 : v = r.map (sh_v (fun k => gd G (emf em k))) := by
    injection hv
  have hst : (v.toList ++ st.map (sh_v (gd G))) = ((r.map (sh_v (emf em))).toList ++ st).map (sh_v (gd G)) := by
    rw [hv2, List.map_append]
    congr 1
    cases r with
    | none => rfl
    | some x => show [sh_v (fun k => gd G (emf em k)) x] = [sh_v (gd G) (sh_v (emf em) x)]; rw [sh_vr]
  obtain ⟨t2, a1, b1⟩ := kk T'.heap (locs ++ L) ls hP1 ⟨Nat.le_trans hS.1 hz, fun q h1 h2 => by
      rw [hk q (Nat.lt_of_lt_of_le h1 hS.1) (fun z => h2 (hF q z))]
      exact hS.2.1 q h1 h2, fun q hq => by
      rcases List.mem_append.mp hq with h | h
      · exact hS.2.2 q h
      · exact hF _ (hL q h)⟩ hl T' rfl X'
  rw [← hst] at a1
  exact ⟨t2, sp t2 a1, b1⟩
theorem k_pre (h : sh_ok G cc own sh) (hE : emb em shc sh) {H : Heap} (hP : va_P (gD G) vwCl (sh_W (gr G) (gd G) σ sh) H) (U : State) (hU : U.heap = H) (hW : (gs G).WarmedH U.vm) : Cp (gD G) (gr G) (fun k => gd G (emf em k)) shc av (rs em σ) H.size (av.map (sh_v (fun k => gd G (emf em k)))).toArray U :=
  ⟨rfl, by rw [hU], by rw [hU]; exact emb_P hE hP, va_K.moved hW.alike h.2.2.2.2.2.1, (emb_D hE (sh_D h.2.2.2.2.2.2.1)).weaken (fun _ _ _ _ => trivial), nsOk.warm hW h.2.2.2.2.2.2.2.1⟩
theorem k_fix (h : sh_ok G cc own sh) : CallFix (gp G) (gm G) (gc G) cc (gn G) (gs G) (ga G) tb own := ⟨h.1, h.2.1, h.2.2.1, h.2.2.2.1, h.2.2.2.2.1⟩
theorem k_avm (av : List Value) (em : List Nat) (ad : Nat → Nat) : av.map (sh_v (fun k => ad (emf em k))) = (av.map (sh_v (emf em))).map (sh_v ad) := by
  rw [List.map_map]
  exact List.map_congr_left (fun v _ => sh_vr ad (emf em) v)
theorem k_callS (h : sh_ok G cc own sh) (cs : CS own idx y bytes mL ret n) (hc : Ctr y bytes mL ret rm shc av (rs em σ) r σ2) (hE : emb em shc sh) (hn : av.length = n) (hst : (av.map (sh_v (emf em))).reverse ++ st = st0) (hrm : rm.cells = 0 ∧ rm.slots = 0) (hR : rm.frames + 1 ≤ (gR G).frames ∧ 8 + (mL + 11) + rm.locals ≤ (gR G).locals) (h8 : (st.map fun v => v.category).sum ≤ 8) (d : decode cc pc = .ok (.invokestatic idx, 3))
    (kk : sh_K G sh (pc + 3) lv ((r.map (sh_v (emf em))).toList ++ st) (mg em 0 σ σ2)) : sh_K G sh pc lv st0 σ := by
  obtain ⟨hd, hl, hs, hi, hco⟩ := cs
  refine k_run h hE (r := r) (aa := (av.map (sh_v (fun k => gd G (emf em k)))).toArray) (fun H locs ls hP hS hsz => ?_) kk
  have hw := h.2.2.2.2.1
  refine va_runS (As := av.map (sh_v (fun k => gd G (emf em k)))) (k_fix h) (hc (gl G) (gD G) (gr G) (fun k => gd G (emf em k)) H.size) ⟨callB_of n hw (tb_GI (fun _ z => z) hco) rfl hrm.1 hrm.2 (hw _ hi) (hw _ hl) hd hR, hw _ hs⟩ ⟨Cp_blind, fun U hU hW => k_pre h hE hP U hU hW⟩ rfl (by rw [List.length_map]; exact hn) hsz ?_ (lv_room (by rw [List.map_map]; exact (show _ = (st.map fun v => v.category).sum from congrArg List.sum (List.map_congr_left (fun v _ => sh_v_cat _ v))) ▸ h8)) d ⟨h.2.2.2.2.2.2.2.2.2.1, h.2.2.2.2.2.2.2.2.2.2⟩
  show st0.map _ = _
  rw [← hst, k_avm, List.map_append, List.map_reverse]
theorem k_callN (h : sh_ok G cc own sh) (cs : CN own idx y bytes mL ret n) (hc : Ctr y bytes mL ret rm shc av (rs em σ) r σ2) (hE : emb em shc sh) (hn : av.length = n) (hst : (av.map (sh_v (emf em))).reverse ++ st = st0) (hrm : rm.cells = 0 ∧ rm.slots = 0) (hR : rm.frames + 1 ≤ (gR G).frames ∧ 8 + (mL + 11) + rm.locals ≤ (gR G).locals) (h8 : (st.map fun v => v.category).sum ≤ 8) (d : decode cc pc = .ok (.invokestatic idx, 3))
    (kk : sh_K G sh (pc + 3) lv ((r.map (sh_v (emf em))).toList ++ st) (mg em 0 σ σ2)) : sh_K G sh pc lv st0 σ := by
  obtain ⟨hd, hl, hs, hi, hco⟩ := cs
  refine k_run h hE (r := r) (aa := (av.map (sh_v (fun k => gd G (emf em k)))).toArray) (fun H locs ls hP hS hsz => ?_) kk
  have hw := h.2.2.2.2.1
  refine va_runSN (As := av.map (sh_v (fun k => gd G (emf em k)))) (k_fix h) (hc (gl G) (gD G) (gr G) (fun k => gd G (emf em k)) H.size) ⟨va_cnB n hw (tb_GI (fun _ z => z) hco) rfl hrm.1 hrm.2 (h.2.2.2.2.2.2.2.1 _ hl) (hw _ hi) hd hR, hw _ hs, trivial⟩ ⟨Cp_blind, fun U hU hW => k_pre h hE hP U hU hW⟩ rfl (by rw [List.length_map]; exact hn) hsz ?_ (lv_room (by rw [List.map_map]; exact (show _ = (st.map fun v => v.category).sum from congrArg List.sum (List.map_congr_left (fun v _ => sh_v_cat _ v))) ▸ h8)) d ⟨h.2.2.2.2.2.2.2.2.2.1, h.2.2.2.2.2.2.2.2.2.2⟩
  show st0.map _ = _
  rw [← hst, k_avm, List.map_append, List.map_reverse]
theorem k_callV (h : sh_ok G cc own sh) (cs : CV own idx ci y bytes mL ret n) {k0 : Nat} {fs : List (Option Nat)} {as : List Value} (hc : Ctr y bytes mL ret rm shc (.ref k0 :: as) (rs em σ) r σ2) (hE : emb em shc sh) (hk : sh[emf em k0]? = some (.inr (.inl (ci, fs)))) (hn : as.length = n) (hst : (as.map (sh_v (emf em))).reverse ++ .ref (emf em k0) :: st = st0) (hrm : rm.cells = 0 ∧ rm.slots = 0) (hR : rm.frames + 1 ≤ (gR G).frames ∧ 8 + (mL + 11) + rm.locals ≤ (gR G).locals) (h8 : (st.map fun v => v.category).sum ≤ 8) (d : decode cc pc = .ok (.invokevirtual idx, 3))
    (kk : sh_K G sh (pc + 3) lv ((r.map (sh_v (emf em))).toList ++ st) (mg em 0 σ σ2)) : sh_K G sh pc lv st0 σ := by
  obtain ⟨q, hq, hy, hd, hl, hin, hse, hi, hco⟩ := cs
  refine k_run h hE (r := r) (aa := ((Value.ref (gd G (emf em k0))) :: as.map (sh_v (fun k => gd G (emf em k)))).toArray) (fun H locs ls hP hS hsz => ?_) kk
  have hw := h.2.2.2.2.1
  refine va_runV (C := y.cls) (b := gd G (emf em k0)) (As := as.map (sh_v (fun k => gd G (emf em k)))) (k_fix h) (hc (gl G) (gD G) (gr G) (fun k => gd G (emf em k)) H.size) ⟨callB_of n hw (tb_GI (fun _ z => z) hco) rfl hrm.1 hrm.2 (hw _ hi) (hw _ hl) hd hR, hw _ hin, hw _ hse⟩ ⟨Cp_blind, ?_, fun U hU hW => k_pre h hE hP U hU hW⟩ rfl (by rw [List.length_map]; exact hn) hsz ?_ (lv_room (by rw [List.map_map]; exact (show _ = (st.map fun v => v.category).sum from congrArg List.sum (List.map_congr_left (fun v _ => sh_v_cat _ v))) ▸ h8)) d ⟨h.2.2.2.2.2.2.2.2.2.1, h.2.2.2.2.2.2.2.2.2.2⟩
  · rw [hy]
    exact va_recv h.2.2.2.2.2.1 hP hq (sh_at hk)
  · show st0.map _ = _
    rw [← hst, k_avm, List.map_append, List.map_reverse]
    rfl
end KC
