
def tb : List Cond := lw_tbl.filter goodWord
theorem tb_of {w : Cond} (i : Nat) (h : lw_tbl[i]? = some w) (g : goodWord w = true) : w ∈ tb := List.mem_filter.mpr ⟨List.mem_of_getElem? h, g⟩
theorem tb_in {w : Cond} (h : w ∈ tb) : w ∈ lw_tbl := (List.mem_filter.mp h).1
theorem tb_good {w : Cond} (h : w ∈ tb) : goodWord w = true := (List.mem_filter.mp h).2
theorem tb_GI {big : List Cond} {y : MethodName} {bytes : ByteArray} {n : Nat} {ret : Option FieldType} (hb : ∀ w ∈ tb, w ∈ big) (hy : Cond.code y bytes n ret ∈ tb) : GoodIn big (Cond.code y bytes n ret :: tb) := by
  intro w hw
  have h1 : w ∈ tb := by
    rcases List.mem_cons.mp hw with h | h
    · rw [h]; exact hy
    · exact h
  exact ⟨hb w h1, good_of_word (tb_good h1)⟩
def nsQ : List (String × Nat × MethodName × String) := [(RX9, 11, yX4_init, RX9), (RX0, 15, yX2_init, RX9), (RX0, 22, yX3_init, RX9), (RX0, 29, yX1_init, RX9), (RX9, 58, yX6_init, RX9), (RX2, 53, yX9_hasBit, RX9), (RX2, 57, yX9_bitOf, RX9), (RX3, 64, yX9_hasBit, RX9), (RX1, 91, yX9_hasBit, RX9), (RX7, 95, yX9_hasBit, RX9), (RX5, 79, yX9_hasBit, RX9)]
def nsOk (U : State) : Prop := ∀ q ∈ nsQ, va_Nw (.methodLinkNest q.1 q.2.1 q.2.2.1 q.2.2.2) U
theorem nsOk.warm {s U : State} (hW : s.WarmedH U.vm) (h : nsOk s) : nsOk U := fun q hq => va_Nw.warmM hW (h q hq)
theorem nsOk.same {s U : State} (hv : s.vm = U.vm) (h : nsOk s) : nsOk U := fun q hq => va_Nw.same rfl hv (h q hq)
abbrev sh_S : Type := Nat → Nat → Int32
abbrev sh_T : Type := (Nat × Nat) ⊕ (Nat × List (Option Nat)) ⊕ (List Nat)
def sh_v (ad : Nat → Nat) (v : Value) : Value := match v with
  | .ref k => .ref (ad k)
  | w => w
theorem sh_v_cat (ad : Nat → Nat) (v : Value) : (sh_v ad v).category = v.category := by cases v <;> rfl
def sh_p (ad : Nat → Nat) (q : Nat × Value) : Nat × Value := (q.1, sh_v ad q.2)
def sh_g (ad : Nat → Nat) (g : Nat → Int32) (j : Nat) (f : Option Nat) : Value := match f with
  | none => .int (g j)
  | some k => .ref (ad k)
def sh_f (ad : Nat → Nat) (g : Nat → Int32) (fs : List (Option Nat)) : List Value := fs.mapIdx (sh_g ad g)
def sh_e (ar : Nat → ClassId) (ad : Nat → Nat) (g : Nat → Int32) (s : sh_T) : va_E := match s with
  | .inl q => .inl (ar q.1, q.2, .inl g)
  | .inr (.inl q) => .inr (q.1, sh_f ad g q.2)
  | .inr (.inr rs) => .inl (ar 2, rs.length, .inr (.inr (.inr (.inr (fun j => (rs[j]?).map ad)))))
def sh_c (ar : Nat → ClassId) (ad : Nat → Nat) (σ : sh_S) (k : Nat) (s : sh_T) : Nat × va_E := (ad k, sh_e ar ad (σ k) s)
def sh_W (ar : Nat → ClassId) (ad : Nat → Nat) (σ : sh_S) (sh : List sh_T) : va_W := sh.mapIdx (sh_c ar ad σ)
theorem sh_get {ar : Nat → ClassId} {ad : Nat → Nat} {σ : sh_S} {sh : List sh_T} (k : Nat) : (sh_W ar ad σ sh)[k]? = (sh[k]?).map (fun s => (ad k, sh_e ar ad (σ k) s)) := by
  unfold sh_W
  rw [List.getElem?_mapIdx]
  rfl
theorem sh_at {ar : Nat → ClassId} {ad : Nat → Nat} {σ : sh_S} {sh : List sh_T} {k : Nat} {s : sh_T} (h : sh[k]? = some s) : (sh_W ar ad σ sh)[k]? = some (ad k, sh_e ar ad (σ k) s) := by rw [sh_get, h]; rfl
theorem sh_of {ar : Nat → ClassId} {ad : Nat → Nat} {σ : sh_S} {sh : List sh_T} {k : Nat} {q : Nat × va_E} (h : (sh_W ar ad σ sh)[k]? = some q) : ∃ s, sh[k]? = some s ∧ q = (ad k, sh_e ar ad (σ k) s) := by
  rw [sh_get] at h
  cases hs : sh[k]? with
  | none => rw [hs] at h; cases h
  | some s => rw [hs] at h; exact ⟨s, rfl, (Option.some.inj h).symm⟩
theorem sh_D {ar : Nat → ClassId} {ad : Nat → Nat} {σ σ' : sh_S} {sh : List sh_T} {A : Nat → Prop} (h : va_D A (sh_W ar ad σ sh)) : va_D A (sh_W ar ad σ' sh) := by
  refine ⟨fun i j p q hi hj hpq => ?_, fun k q hk => ?_⟩
  · obtain ⟨s1, a1, rfl⟩ := sh_of hi
    obtain ⟨s2, a2, rfl⟩ := sh_of hj
    exact h.1 i j _ _ (sh_at a1) (sh_at a2) hpq
  · obtain ⟨s1, a1, rfl⟩ := sh_of hk
    exact h.2 k (ad k, sh_e ar ad (σ k) s1) (sh_at a1)
def ur (σ : sh_S) (k : Nat) (g : Nat → Int32) : sh_S := fun k' => if k' = k then g else σ k'
theorem ur_s (σ : sh_S) (k : Nat) (g : Nat → Int32) : ur σ k g k = g := by simp [ur]
theorem ur_n (σ : sh_S) {k k' : Nat} (g : Nat → Int32) (h : k' ≠ k) : ur σ k g k' = σ k' := by simp [ur, h]
theorem sh_set {ar : Nat → ClassId} {ad : Nat → Nat} {σ : sh_S} {sh : List sh_T} {k : Nat} {s : sh_T} (g : Nat → Int32) (h : sh[k]? = some s) : (sh_W ar ad σ sh).set k (ad k, sh_e ar ad g s) = sh_W ar ad (ur σ k g) sh := by
  apply List.ext_getElem?
  intro i
  have hl : k < (sh_W ar ad σ sh).length := (List.getElem?_eq_some_iff.mp (sh_at (ar := ar) (ad := ad) (σ := σ) h)).1
  by_cases hi : i = k
  · subst hi
    rw [List.getElem?_set_self hl, sh_get, h, ur_s]; rfl
  · rw [List.getElem?_set_ne (Ne.symm hi), sh_get, sh_get, ur_n _ _ hi]
theorem sh_fset {ad : Nat → Nat} {g : Nat → Int32} {fs : List (Option Nat)} {j : Nat} (v : Int32) (h : fs[j]? = some none) : (sh_f ad g fs).set j (.int v) = sh_f ad (upd g j v) fs := by
  apply List.ext_getElem?
  intro i
  have hl : j < (sh_f ad g fs).length := by
    unfold sh_f
    rw [List.length_mapIdx]
    exact (List.getElem?_eq_some_iff.mp h).1
  by_cases hi : i = j
  · subst hi
    rw [List.getElem?_set_self hl]
    unfold sh_f
    rw [List.getElem?_mapIdx, h]
    simp [sh_g, upd]
  · rw [List.getElem?_set_ne (Ne.symm hi)]
    unfold sh_f
    rw [List.getElem?_mapIdx, List.getElem?_mapIdx]
    cases hf : fs[i]? with
    | none => rfl
    | some f =>
      cases f with
      | none => simp [sh_g, upd, hi]
      | some k => simp [sh_g]
theorem sh_fget {ad : Nat → Nat} {g : Nat → Int32} {fs : List (Option Nat)} {j : Nat} {f : Option Nat} (h : fs[j]? = some f) : (sh_f ad g fs)[j]? = some (sh_g ad g j f) := by
  unfold sh_f
  rw [List.getElem?_mapIdx, h]; rfl
def sh_t (ar : Nat → ClassId) : List (ClassId × FieldType) := [(ar 0, .int), (ar 1, .boolean), (ar 2, .object RX6)]
abbrev sh_G : Type := Program × Launch × Env × Room × State × MethodId × Array Value × List Frame × Method × Code × (State → Prop) × va_G × (Nat → ClassId) × (Nat → Nat) × (Nat → Prop) × Nat × Nat × Nat
abbrev gp (G : sh_G) : Program := G.1
abbrev gl (G : sh_G) : Launch := G.2.1
abbrev ge (G : sh_G) : Env := G.2.2.1
abbrev gR (G : sh_G) : Room := G.2.2.2.1
abbrev gs (G : sh_G) : State := G.2.2.2.2.1
abbrev gm (G : sh_G) : MethodId := G.2.2.2.2.2.1
abbrev ga (G : sh_G) : Array Value := G.2.2.2.2.2.2.1
abbrev gb (G : sh_G) : List Frame := G.2.2.2.2.2.2.2.1
abbrev gM (G : sh_G) : Method := G.2.2.2.2.2.2.2.2.1
abbrev gc (G : sh_G) : Code := G.2.2.2.2.2.2.2.2.2.1
abbrev gQ (G : sh_G) : State → Prop := G.2.2.2.2.2.2.2.2.2.2.1
abbrev gD (G : sh_G) : va_G := G.2.2.2.2.2.2.2.2.2.2.2.1
abbrev gr (G : sh_G) : Nat → ClassId := G.2.2.2.2.2.2.2.2.2.2.2.2.1
abbrev gd (G : sh_G) : Nat → Nat := G.2.2.2.2.2.2.2.2.2.2.2.2.2.1
abbrev gA (G : sh_G) : Nat → Prop := G.2.2.2.2.2.2.2.2.2.2.2.2.2.2.1
abbrev gn (G : sh_G) : Nat := G.2.2.2.2.2.2.2.2.2.2.2.2.2.2.2.1
abbrev gk (G : sh_G) : Nat := G.2.2.2.2.2.2.2.2.2.2.2.2.2.2.2.2.1
abbrev gz (G : sh_G) : Nat := G.2.2.2.2.2.2.2.2.2.2.2.2.2.2.2.2.2
def sh_K (G : sh_G) (sh : List sh_T) (pc : Nat) (lv : List (Nat × Value)) (st : List Value) (σ : sh_S) : Prop :=
  ∀ (H : Heap) (locs : List Loc) (ls : Array Slot), va_P (gD G) vwCl (sh_W (gr G) (gd G) σ sh) H → va_S (gA G) (gs G).heap H locs → lv_has ls (gn G) (lv.map (sh_p (gd G))) →
    W (gp G) (gl G) (ge G) (gR G) (gs G) (gm G) (ga G) (gb G) (gM G) (gc G) H locs (gk G) (gz G) (gQ G) (F0 (gm G) pc ls (st.map (sh_v (gd G))))
def sh_ok (G : sh_G) (cc : ByteArray) (own : String) (sh : List sh_T) : Prop :=
  (gp G).tables.exec = Jvm.exec ∧ (gc G).code = cc ∧ (gc G).maxLocals = gn G ∧ (gs G).vm.findClass own = some (gm G).cls ∧ (∀ w ∈ tb, w.before (ga G) (gs G) = true) ∧ va_K (gD G) vwCl (sh_t (gr G)) (gs G) ∧ va_D (gA G) (sh_W (gr G) (gd G) (fun _ _ => 0) sh) ∧ nsOk (gs G) ∧ (∀ q, (gs G).heap.size ≤ q → gA G q) ∧ gk G ≤ (gR G).cells ∧ gz G ≤ (gR G).slots
def sh_ins (a : Nat × Value) (l : List (Nat × Value)) : List (Nat × Value) := match l with
  | [] => [a]
  | b :: r => if a.1 < b.1 then a :: b :: r else b :: sh_ins a r
theorem sh_ins_mem {a q : Nat × Value} : ∀ {l : List (Nat × Value)}, q ∈ sh_ins a l → q = a ∨ q ∈ l
  | [], h => Or.inl (List.mem_singleton.mp h)
  | b :: r, h => by
    unfold sh_ins at h
    split at h
    · rcases List.mem_cons.mp h with h | h
      · exact Or.inl h
      · exact Or.inr h
    · rcases List.mem_cons.mp h with h | h
      · exact Or.inr (by rw [h]; exact List.mem_cons_self)
      · rcases sh_ins_mem h with h | h
        · exact Or.inl h
        · exact Or.inr (List.mem_cons_of_mem _ h)
def sh_cl (i : Nat) (q : Nat × Value) : Bool := !(q.1 == i) && !(q.1 + 1 == i && q.2.category == 2)
def sh_cm (i : Nat) (q : Nat × Value) : Bool := !(q.1 == i) && (!(q.1 == i + 1) && !(q.1 + 1 == i && q.2.category == 2))
theorem sh_ins_has {ad : Nat → Nat} {ls : Array Slot} {n i : Nat} {v : Value} {lv lv' : List (Nat × Value)} {f : Nat × Value → Bool} (hf : ∀ q, f (sh_p ad q) = f q) (h : lv_has ls n ((i, sh_v ad v) :: (lv.map (sh_p ad)).filter f)) (hl : sh_ins (i, v) (lv.filter f) = lv') : lv_has ls n (lv'.map (sh_p ad)) := by
  refine ⟨h.1, h.2.1, fun q hq => ?_⟩
  obtain ⟨q0, h0, rfl⟩ := List.mem_map.mp hq
  rw [← hl] at h0
  rcases sh_ins_mem h0 with rfl | h1
  · exact h.2.2 _ List.mem_cons_self
  · obtain ⟨h2, h3⟩ := List.mem_filter.mp h1
    exact h.2.2 _ (List.mem_cons_of_mem _ (List.mem_filter.mpr ⟨List.mem_map.mpr ⟨q0, h2, rfl⟩, by rw [hf]; exact h3⟩))
theorem sh_cl_p (ad : Nat → Nat) (i : Nat) (q : Nat × Value) : sh_cl i (sh_p ad q) = sh_cl i q := by unfold sh_cl sh_p; rw [sh_v_cat]
theorem sh_cm_p (ad : Nat → Nat) (i : Nat) (q : Nat × Value) : sh_cm i (sh_p ad q) = sh_cm i q := by unfold sh_cm sh_p; rw [sh_v_cat]
theorem sh_lv {ad : Nat → Nat} {ls : Array Slot} {n : Nat} {lv : List (Nat × Value)} (h : lv_has ls n (lv.map (sh_p ad))) (k : Nat) {i : Nat} {v : Value} (hk : lv[k]? = some (i, v)) : ls[i]? = some (.val (sh_v ad v)) := by
  refine lv_at h k ?_
  rw [List.getElem?_map, hk]; rfl

section KR
variable {G : sh_G} {cc : ByteArray} {own : String} {sh : List sh_T} {pc : Nat} {lv lv' : List (Nat × Value)} {st : List Value} {σ σ' : sh_S}
theorem k_iconst (h : sh_ok G cc own sh) {n : Int} {v : Int32} (d : decode cc pc = .ok (.iconst n, 1)) (hv : Int32.ofInt n = v) (k : sh_K G sh (pc + 1) lv (.int v :: st) σ) : sh_K G sh pc lv (st) σ := fun H locs ls hP hS hl => lv_iconst h.1 h.2.1 d hv (k H locs ls hP hS hl)
theorem k_bipush (h : sh_ok G cc own sh) {n : Int} {v : Int32} (d : decode cc pc = .ok (.bipush n, 2)) (hv : (Int8.ofInt n).toInt32 = v) (k : sh_K G sh (pc + 2) lv (.int v :: st) σ) : sh_K G sh pc lv (st) σ := fun H locs ls hP hS hl => lv_bipush h.1 h.2.1 d hv (k H locs ls hP hS hl)
theorem k_sipush (h : sh_ok G cc own sh) {n : Int} {v : Int32} (d : decode cc pc = .ok (.sipush n, 3)) (hv : (Int16.ofInt n).toInt32 = v) (k : sh_K G sh (pc + 3) lv (.int v :: st) σ) : sh_K G sh pc lv (st) σ := fun H locs ls hP hS hl => lv_sipush h.1 h.2.1 d hv (k H locs ls hP hS hl)
theorem k_iadd (h : sh_ok G cc own sh) {x y : Int32} (d : decode cc pc = .ok (.iadd, 1))  (k : sh_K G sh (pc + 1) lv (.int (x + y) :: st) σ) : sh_K G sh pc lv (.int y :: .int x :: st) σ := fun H locs ls hP hS hl => lv_iadd h.1 h.2.1 d  (k H locs ls hP hS hl)
theorem k_isub (h : sh_ok G cc own sh) {x y : Int32} (d : decode cc pc = .ok (.isub, 1))  (k : sh_K G sh (pc + 1) lv (.int (x - y) :: st) σ) : sh_K G sh pc lv (.int y :: .int x :: st) σ := fun H locs ls hP hS hl => lv_isub h.1 h.2.1 d  (k H locs ls hP hS hl)
theorem k_imul (h : sh_ok G cc own sh) {x y : Int32} (d : decode cc pc = .ok (.imul, 1))  (k : sh_K G sh (pc + 1) lv (.int (x * y) :: st) σ) : sh_K G sh pc lv (.int y :: .int x :: st) σ := fun H locs ls hP hS hl => lv_imul h.1 h.2.1 d  (k H locs ls hP hS hl)
theorem k_iand (h : sh_ok G cc own sh) {x y : Int32} (d : decode cc pc = .ok (.iand, 1))  (k : sh_K G sh (pc + 1) lv (.int (x &&& y) :: st) σ) : sh_K G sh pc lv (.int y :: .int x :: st) σ := fun H locs ls hP hS hl => lv_iand h.1 h.2.1 d  (k H locs ls hP hS hl)
theorem k_ior (h : sh_ok G cc own sh) {x y : Int32} (d : decode cc pc = .ok (.ior, 1))  (k : sh_K G sh (pc + 1) lv (.int (x ||| y) :: st) σ) : sh_K G sh pc lv (.int y :: .int x :: st) σ := fun H locs ls hP hS hl => lv_ior h.1 h.2.1 d  (k H locs ls hP hS hl)
theorem k_ixor (h : sh_ok G cc own sh) {x y : Int32} (d : decode cc pc = .ok (.ixor, 1))  (k : sh_K G sh (pc + 1) lv (.int (x ^^^ y) :: st) σ) : sh_K G sh pc lv (.int y :: .int x :: st) σ := fun H locs ls hP hS hl => lv_ixor h.1 h.2.1 d  (k H locs ls hP hS hl)
theorem k_ishl (h : sh_ok G cc own sh) {x y : Int32} (d : decode cc pc = .ok (.ishl, 1))  (k : sh_K G sh (pc + 1) lv (.int (x <<< (y &&& 31)) :: st) σ) : sh_K G sh pc lv (.int y :: .int x :: st) σ := fun H locs ls hP hS hl => lv_ishl h.1 h.2.1 d  (k H locs ls hP hS hl)
theorem k_ishr (h : sh_ok G cc own sh) {x y : Int32} (d : decode cc pc = .ok (.ishr, 1))  (k : sh_K G sh (pc + 1) lv (.int (x >>> (y &&& 31)) :: st) σ) : sh_K G sh pc lv (.int y :: .int x :: st) σ := fun H locs ls hP hS hl => lv_ishr h.1 h.2.1 d  (k H locs ls hP hS hl)
theorem k_idiv (h : sh_ok G cc own sh) {x y : Int32} (d : decode cc pc = .ok (.idiv, 1)) (hne : ¬ y = 0) (k : sh_K G sh (pc + 1) lv (.int (x / y) :: st) σ) : sh_K G sh pc lv (.int y :: .int x :: st) σ := fun H locs ls hP hS hl => lv_idiv h.1 h.2.1 d hne (k H locs ls hP hS hl)
theorem k_irem (h : sh_ok G cc own sh) {x y : Int32} (d : decode cc pc = .ok (.irem, 1)) (hne : ¬ y = 0) (k : sh_K G sh (pc + 1) lv (.int (x - x / y * y) :: st) σ) : sh_K G sh pc lv (.int y :: .int x :: st) σ := fun H locs ls hP hS hl => lv_irem h.1 h.2.1 d hne (k H locs ls hP hS hl)
theorem k_iushr (h : sh_ok G cc own sh) {x y : Int32} (d : decode cc pc = .ok (.iushr, 1))  (k : sh_K G sh (pc + 1) lv (.int ((x.toUInt32 >>> (y.toUInt32 &&& Int32.toUInt32 31)).toInt32) :: st) σ) : sh_K G sh pc lv (.int y :: .int x :: st) σ := fun H locs ls hP hS hl => lv_iushr h.1 h.2.1 d rfl (k H locs ls hP hS hl)
theorem k_ladd (h : sh_ok G cc own sh) {x y : Int64} (d : decode cc pc = .ok (.ladd, 1))  (k : sh_K G sh (pc + 1) lv (.long (x + y) :: st) σ) : sh_K G sh pc lv (.long y :: .long x :: st) σ := fun H locs ls hP hS hl => lv_ladd h.1 h.2.1 d  (k H locs ls hP hS hl)
theorem k_lmul (h : sh_ok G cc own sh) {x y : Int64} (d : decode cc pc = .ok (.lmul, 1))  (k : sh_K G sh (pc + 1) lv (.long (x * y) :: st) σ) : sh_K G sh pc lv (.long y :: .long x :: st) σ := fun H locs ls hP hS hl => lv_lmul h.1 h.2.1 d  (k H locs ls hP hS hl)
theorem k_lcmp (h : sh_ok G cc own sh) {x y : Int64} (d : decode cc pc = .ok (.lcmp, 1))  (k : sh_K G sh (pc + 1) lv (.int (lg_cmp x y) :: st) σ) : sh_K G sh pc lv (.long y :: .long x :: st) σ := fun H locs ls hP hS hl => W.lcmp h.1 h.2.1 d  (k H locs ls hP hS hl)
theorem k_i2l (h : sh_ok G cc own sh) {x : Int32} (d : decode cc pc = .ok (.i2l, 1))  (k : sh_K G sh (pc + 1) lv (.long x.toInt64 :: st) σ) : sh_K G sh pc lv (.int x :: st) σ := fun H locs ls hP hS hl => lv_i2l h.1 h.2.1 d rfl (k H locs ls hP hS hl)
theorem k_i2b (h : sh_ok G cc own sh) {x : Int32} (d : decode cc pc = .ok (.i2b, 1))  (k : sh_K G sh (pc + 1) lv (.int x.toInt8.toInt32 :: st) σ) : sh_K G sh pc lv (.int x :: st) σ := fun H locs ls hP hS hl => lv_i2b h.1 h.2.1 d rfl (k H locs ls hP hS hl)
theorem k_i2s (h : sh_ok G cc own sh) {x : Int32} (d : decode cc pc = .ok (.i2s, 1))  (k : sh_K G sh (pc + 1) lv (.int x.toInt16.toInt32 :: st) σ) : sh_K G sh pc lv (.int x :: st) σ := fun H locs ls hP hS hl => lv_i2s h.1 h.2.1 d rfl (k H locs ls hP hS hl)
theorem k_dup (h : sh_ok G cc own sh) {va : Value} (d : decode cc pc = .ok (.dup, 1)) (hc : va.category = 1) (k : sh_K G sh (pc + 1) lv (va :: va :: st) σ) : sh_K G sh pc lv (va :: st) σ := fun H locs ls hP hS hl => lv_dup h.1 h.2.1 d ((sh_v_cat _ _).trans hc) (k H locs ls hP hS hl)
theorem k_dup2 (h : sh_ok G cc own sh) {va vb : Value} (d : decode cc pc = .ok (.dup2, 1)) (hc : va.category = 1) (hc2 : vb.category = 1) (k : sh_K G sh (pc + 1) lv (va :: vb :: va :: vb :: st) σ) : sh_K G sh pc lv (va :: vb :: st) σ := fun H locs ls hP hS hl => lv_dup2_11 h.1 h.2.1 d ((sh_v_cat _ _).trans hc) ((sh_v_cat _ _).trans hc2) (k H locs ls hP hS hl)
theorem k_pop (h : sh_ok G cc own sh) {va : Value} (d : decode cc pc = .ok (.pop, 1)) (hc : va.category = 1) (k : sh_K G sh (pc + 1) lv st σ) : sh_K G sh pc lv (va :: st) σ := fun H locs ls hP hS hl => lv_pop h.1 h.2.1 d ((sh_v_cat _ _).trans hc) (k H locs ls hP hS hl)
theorem k_iload_n (h : sh_ok G cc own sh) {n : Fin 4} {i : Nat} {x : Int32} (d : decode cc pc = .ok (.iload_n n, 1)) (hi : (n : Nat) = i) (q : Nat) (hq : lv[q]? = some (i, .int x)) (k : sh_K G sh (pc + 1) lv (.int x :: st) σ) : sh_K G sh pc lv st σ := fun H locs ls hP hS hl => lv_iload_n h.1 h.2.1 d hi (sh_lv hl q hq) (k H locs ls hP hS hl)
theorem k_iload (h : sh_ok G cc own sh) {i : Nat} {x : Int32} (d : decode cc pc = .ok (.iload i, 2)) (q : Nat) (hq : lv[q]? = some (i, .int x)) (k : sh_K G sh (pc + 2) lv (.int x :: st) σ) : sh_K G sh pc lv st σ := fun H locs ls hP hS hl => lv_iload h.1 h.2.1 d (sh_lv hl q hq) (k H locs ls hP hS hl)
theorem k_lload_n (h : sh_ok G cc own sh) {n : Fin 4} {i : Nat} {x : Int64} (d : decode cc pc = .ok (.lload_n n, 1)) (hi : (n : Nat) = i) (q : Nat) (hq : lv[q]? = some (i, .long x)) (k : sh_K G sh (pc + 1) lv (.long x :: st) σ) : sh_K G sh pc lv st σ := fun H locs ls hP hS hl => lv_lload_n h.1 h.2.1 d hi (sh_lv hl q hq) (k H locs ls hP hS hl)
theorem k_lload (h : sh_ok G cc own sh) {i : Nat} {x : Int64} (d : decode cc pc = .ok (.lload i, 2)) (q : Nat) (hq : lv[q]? = some (i, .long x)) (k : sh_K G sh (pc + 2) lv (.long x :: st) σ) : sh_K G sh pc lv st σ := fun H locs ls hP hS hl => lv_lload h.1 h.2.1 d (sh_lv hl q hq) (k H locs ls hP hS hl)
theorem k_aload_n (h : sh_ok G cc own sh) {n : Fin 4} {i : Nat} {x : Nat} (d : decode cc pc = .ok (.aload_n n, 1)) (hi : (n : Nat) = i) (q : Nat) (hq : lv[q]? = some (i, .ref x)) (k : sh_K G sh (pc + 1) lv (.ref x :: st) σ) : sh_K G sh pc lv st σ := fun H locs ls hP hS hl => lv_aload_n h.1 h.2.1 d hi (sh_lv hl q hq) (k H locs ls hP hS hl)
theorem k_aload (h : sh_ok G cc own sh) {i : Nat} {x : Nat} (d : decode cc pc = .ok (.aload i, 2)) (q : Nat) (hq : lv[q]? = some (i, .ref x)) (k : sh_K G sh (pc + 2) lv (.ref x :: st) σ) : sh_K G sh pc lv st σ := fun H locs ls hP hS hl => lv_aload h.1 h.2.1 d (sh_lv hl q hq) (k H locs ls hP hS hl)
theorem k_istore_n (h : sh_ok G cc own sh) {n : Fin 4} {i : Nat} {x : Int32} (d : decode cc pc = .ok (.istore_n n, 1)) (hi : (n : Nat) = i) (hn : i < gn G) (hl2 : sh_ins (i, .int x) (lv.filter (sh_cl i)) = lv') (k : sh_K G sh (pc + 1) lv' st σ) : sh_K G sh pc lv (.int x :: st) σ := fun H locs ls hP hS hl => lv_istore_n h.1 h.2.1 d hi hl hn rfl (fun ls' hl' => k H locs ls' hP hS (sh_ins_has (sh_cl_p _ i) hl' hl2))
theorem k_istore (h : sh_ok G cc own sh) {i : Nat} {x : Int32} (d : decode cc pc = .ok (.istore i, 2)) (hn : i < gn G) (hl2 : sh_ins (i, .int x) (lv.filter (sh_cl i)) = lv') (k : sh_K G sh (pc + 2) lv' st σ) : sh_K G sh pc lv (.int x :: st) σ := fun H locs ls hP hS hl => lv_istore h.1 h.2.1 d hl hn rfl (fun ls' hl' => k H locs ls' hP hS (sh_ins_has (sh_cl_p _ i) hl' hl2))
theorem k_astore_n (h : sh_ok G cc own sh) {n : Fin 4} {i : Nat} {x : Nat} (d : decode cc pc = .ok (.astore_n n, 1)) (hi : (n : Nat) = i) (hn : i < gn G) (hl2 : sh_ins (i, .ref x) (lv.filter (sh_cl i)) = lv') (k : sh_K G sh (pc + 1) lv' st σ) : sh_K G sh pc lv (.ref x :: st) σ := fun H locs ls hP hS hl => lv_astore_n h.1 h.2.1 d hi hl hn rfl (fun ls' hl' => k H locs ls' hP hS (sh_ins_has (sh_cl_p _ i) hl' hl2))
theorem k_astore (h : sh_ok G cc own sh) {i : Nat} {x : Nat} (d : decode cc pc = .ok (.astore i, 2)) (hn : i < gn G) (hl2 : sh_ins (i, .ref x) (lv.filter (sh_cl i)) = lv') (k : sh_K G sh (pc + 2) lv' st σ) : sh_K G sh pc lv (.ref x :: st) σ := fun H locs ls hP hS hl => lv_astore h.1 h.2.1 d hl hn rfl (fun ls' hl' => k H locs ls' hP hS (sh_ins_has (sh_cl_p _ i) hl' hl2))
theorem k_lstore_n (h : sh_ok G cc own sh) {n : Fin 4} {i : Nat} {x : Int64} (d : decode cc pc = .ok (.lstore_n n, 1)) (hi : (n : Nat) = i) (hn : i + 1 < gn G) (hl2 : sh_ins (i, .long x) (lv.filter (sh_cm i)) = lv') (k : sh_K G sh (pc + 1) lv' st σ) : sh_K G sh pc lv (.long x :: st) σ := fun H locs ls hP hS hl => lv_lstore_n h.1 h.2.1 d hi hl hn rfl (fun ls' hl' => k H locs ls' hP hS (sh_ins_has (sh_cm_p _ i) hl' hl2))
theorem k_lstore (h : sh_ok G cc own sh) {i : Nat} {x : Int64} (d : decode cc pc = .ok (.lstore i, 2)) (hn : i + 1 < gn G) (hl2 : sh_ins (i, .long x) (lv.filter (sh_cm i)) = lv') (k : sh_K G sh (pc + 2) lv' st σ) : sh_K G sh pc lv (.long x :: st) σ := fun H locs ls hP hS hl => lv_lstore h.1 h.2.1 d hl hn rfl (fun ls' hl' => k H locs ls' hP hS (sh_ins_has (sh_cm_p _ i) hl' hl2))
theorem k_iinc (h : sh_ok G cc own sh) {i : Nat} {n : Int} {x v : Int32} (d : decode cc pc = .ok (.iinc i n, 3)) (q : Nat) (hq : lv[q]? = some (i, .int x)) (hv : x + Int32.ofInt n = v) (hn : i < gn G) (hl2 : sh_ins (i, .int v) (lv.filter (sh_cl i)) = lv') (k : sh_K G sh (pc + 3) lv' st σ) : sh_K G sh pc lv st σ := fun H locs ls hP hS hl => lv_iinc (k := q) h.1 h.2.1 d hl (by rw [List.getElem?_map, hq]; rfl) hv hn rfl (fun ls' hl' => k H locs ls' hP hS (sh_ins_has (sh_cl_p _ i) hl' hl2))
theorem k_if_eq (h : sh_ok G cc own sh) {x : Int32} {off : Int} {tgt : Nat} (d : decode cc pc = .ok (.ifCond .eq off, 3)) (ht : (pc : Int) + off = (tgt : Int)) (kt : x = 0 → sh_K G sh tgt lv st σ) (kf : ¬ x = 0 → sh_K G sh (pc + 3) lv st σ) : sh_K G sh pc lv (.int x :: st) σ := fun H locs ls hP hS hl => lv_if_eq h.1 h.2.1 d ht (fun e => kt e H locs ls hP hS hl) (fun e => kf e H locs ls hP hS hl)
theorem k_icmp_eq (h : sh_ok G cc own sh) {x y : Int32} {off : Int} {tgt : Nat} (d : decode cc pc = .ok (.if_icmp .eq off, 3)) (ht : (pc : Int) + off = (tgt : Int)) (kt : x = y → sh_K G sh tgt lv st σ) (kf : ¬ x = y → sh_K G sh (pc + 3) lv st σ) : sh_K G sh pc lv (.int y :: .int x :: st) σ := fun H locs ls hP hS hl => lv_icmp_eq h.1 h.2.1 d ht (fun e => kt e H locs ls hP hS hl) (fun e => kf e H locs ls hP hS hl)
theorem k_if_ne (h : sh_ok G cc own sh) {x : Int32} {off : Int} {tgt : Nat} (d : decode cc pc = .ok (.ifCond .ne off, 3)) (ht : (pc : Int) + off = (tgt : Int)) (kt : ¬ x = 0 → sh_K G sh tgt lv st σ) (kf : x = 0 → sh_K G sh (pc + 3) lv st σ) : sh_K G sh pc lv (.int x :: st) σ := fun H locs ls hP hS hl => lv_if_ne h.1 h.2.1 d ht (fun e => kt e H locs ls hP hS hl) (fun e => kf e H locs ls hP hS hl)
theorem k_icmp_ne (h : sh_ok G cc own sh) {x y : Int32} {off : Int} {tgt : Nat} (d : decode cc pc = .ok (.if_icmp .ne off, 3)) (ht : (pc : Int) + off = (tgt : Int)) (kt : ¬ x = y → sh_K G sh tgt lv st σ) (kf : x = y → sh_K G sh (pc + 3) lv st σ) : sh_K G sh pc lv (.int y :: .int x :: st) σ := fun H locs ls hP hS hl => lv_icmp_ne h.1 h.2.1 d ht (fun e => kt e H locs ls hP hS hl) (fun e => kf e H locs ls hP hS hl)
theorem k_if_lt (h : sh_ok G cc own sh) {x : Int32} {off : Int} {tgt : Nat} (d : decode cc pc = .ok (.ifCond .lt off, 3)) (ht : (pc : Int) + off = (tgt : Int)) (kt : x < 0 → sh_K G sh tgt lv st σ) (kf : ¬ x < 0 → sh_K G sh (pc + 3) lv st σ) : sh_K G sh pc lv (.int x :: st) σ := fun H locs ls hP hS hl => lv_if_lt h.1 h.2.1 d ht (fun e => kt e H locs ls hP hS hl) (fun e => kf e H locs ls hP hS hl)
theorem k_icmp_lt (h : sh_ok G cc own sh) {x y : Int32} {off : Int} {tgt : Nat} (d : decode cc pc = .ok (.if_icmp .lt off, 3)) (ht : (pc : Int) + off = (tgt : Int)) (kt : x < y → sh_K G sh tgt lv st σ) (kf : ¬ x < y → sh_K G sh (pc + 3) lv st σ) : sh_K G sh pc lv (.int y :: .int x :: st) σ := fun H locs ls hP hS hl => lv_icmp_lt h.1 h.2.1 d ht (fun e => kt e H locs ls hP hS hl) (fun e => kf e H locs ls hP hS hl)
theorem k_if_ge (h : sh_ok G cc own sh) {x : Int32} {off : Int} {tgt : Nat} (d : decode cc pc = .ok (.ifCond .ge off, 3)) (ht : (pc : Int) + off = (tgt : Int)) (kt : 0 ≤ x → sh_K G sh tgt lv st σ) (kf : ¬ 0 ≤ x → sh_K G sh (pc + 3) lv st σ) : sh_K G sh pc lv (.int x :: st) σ := fun H locs ls hP hS hl => lv_if_ge h.1 h.2.1 d ht (fun e => kt e H locs ls hP hS hl) (fun e => kf e H locs ls hP hS hl)
theorem k_icmp_ge (h : sh_ok G cc own sh) {x y : Int32} {off : Int} {tgt : Nat} (d : decode cc pc = .ok (.if_icmp .ge off, 3)) (ht : (pc : Int) + off = (tgt : Int)) (kt : y ≤ x → sh_K G sh tgt lv st σ) (kf : ¬ y ≤ x → sh_K G sh (pc + 3) lv st σ) : sh_K G sh pc lv (.int y :: .int x :: st) σ := fun H locs ls hP hS hl => lv_icmp_ge h.1 h.2.1 d ht (fun e => kt e H locs ls hP hS hl) (fun e => kf e H locs ls hP hS hl)
theorem k_if_gt (h : sh_ok G cc own sh) {x : Int32} {off : Int} {tgt : Nat} (d : decode cc pc = .ok (.ifCond .gt off, 3)) (ht : (pc : Int) + off = (tgt : Int)) (kt : 0 < x → sh_K G sh tgt lv st σ) (kf : ¬ 0 < x → sh_K G sh (pc + 3) lv st σ) : sh_K G sh pc lv (.int x :: st) σ := fun H locs ls hP hS hl => lv_if_gt h.1 h.2.1 d ht (fun e => kt e H locs ls hP hS hl) (fun e => kf e H locs ls hP hS hl)
theorem k_icmp_gt (h : sh_ok G cc own sh) {x y : Int32} {off : Int} {tgt : Nat} (d : decode cc pc = .ok (.if_icmp .gt off, 3)) (ht : (pc : Int) + off = (tgt : Int)) (kt : y < x → sh_K G sh tgt lv st σ) (kf : ¬ y < x → sh_K G sh (pc + 3) lv st σ) : sh_K G sh pc lv (.int y :: .int x :: st) σ := fun H locs ls hP hS hl => lv_icmp_gt h.1 h.2.1 d ht (fun e => kt e H locs ls hP hS hl) (fun e => kf e H locs ls hP hS hl)
theorem k_if_le (h : sh_ok G cc own sh) {x : Int32} {off : Int} {tgt : Nat} (d : decode cc pc = .ok (.ifCond .le off, 3)) (ht : (pc : Int) + off = (tgt : Int)) (kt : x ≤ 0 → sh_K G sh tgt lv st σ) (kf : ¬ x ≤ 0 → sh_K G sh (pc + 3) lv st σ) : sh_K G sh pc lv (.int x :: st) σ := fun H locs ls hP hS hl => lv_if_le h.1 h.2.1 d ht (fun e => kt e H locs ls hP hS hl) (fun e => kf e H locs ls hP hS hl)
theorem k_icmp_le (h : sh_ok G cc own sh) {x y : Int32} {off : Int} {tgt : Nat} (d : decode cc pc = .ok (.if_icmp .le off, 3)) (ht : (pc : Int) + off = (tgt : Int)) (kt : x ≤ y → sh_K G sh tgt lv st σ) (kf : ¬ x ≤ y → sh_K G sh (pc + 3) lv st σ) : sh_K G sh pc lv (.int y :: .int x :: st) σ := fun H locs ls hP hS hl => lv_icmp_le h.1 h.2.1 d ht (fun e => kt e H locs ls hP hS hl) (fun e => kf e H locs ls hP hS hl)
theorem k_goto (h : sh_ok G cc own sh) {off : Int} {tgt : Nat} (d : decode cc pc = .ok (.goto off, 3)) (ht : (pc : Int) + off = (tgt : Int)) (k : sh_K G sh tgt lv st σ) : sh_K G sh pc lv st σ := fun H locs ls hP hS hl => lv_goto h.1 h.2.1 d ht (k H locs ls hP hS hl)
theorem k_tabIn (h : sh_ok G cc own sh) {dflt lo hi : Int} {offs : Array Int} {len : Nat} {x : Int32} {off : Int} {tgt : Nat} (d : decode cc pc = .ok (.tableswitch dflt lo hi offs, len)) (h1 : ¬ x.toInt < lo) (h2 : ¬ hi < x.toInt) (ho : offs[(x.toInt - lo).toNat]? = some off) (ht : (pc : Int) + off = (tgt : Int)) (k : sh_K G sh tgt lv st σ) : sh_K G sh pc lv (.int x :: st) σ := fun H locs ls hP hS hl => lv_tableIn h.1 h.2.1 d h1 h2 ho ht (k H locs ls hP hS hl)
theorem k_tabOut (h : sh_ok G cc own sh) {dflt lo hi : Int} {offs : Array Int} {len : Nat} {x : Int32} {tgt : Nat} (d : decode cc pc = .ok (.tableswitch dflt lo hi offs, len)) (hx : x.toInt < lo ∨ hi < x.toInt) (ht : (pc : Int) + dflt = (tgt : Int)) (k : sh_K G sh tgt lv st σ) : sh_K G sh pc lv (.int x :: st) σ := fun H locs ls hP hS hl => lv_tableOut h.1 h.2.1 d hx ht (k H locs ls hP hS hl)
theorem k_ldc (h : sh_ok G cc own sh) {idx : Nat} {v : Int32} (d : decode cc pc = .ok (.ldc idx, 2)) (hw : Cond.constant own idx v ∈ tb) (k : sh_K G sh (pc + 2) lv (.int v :: st) σ) : sh_K G sh pc lv st σ := fun H locs ls hP hS hl => lv_ldc h.1 h.2.1 h.2.2.2.1 (h.2.2.2.2.1 _ hw) d (k H locs ls hP hS hl)
theorem k_ldcw (h : sh_ok G cc own sh) {idx : Nat} {v : Int32} (d : decode cc pc = .ok (.ldc_w idx, 3)) (hw : Cond.constant own idx v ∈ tb) (k : sh_K G sh (pc + 3) lv (.int v :: st) σ) : sh_K G sh pc lv st σ := fun H locs ls hP hS hl => lv_ldcw h.1 h.2.1 h.2.2.2.1 (h.2.2.2.2.1 _ hw) d (k H locs ls hP hS hl)
theorem k_ldc2 (h : sh_ok G cc own sh) {idx : Nat} {v : Int64} (d : decode cc pc = .ok (.ldc2_w idx, 3)) (hw : Cond.constantLong own idx v ∈ tb) (k : sh_K G sh (pc + 3) lv (.long v :: st) σ) : sh_K G sh pc lv st σ := fun H locs ls hP hS hl => lv_ldc2 h.1 h.2.1 h.2.2.2.1 (h.2.2.2.2.1 _ hw) d (k H locs ls hP hS hl)

def FL (own : String) (idx ci j : Nat) : Prop := ∃ q : vw_C, vwCl[ci]? = some q ∧ j < q.2.2 ∧ (∀ w ∈ u_ws q.1 q.2.1 q.2.2, w ∈ tb) ∧ Cond.fieldLink own idx (q.2.1 j).1 (q.2.1 j).2.1 (q.2.1 j).2.2.1 ∈ tb
def FP (ci j : Nat) (ty : FieldType) : Prop := ∃ (q : vw_C) (ty0 : Nat → FieldType), vwCl[ci]? = some q ∧ (∀ k, k < q.2.2 → parseFieldDescriptor (q.2.1 k).2.2.1 = some (ty0 k)) ∧ (∀ a, a < q.2.2 → ∀ b, b < q.2.2 → a ≠ b → (q.2.1 a).2.1 ≠ (q.2.1 b).2.1) ∧ (q.2.1 j).2.2.2 = false ∧ parseFieldDescriptor (q.2.1 j).2.2.1 = some ty
theorem k_get (h : sh_ok G cc own sh) {idx ci j k : Nat} {fs : List (Option Nat)} {f : Option Nat} {v : Value} (fl : FL own idx ci j) (hs : sh[k]? = some (.inr (.inl (ci, fs)))) (hf : fs[j]? = some f) (hv : ∀ ad : Nat → Nat, sh_v ad v = sh_g ad (σ k) j f) (d : decode cc pc = .ok (.getfield idx, 3)) (kk : sh_K G sh (pc + 3) lv (v :: st) σ) : sh_K G sh pc lv (.ref k :: st) σ := by
  intro H locs ls hP hS hl
  obtain ⟨⟨C, T, N⟩, hc, hj, hin, hlink⟩ := fl
  have hk := kk H locs ls hP hS hl
  have e : List.map (sh_v (gd G)) (v :: st) = sh_g (gd G) (σ k) j f :: st.map (sh_v (gd G)) := by rw [List.map_cons, hv]
  rw [e] at hk
  exact va_get h.1 h.2.1 h.2.2.2.2.1 hin h.2.2.2.1 h.2.2.2.2.2.1 hP k (sh_at hs) hc j hj (h.2.2.2.2.1 _ hlink) (fun _ z => z) (sh_fget hf) d hk
theorem k_getI (h : sh_ok G cc own sh) {idx ci j k : Nat} {fs : List (Option Nat)} (fl : FL own idx ci j) (hs : sh[k]? = some (.inr (.inl (ci, fs)))) (hf : fs[j]? = some none) (d : decode cc pc = .ok (.getfield idx, 3)) (kk : sh_K G sh (pc + 3) lv (.int (σ k j) :: st) σ) : sh_K G sh pc lv (.ref k :: st) σ := k_get h fl hs hf (fun _ => rfl) d kk
theorem k_getR (h : sh_ok G cc own sh) {idx ci j k k' : Nat} {fs : List (Option Nat)} (fl : FL own idx ci j) (hs : sh[k]? = some (.inr (.inl (ci, fs)))) (hf : fs[j]? = some (some k')) (d : decode cc pc = .ok (.getfield idx, 3)) (kk : sh_K G sh (pc + 3) lv (.ref k' :: st) σ) : sh_K G sh pc lv (.ref k :: st) σ := k_get h fl hs hf (fun _ => rfl) d kk
theorem k_put (h : sh_ok G cc own sh) {idx ci j k : Nat} {fs : List (Option Nat)} {x : Int32} {ty : FieldType} (fl : FL own idx ci j) (fp : FP ci j ty) (hs : sh[k]? = some (.inr (.inl (ci, fs)))) (hf : fs[j]? = some none) (hn : narrow ty (.int x) = .int x) (hft : fits ty (.int x) = true) (d : decode cc pc = .ok (.putfield idx, 3)) (kk : sh_K G sh (pc + 3) lv st (ur σ k (upd (σ k) j x))) : sh_K G sh pc lv (.int x :: .ref k :: st) σ := by
  intro H locs ls hP hS hl
  obtain ⟨⟨C, T, N⟩, hc, hj, hin, hlink⟩ := fl
  obtain ⟨q, ty0, hc2, hty, hnm, hfin, hd⟩ := fp
  cases hc.symm.trans hc2
  have hlen : j < (sh_f (gd G) (σ k) fs).length := by
    unfold sh_f; rw [List.length_mapIdx]; exact (List.getElem?_eq_some_iff.mp hf).1
  refine va_put h.1 h.2.1 h.2.2.2.2.1 hin ty0 hty hnm h.2.2.2.1 h.2.2.2.2.2.1 hP (sh_D h.2.2.2.2.2.2.1) hS k (sh_at hs) hc j hj (h.2.2.2.2.1 _ hlink) (fun _ z => z) hfin hd hn hft hlen d (fun H1 locs1 hP1 _ hS1 => ?_)
  have e : (sh_W (gr G) (gd G) σ sh).set k (gd G k, .inr (ci, (sh_f (gd G) (σ k) fs).set j (.int x))) = sh_W (gr G) (gd G) (ur σ k (upd (σ k) j x)) sh := by
    rw [sh_fset x hf]
    exact sh_set (upd (σ k) j x) hs
  have hP2 : va_P (gD G) vwCl ((sh_W (gr G) (gd G) σ sh).set k (gd G k, .inr (ci, (sh_f (gd G) (σ k) fs).set j (.int x)))) H1 := hP1
  rw [e] at hP2
  exact kk H1 locs1 ls hP2 hS1 hl
abbrev inb (i : Int32) (n : Nat) : Prop := ¬ (i < 0 ∨ n ≤ i.toNatClampNeg)
abbrev ix (i : Int32) : Nat := i.toNatClampNeg
theorem k_iald (h : sh_ok G cc own sh) {k n : Nat} {i : Int32} (hs : sh[k]? = some (.inl (0, n))) (hin : inb i n) (d : decode cc pc = .ok (.iaload, 1)) (kk : sh_K G sh (pc + 1) lv (.int (σ k (ix i)) :: st) σ) : sh_K G sh pc lv (.int i :: .ref k :: st) σ :=
  fun H locs ls hP hS hl => va_iald h.1 h.2.1 h.2.2.2.2.2.1 hP k 0 (sh_at hs) rfl hin d (kk H locs ls hP hS hl)
theorem k_zald (h : sh_ok G cc own sh) {k n : Nat} {i : Int32} (hs : sh[k]? = some (.inl (1, n))) (hin : inb i n) (d : decode cc pc = .ok (.baload, 1)) (kk : sh_K G sh (pc + 1) lv (.int (σ k (ix i)) :: st) σ) : sh_K G sh pc lv (.int i :: .ref k :: st) σ :=
  fun H locs ls hP hS hl => va_zald h.1 h.2.1 h.2.2.2.2.2.1 hP k 1 (sh_at hs) rfl hin d (kk H locs ls hP hS hl)
theorem k_iast (h : sh_ok G cc own sh) {k n : Nat} {i x : Int32} (hs : sh[k]? = some (.inl (0, n))) (hin : inb i n) (d : decode cc pc = .ok (.iastore, 1)) (kk : sh_K G sh (pc + 1) lv st (ur σ k (upd (σ k) (ix i) x))) : sh_K G sh pc lv (.int x :: .int i :: .ref k :: st) σ := by
  intro H locs ls hP hS hl
  refine va_iast h.1 h.2.1 h.2.2.2.2.2.1 hP (sh_D h.2.2.2.2.2.2.1) hS k 0 (sh_at hs) rfl hin d (fun H1 locs1 hP1 _ hS1 => ?_)
  have e := sh_set (ar := gr G) (ad := gd G) (σ := σ) (upd (σ k) (ix i) x) hs
  exact kk H1 locs1 ls (e ▸ hP1) hS1 hl
def nz (x : Int32) : Int32 := vp_nar .boolean x
theorem k_zast (h : sh_ok G cc own sh) {k n : Nat} {i x : Int32} (hs : sh[k]? = some (.inl (1, n))) (hin : inb i n) (d : decode cc pc = .ok (.bastore, 1)) (kk : sh_K G sh (pc + 1) lv st (ur σ k (upd (σ k) (ix i) (nz x)))) : sh_K G sh pc lv (.int x :: .int i :: .ref k :: st) σ := by
  intro H locs ls hP hS hl
  refine va_zast h.1 h.2.1 h.2.2.2.2.2.1 hP (sh_D h.2.2.2.2.2.2.1) hS k 1 (sh_at hs) rfl hin d (fun H1 locs1 hP1 _ hS1 => ?_)
  have e := sh_set (ar := gr G) (ad := gd G) (σ := σ) (upd (σ k) (ix i) (nz x)) hs
  exact kk H1 locs1 ls (e ▸ hP1) hS1 hl
theorem k_aald (h : sh_ok G cc own sh) {k k' : Nat} {rs : List Nat} {i : Int32} (hs : sh[k]? = some (.inr (.inr rs))) (hin : inb i rs.length) (hr : rs[ix i]? = some k') (d : decode cc pc = .ok (.aaload, 1)) (kk : sh_K G sh (pc + 1) lv (.ref k' :: st) σ) : sh_K G sh pc lv (.int i :: .ref k :: st) σ := by
  intro H locs ls hP hS hl
  refine va_aldq (C := RX6) h.1 h.2.1 h.2.2.2.2.2.1 hP k 2 (sh_at hs) rfl hin d ?_
  have hk := kk H locs ls hP hS hl
  have e : va_rf ((rs[i.toNatClampNeg]?).map (gd G)) = .ref (gd G k') := by
    rw [show rs[i.toNatClampNeg]? = some k' from hr]; rfl
  show W _ _ _ _ _ _ _ _ _ _ _ _ _ _ _ (F0 _ _ _ (va_rf ((rs[i.toNatClampNeg]?).map (gd G)) :: _))
  rw [e]
  exact hk
theorem k_drop (ks : List Nat) (hl2 : lv_pick lv ks = lv') (kk : sh_K G sh pc lv' st σ) : sh_K G sh pc lv st σ := by
  intro H locs ls hP hS hl
  refine kk H locs ls hP hS (lv_sub hl ks ?_)
  rw [← hl2]
  unfold lv_pick
  rw [List.map_filterMap]
  congr 1
  funext i
  rw [List.getElem?_map]
theorem k_top {x y : Int32} (e : y = x) (kk : sh_K G sh pc lv (.int y :: st) σ) : sh_K G sh pc lv (.int x :: st) σ := e ▸ kk
theorem k_topl {x y : Int64} (e : y = x) (kk : sh_K G sh pc lv (.long y :: st) σ) : sh_K G sh pc lv (.long x :: st) σ := e ▸ kk
theorem k_heap {σ1 σ2 : sh_S} (e : σ2 = σ1) (kk : sh_K G sh pc lv st σ2) : sh_K G sh pc lv st σ1 := e ▸ kk
theorem k_at {pc' : Nat} (e : pc' = pc) (kk : sh_K G sh pc' lv st σ) : sh_K G sh pc lv st σ := e ▸ kk
end KR

