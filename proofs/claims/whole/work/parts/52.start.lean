def sh_mi {α β : Type} (f : Nat → α → β) (i : Nat) (l : List α) : List β := match l with
  | [] => []
  | a :: l => f i a :: sh_mi f (i + 1) l
theorem sh_mi_get {α β : Type} (f : Nat → α → β) : ∀ (l : List α) (i j : Nat), (sh_mi f i l)[j]? = (l[j]?).map (f (i + j))
  | [], i, j => by simp [sh_mi]
  | a :: l, i, 0 => by simp [sh_mi]
  | a :: l, i, j + 1 => by
    simp only [sh_mi, List.getElem?_cons_succ]
    rw [sh_mi_get f l (i + 1) j, show i + 1 + j = i + (j + 1) by omega]
theorem sh_mi_eq {α β : Type} (f : Nat → α → β) (l : List α) : l.mapIdx f = sh_mi f 0 l := by
  apply List.ext_getElem?
  intro j
  rw [List.getElem?_mapIdx, sh_mi_get, Nat.zero_add]
def sh_eq (ar : Nat → ClassId) (ad : Nat → Nat) (g : Nat → Int32) (s : sh_T) : va_E := match s with
  | .inl q => .inl (ar q.1, q.2, .inl g)
  | .inr (.inl q) => .inr (q.1, sh_mi (sh_g ad g) 0 q.2)
  | .inr (.inr rs) => .inl (ar 2, rs.length, .inr (.inr (.inr (.inr (fun j => (rs[j]?).map ad)))))
theorem sh_eq_e (ar : Nat → ClassId) (ad : Nat → Nat) (g : Nat → Int32) (s : sh_T) : sh_e ar ad g s = sh_eq ar ad g s := by
  rcases s with q | q | r
  · rfl
  · show Sum.inr (q.1, sh_f ad g q.2) = Sum.inr (q.1, sh_mi (sh_g ad g) 0 q.2)
    unfold sh_f
    rw [sh_mi_eq]
  · rfl
theorem sh_W_mi (ar : Nat → ClassId) (ad : Nat → Nat) (σ : sh_S) (sh : List sh_T) : sh_W ar ad σ sh = sh_mi (fun k s => (ad k, sh_eq ar ad (σ k) s)) 0 sh := by
  unfold sh_W
  rw [sh_mi_eq]
  congr 1
  funext k s
  unfold sh_c
  rw [sh_eq_e]
def s0L : sh_S := fun k => match k with
  | 52 => fun j => match j with
    | 5 => -1
    | 6 => -1
    | _ => 0
  | 53 => fun j => match j with
    | 3 => -1
    | _ => 0
  | 56 => fun j => match j with
    | 13 => -1
    | 14 => -1
    | _ => 0
  | 64 => fun j => match j with
    | 1 => -1
    | _ => 0
  | 66 => fun j => match j with
    | 1 => -1
    | _ => 0
  | 68 => fun j => match j with
    | 1 => -1
    | _ => 0
  | 70 => fun j => match j with
    | 1 => -1
    | _ => 0
  | _ => fun _ => 0
def adL (b h0 h1 : Nat) (qf qg : Nat → Nat) : Nat → Nat := fun k => if k = 200 then b else ([(qf 0), (qf 1), (qf 2), (qf 3), (qf 4), (qf 5), (qf 6), (qf 7), (qf 8), (qf 9), (qf 10), (qf 11), (qf 12), (qf 13), (qf 14), (qf 15), (qf 16), (qf 17), (qf 18), (qf 19), (qf 20), (qf 21), (qf 22), (qf 23), (qf 24), (qf 25), (qf 26), (qf 27), (qf 28), (qf 29), (qf 30), (qf 32), (qf 33), (qf 34), (qf 35), (qf 36), (qf 37), (qf 38), (qf 39), (qf 40), (qf 41), (qf 42), (qf 43), (qf 44), (qf 45), (qf 46), (qf 47), (qf 48), (qf 49), (qf 50), (qf 51), (qf 52), (qf 31), (qf 53), (qf 54), (qf 55), (qf 56), (qf 57), (qf 58), (qf 59), (qf 60), (qf 61), (qf 62), (qf 63), (qf 65), (qf 66), (qf 67), (qf 68), (qf 69), (qf 70), (qf 71), (qf 72), (qf 64), h0, h1, (qg 0), (qg 1), (qg 2), (qg 3), (qg 4), (qg 5), (qg 6), (qg 7), (qg 8), (qg 9), (qg 10), (qg 11), (qg 12), (qg 13), (qg 14), (qg 15), (qg 16), (qg 17), (qg 18), (qg 19), (qg 20), (qg 21), (qg 22), (qg 23), (qg 24), (qg 25)] : List Nat).getD k 0
theorem rf4 (a b c d : Nat) : va_up (va_up (va_up (va_up (fun _ => none) 0 (some a)) 1 (some b)) 2 (some c)) 3 (some d) = (fun j => ([some a, some b, some c, some d] : List (Option Nat)).getD j none) := by
  funext j
  match j with
  | 0 => rfl
  | 1 => rfl
  | 2 => rfl
  | 3 => rfl
  | j + 4 => simp [va_up]
theorem rf5 (ad : Nat → Nat) (x y z t : Nat) : (fun j => (([x, y, z, t] : List Nat)[j]?).map ad) = (fun j => ([some (ad x), some (ad y), some (ad z), some (ad t)] : List (Option Nat)).getD j none) := by
  funext j
  match j with
  | 0 => rfl
  | 1 => rfl
  | 2 => rfl
  | 3 => rfl
  | j + 4 => simp
theorem wi_188 : Cond.instantiable RX0 5 ∈ tb := tb_of 188 (by decide +kernel) rfl
theorem wi_301 : Cond.instantiable RX1 3 ∈ tb := tb_of 301 (by decide +kernel) rfl
theorem wi_194 : Cond.instantiable RX2 9 ∈ tb := tb_of 194 (by decide +kernel) rfl
theorem wi_242 : Cond.instantiable RX3 14 ∈ tb := tb_of 242 (by decide +kernel) rfl
theorem wi_111 : Cond.instantiable RX4 10 ∈ tb := tb_of 111 (by decide +kernel) rfl
theorem wi_343 : Cond.instantiable RX5 8 ∈ tb := tb_of 343 (by decide +kernel) rfl
theorem wi_465 : Cond.instantiable RX6 3 ∈ tb := tb_of 465 (by decide +kernel) rfl
theorem wi_379 : Cond.instantiable RX7 6 ∈ tb := tb_of 379 (by decide +kernel) rfl
theorem wi_406 : Cond.instantiable RX8 16 ∈ tb := tb_of 406 (by decide +kernel) rfl
theorem wi_103 : Cond.instantiable RX9 7 ∈ tb := tb_of 103 (by decide +kernel) rfl
theorem wi_957 : Cond.instantiable RX10 36 ∈ tb := tb_of 957 (by decide +kernel) rfl
theorem ns_in : nsQ.map (fun q => Cond.methodLinkNest q.1 q.2.1 q.2.2.1 q.2.2.2) = ([112, 195, 243, 302, 466, 602, 605, 628, 746, 769, 799] : List Nat).filterMap (fun i => lw_tbl[i]?) := by decide +kernel
theorem ns_tb {q : String × Nat × MethodName × String} (h : q ∈ nsQ) : Cond.methodLinkNest q.1 q.2.1 q.2.2.1 q.2.2.2 ∈ lw_tbl := by
  have h1 : Cond.methodLinkNest q.1 q.2.1 q.2.2.1 q.2.2.2 ∈ nsQ.map (fun q => Cond.methodLinkNest q.1 q.2.1 q.2.2.1 q.2.2.2) := List.mem_map.mpr ⟨q, h, rfl⟩
  rw [ns_in] at h1
  obtain ⟨i, -, hi⟩ := List.mem_filterMap.mp h1
  exact List.mem_of_getElem? hi
theorem ao_in : Cond.arrayOver (.object RX6) ∈ lw_tbl := List.mem_of_getElem? (i := 464) (by decide +kernel)
theorem wl_88 : Cond.initialized RX9 ∈ tb := tb_of 88 (by decide +kernel) rfl
theorem wl_98 : Cond.initialized RX10 ∈ tb := tb_of 98 (by decide +kernel) rfl
theorem wl_102 : Cond.classLink RL 7 RX9 ∈ tb := tb_of 102 (by decide +kernel) rfl
theorem wl_104 : Cond.methodLink RL 9 yX9_init ∈ tb := tb_of 104 (by decide +kernel) rfl
theorem wl_105 : Cond.instanceMethod yX9_init ∈ tb := tb_of 105 (by decide +kernel) rfl
theorem wl_106 : Cond.code yX9_init cX9_init 2 none ∈ tb := tb_of 106 (by decide +kernel) rfl
theorem wl_956 : Cond.classLink RL 10 RX10 ∈ tb := tb_of 956 (by decide +kernel) rfl
theorem wl_958 : Cond.methodLink RL 12 yX10_init ∈ tb := tb_of 958 (by decide +kernel) rfl
theorem wl_959 : Cond.instanceMethod yX10_init ∈ tb := tb_of 959 (by decide +kernel) rfl
theorem wl_960 : Cond.code yX10_init cX10_init 1 none ∈ tb := tb_of 960 (by decide +kernel) rfl
/-! THE CLAIM OUT OF ONE WALK OF THE LAW'S BODY. Your part is whole_start (and what it stands on); all else here is the same for every law, but numbers. -/
def R_law : String := "LoanPointsLaw"
def lw_P (b : Addr) (xs : List Int32) (args : Array Value) (s : State) : Prop := args = #[.ref b] ∧ s.IntsAt b xs ∧ xs.length ≤ 3072 ∧ (Jvm.Cond.and given_1 narrow_1).before args s = true
def lw_Q (_ : Array Value) (s : State) (o : Outcome) (t : State) : Prop := o = .returned (some (.int 1)) ∧ Framed s o t [] 600000 7302250
def lw_Z (below : List Frame) (a : Array Value) (s : State) : State → Prop := fun t => ∃ o, t.status = .running ∧ Ended t below o ∧ lw_Q a s o t
/-- the law's own end, with 1 on the stack, nothing written that was there before, its room as the claim has it -/
theorem lw_ret {p : Program} {l : Launch} {e : Env} {s : State} {m : MethodId} {below : List Frame} {meth : Method} {c : Code} {b : Nat} (hx : p.tables.exec = Jvm.exec) (hb : c.code = code) (hr : meth.sig.returnType = ret) (hlocks : meth.locks = false) {pc : Nat} {H : Heap} {ls : Array Slot} (hdg : decode code pc = .ok (.ireturn, 1)) : W p l e room_1 s m #[Value.ref b] below meth c H [] 600000 7302250 (lw_Z below #[Value.ref b] s) (F0 m pc ls [.int 1]) := by
  intro T hT X
  obtain ⟨fs, hret, hrun, hended, hW, hframe⟩ := X.leave (v := some (.int 1)) (hlocks := hlocks) (fun h => by rw [hr] at h; cases h)
  have hmeth' : T.vm.method? m = some meth := X.method'
  refine ⟨T.setFrames fs, ?_, .returned (some (.int 1)), hrun, hended, rfl, ⟨_, rfl⟩, hW, hframe⟩
  jvm_step X.here [X.here.top, hx, hb, hdg, hmeth', hr, ret, narrow_b1]
  (try refine ⟨rfl, ?_⟩); (try refine ⟨rfl, ?_⟩)
  first | (intro acts; rw [hret _ acts rfl rfl rfl]) | rw [hret _ _ rfl rfl rfl]
  exact Steps.refl _
/-- what holds at the law's entry: the machine, the code, the tables' words (any of lw_tbl by 'hts w (by decide +kernel)'), the script of L ints xs at the cell b, what the Statement gives of the start (any of its parts by flat_of_before) -/
def lw_At (p : Program) (s : State) (m : MethodId) (meth : Method) (c : Code) (b L : Nat) (xs : Nat → Int32) : Prop :=
  p.tables.exec = Jvm.exec ∧ c.code = code ∧ meth.sig.returnType = ret ∧ c.maxLocals = 4 ∧ s.vm.findClass R_law = some m.cls ∧ (∀ w ∈ lw_tbl, w.before #[Value.ref b] s = true) ∧ va_X b L xs s s.heap ∧ b < s.heap.size ∧ meth.locks = false ∧ (Jvm.Cond.and given_1 narrow_1).before #[Value.ref b] s = true
