def fl (f : Bf) (n : Nat) : Nat := match n with
  | 0 => 0
  | n + 1 => if fl f n < n then fl f n else if f n then n else n + 1
theorem fl_le (f : Bf) : ∀ n, fl f n ≤ n
  | 0 => Nat.le_refl _
  | n + 1 => by
    have := fl_le f n
    unfold fl
    split
    · omega
    · split <;> omega
theorem fl_min (f : Bf) : ∀ n j, j < fl f n → f j = false
  | 0, j, h => by unfold fl at h; omega
  | n + 1, j, h => by
    have hl := fl_le f n
    unfold fl at h
    split at h
    · exact fl_min f n j h
    · split at h
      · exact fl_min f n j (by omega)
      · rename_i h1 h2
        by_cases e : j = n
        · subst e; simpa using h2
        · exact fl_min f n j (by omega)
theorem fl_at (f : Bf) : ∀ n, fl f n < n → f (fl f n) = true
  | 0, h => by omega
  | n + 1, h => by
    have hl := fl_le f n
    unfold fl at h ⊢
    split
    · rename_i h1; exact fl_at f n h1
    · split
      · assumption
      · rename_i h1 h2
        rw [if_neg h1, if_neg h2] at h
        omega
theorem fl_of (f : Bf) {n j : Nat} (hj : f j = true) : fl f n ≤ j := by
  apply Nat.le_of_not_lt
  intro h
  rw [fl_min f n j h] at hj
  cases hj
def FD (P : Pg) (Q : Bf) : Bf → Bf := fun f k => decide (k < pn P) && (Q k && ex (pn P) (fun t => nx P k t && f t))
def TD (P : Pg) (G Q : Bf) (j : Nat) : Bf := itr (FD P Q) (fun k => decide (k < pn P) && G k) j
def dl (P : Pg) (G Q : Bf) (k : Nat) : Nat := fl (fun j => TD P G Q j k) 25
theorem FD_mon (P : Pg) (Q : Bf) : Mon (FD P Q) (pn P) := by
  intro f g h x hx e
  simp only [FD, Bool.and_eq_true, decide_eq_true_eq] at e ⊢
  refine ⟨hx, e.2.1, ex_mon (fun t ht e3 => ?_) e.2.2⟩
  simp only [Bool.and_eq_true] at e3 ⊢
  exact ⟨e3.1, h t ht e3.2⟩
section DD
variable {P : Pg} {G Q : Bf}
theorem TD_lt {j k : Nat} (h : TD P G Q j k = true) : k < pn P := itr_lt (fun f x hx => by simp only [FD, Bool.and_eq_true, decide_eq_true_eq] at hx; exact hx.1) (fun x hx => by simp only [Bool.and_eq_true, decide_eq_true_eq] at hx; exact hx.1) j k h
theorem TD_up {j k : Nat} (h : TD P G Q j k = true) : TD P G Q (j + 1) k = true := by
  show (TD P G Q j k || _) = true
  rw [h]; rfl
theorem TD_le {i j k : Nat} (hij : i ≤ j) (h : TD P G Q i k = true) : TD P G Q j k = true := by
  induction hij with
  | refl => exact h
  | step _ ih => exact TD_up ih
theorem TD_step {j k t : Nat} (hk : k < pn P) (hq : Q k = true) (hx : nx P k t = true) (h : TD P G Q j t = true) : TD P G Q (j + 1) k = true := by
  show (TD P G Q j k || FD P Q (TD P G Q j) k) = true
  have : FD P Q (TD P G Q j) k = true := by
    simp only [FD, Bool.and_eq_true, decide_eq_true_eq]
    exact ⟨hk, hq, ex_iff.mpr ⟨t, nx_lt hx, by simp [hx, h]⟩⟩
  rw [this]; simp
theorem TD_inv {j k : Nat} (h : TD P G Q (j + 1) k = true) : TD P G Q j k = true ∨ (k < pn P ∧ Q k = true ∧ ∃ t, nx P k t = true ∧ TD P G Q j t = true) := by
  have h' : (TD P G Q j k || FD P Q (TD P G Q j) k) = true := h
  rcases Bool.or_eq_true _ _ |>.mp h' with h | h
  · exact Or.inl h
  · simp only [FD, Bool.and_eq_true, decide_eq_true_eq] at h
    obtain ⟨t, ht, hz⟩ := ex_iff.mp h.2.2
    simp only [Bool.and_eq_true] at hz
    exact Or.inr ⟨h.1, h.2.1, t, hz⟩
theorem TD_n {j k : Nat} (h : TD P G Q j k = true) : TD P G Q (pn P) k = true := by
  have hl := TD_lt h
  exact itr_le (FD_mon P Q) (lfp_cl (FD_mon P Q)) j k hl h
theorem dl_of {j k : Nat} (h : TD P G Q j k = true) : dl P G Q k ≤ j := fl_of (fun j => TD P G Q j k) h
theorem dl_fin {j k : Nat} (hn : pn P ≤ 24) (h : TD P G Q j k = true) : dl P G Q k ≤ pn P := dl_of (TD_n h)
theorem dl_at {k : Nat} (h : dl P G Q k < 25) : TD P G Q (dl P G Q k) k = true := fl_at (fun j => TD P G Q j k) 25 h
theorem dl_zero {k : Nat} (hk : k < pn P) (hg : G k = true) : dl P G Q k = 0 := Nat.le_zero.mp (dl_of (j := 0) (by show (decide (k < pn P) && G k) = true; simp [hk, hg]))
theorem dl_z {k : Nat} (h : dl P G Q k = 0) : G k = true := by
  have := dl_at (P := P) (G := G) (Q := Q) (k := k) (by omega)
  rw [h] at this
  have t : (decide (k < pn P) && G k) = true := this
  simp only [Bool.and_eq_true] at t
  exact t.2
theorem dl_succ {j k : Nat} (h : dl P G Q k = j + 1) (hj : j + 1 < 25) : k < pn P ∧ Q k = true ∧ ∃ t, nx P k t = true ∧ dl P G Q t = j := by
  have ha := dl_at (P := P) (G := G) (Q := Q) (k := k) (by omega)
  rw [h] at ha
  rcases TD_inv ha with h1 | ⟨h1, h2, t, h3, h4⟩
  · have := dl_of h1; omega
  · refine ⟨h1, h2, t, h3, ?_⟩
    have a := dl_of h4
    have b := dl_of (G := G) (TD_step h1 h2 h3 (dl_at (by omega)))
    omega
def nrl (P : Pg) (I : Nat) (D : Nat → Nat) (k j : Nat) : Option Nat := match j with
  | 0 => none
  | j + 1 => if nx P k j = true ∧ D j < I then (match nrl P I D k j with
    | none => some j
    | some c => if D j < D c then some j else some c) else nrl P I D k j
theorem nrl_none {I : Nat} {D : Nat → Nat} {k : Nat} : ∀ {j : Nat}, nrl P I D k j = none → ∀ x, x < j → nx P k x = true → ¬ D x < I
  | 0, _, x, hx, _ => by omega
  | j + 1, h, x, hx, hn => by
    unfold nrl at h
    split at h
    · cases hm : nrl P I D k j with
      | none => rw [hm] at h; cases h
      | some c =>
        rw [hm] at h
        simp only at h
        split at h <;> cases h
    · rename_i hc
      by_cases e : x = j
      · subst e; exact fun q => hc ⟨hn, q⟩
      · exact nrl_none h x (by omega) hn
theorem nrl_some {I : Nat} {D : Nat → Nat} {k : Nat} : ∀ {j c : Nat}, nrl P I D k j = some c → c < j ∧ nx P k c = true ∧ D c < I ∧ (∀ x, x < j → nx P k x = true → D x < I → D c ≤ D x) ∧ ∀ x, x < c → nx P k x = true → D x < I → D c < D x
  | 0, c, h => by cases h
  | j + 1, c, h => by
    unfold nrl at h
    split at h
    · rename_i hc
      cases hm : nrl P I D k j with
      | none =>
        rw [hm] at h
        cases h
        have hno := nrl_none hm
        exact ⟨by omega, hc.1, hc.2, fun x hx hn hd => by
          by_cases e : x = j
          · subst e; exact Nat.le_refl _
          · exact absurd hd (hno x (by omega) hn), fun x hx hn hd => absurd hd (hno x hx hn)⟩
      | some b =>
        rw [hm] at h
        obtain ⟨i1, i2, i3, i4, i5⟩ := nrl_some hm
        simp only at h
        split at h
        · rename_i hlt
          cases h
          exact ⟨by omega, hc.1, hc.2, fun x hx hn hd => by
            by_cases e : x = j
            · subst e; exact Nat.le_refl _
            · have := i4 x (by omega) hn hd; omega, fun x hx hn hd => by
            have := i4 x hx hn hd; omega⟩
        · rename_i hlt
          cases h
          exact ⟨by omega, i2, i3, fun x hx hn hd => by
            by_cases e : x = j
            · subst e; omega
            · exact i4 x (by omega) hn hd, i5⟩
    · rename_i hc
      obtain ⟨i1, i2, i3, i4, i5⟩ := nrl_some h
      exact ⟨by omega, i2, i3, fun x hx hn hd => by
        by_cases e : x = j
        · subst e; exact absurd ⟨hn, hd⟩ hc
        · exact i4 x (by omega) hn hd, i5⟩
/-- the nearest is what these words say -/
theorem nrl_uniq {I : Nat} {D : Nat → Nat} {k j c : Nat} (h1 : c < j) (h2 : nx P k c = true) (h3 : D c < I) (h4 : ∀ x, x < j → nx P k x = true → D x < I → D c < D x ∨ (D c = D x ∧ c ≤ x)) : nrl P I D k j = some c := by
  cases hm : nrl P I D k j with
  | none => exact absurd h3 (nrl_none hm c h1 h2)
  | some b =>
    obtain ⟨i1, i2, i3, i4, i5⟩ := nrl_some hm
    have a := i4 c h1 h2 h3
    have q := h4 b i1 i2 i3
    have e : c = b := by
      apply Classical.byContradiction
      intro ne
      rcases q with q | ⟨q1, q2⟩
      · omega
      · have := i5 c (by omega) h2 h3
        omega
    rw [e]
theorem nrl_ext {I J : Nat} {D E : Nat → Nat} {k : Nat} : ∀ {j : Nat}, (∀ x, x < j → (D x < I ↔ E x < J) ∧ (D x < I → D x = E x)) → nrl P I D k j = nrl P J E k j
  | 0, _ => rfl
  | j + 1, h => by
    have ih := nrl_ext (k := k) (fun x (hx : x < j) => h x (by omega))
    obtain ⟨a, b⟩ := h j (by omega)
    unfold nrl
    rw [ih]
    by_cases c : nx P k j = true ∧ D j < I
    · rw [if_pos c, if_pos ⟨c.1, a.mp c.2⟩]
      cases hm : nrl P J E k j with
      | none => rfl
      | some d =>
        obtain ⟨d1, d2, d3, -, -⟩ := nrl_some hm
        obtain ⟨p, q⟩ := h d (by omega)
        simp only
        rw [b c.2, q (p.mpr d3)]
    · rw [if_neg c, if_neg (fun z => c ⟨z.1, a.mpr z.2⟩)]
def dst (P : Pg) (I : Nat) (Q : Bf) (D : Nat → Nat) (k : Nat) : Nat → Nat := fun x => if x = k then (match nrl P I D k (pn P) with
  | none => D k
  | some c => if Q k = true ∧ D c + 1 < D k then D c + 1 else D k) else D x
def DJ (P : Pg) (I : Nat) (G Q : Bf) (D : Nat → Nat) (r : Nat) (K : Nat → Prop) : Prop :=
  (∀ k, k < pn P → D k = I ∨ (D k < I ∧ TD P G Q (D k) k = true)) ∧ (∀ k, k < pn P → G k = true → D k = 0) ∧ ∀ k, k < pn P → (dl P G Q k ≤ r ∨ (dl P G Q k ≤ r + 1 ∧ K k)) → dl P G Q k < 25 → D k = dl P G Q k
theorem DJ.step {I r k : Nat} {D : Nat → Nat} {K : Nat → Prop} (hI : 25 ≤ I) (hk : k < pn P) (h : DJ P I G Q D r K) : DJ P I G Q (dst P I Q D k) r (fun x => K x ∨ x = k) := by
  obtain ⟨h1, h2, h3⟩ := h
  have low : ∀ x, x < pn P → D x < I → dl P G Q x ≤ D x := fun x hx hd => by
    rcases h1 x hx with e | ⟨-, e⟩
    · omega
    · exact dl_of e
  have keep : ∀ x, x ≠ k → dst P I Q D k x = D x := fun x hx => by unfold dst; rw [if_neg hx]
  have at_k : dst P I Q D k k = D k ∨ ∃ c, nrl P I D k (pn P) = some c ∧ Q k = true ∧ D c + 1 < D k ∧ dst P I Q D k k = D c + 1 := by
    unfold dst
    rw [if_pos rfl]
    cases hm : nrl P I D k (pn P) with
    | none => exact Or.inl rfl
    | some c =>
      by_cases q : Q k = true ∧ D c + 1 < D k
      · exact Or.inr ⟨c, rfl, q.1, q.2, by simp only; rw [if_pos q]⟩
      · exact Or.inl (by simp only; rw [if_neg q])
  have snd : ∀ x, x < pn P → dst P I Q D k x = I ∨ (dst P I Q D k x < I ∧ TD P G Q (dst P I Q D k x) x = true) := by
    intro x hx
    by_cases e : x = k
    · subst e
      rcases at_k with e | ⟨c, e1, e2, e3, e4⟩
      · rw [e]; exact h1 x hx
      · obtain ⟨n1, n2, n3, -, -⟩ := nrl_some e1
        rw [e4]
        refine Or.inr ⟨?_, ?_⟩
        · rcases h1 x hx with q | q
          · omega
          · omega
        · rcases h1 c n1 with q | q
          · omega
          · exact TD_step hx e2 n2 q.2
    · rw [keep x e]; exact h1 x hx
  refine ⟨snd, fun x hx hg => ?_, fun x hx hd hf => ?_⟩
  · by_cases e : x = k
    · subst e
      have z := h2 x hx hg
      rcases at_k with e | ⟨c, e1, e2, e3, e4⟩
      · rw [e]; exact z
      · omega
    · rw [keep x e]; exact h2 x hx hg
  · by_cases e : x = k
    · subst e
      have lo : dst P I Q D x x < I → dl P G Q x ≤ dst P I Q D x x := fun hd => by
        rcases snd x hx with q | ⟨-, q⟩
        · omega
        · exact dl_of q
      by_cases already : dl P G Q x ≤ r ∨ (dl P G Q x ≤ r + 1 ∧ K x)
      · have := h3 x hx already hf
        rcases at_k with q | ⟨c, e1, e2, e3, e4⟩
        · rw [q]; exact this
        · have := lo (by omega)
          omega
      · have hx1 : dl P G Q x = r + 1 := by omega
        obtain ⟨-, p2, t, p3, p4⟩ := dl_succ hx1 (by omega)
        have ht := h3 t (nx_lt p3) (Or.inl (by omega)) (by omega)
        cases hm : nrl P I D x (pn P) with
        | none => exact absurd (show D t < I by omega) (nrl_none hm t (nx_lt p3) p3)
        | some c =>
          obtain ⟨n1, n2, n3, n4, -⟩ := nrl_some hm
          have hc := n4 t (nx_lt p3) p3 (by omega)
          have hle : dst P I Q D x x ≤ r + 1 := by
            unfold dst
            rw [if_pos rfl, hm]
            simp only
            by_cases q : D c + 1 < D x
            · rw [if_pos ⟨p2, q⟩]; omega
            · rw [if_neg (fun z => q z.2)]
              omega
          have := lo (by omega)
          omega
    · rw [keep x e]
      refine h3 x hx ?_ hf
      rcases hd with hd | ⟨hd, hd2⟩
      · exact Or.inl hd
      · rcases hd2 with hd2 | hd2
        · exact Or.inr ⟨hd, hd2⟩
        · exact absurd hd2 e
theorem DJ.next {I r : Nat} {D : Nat → Nat} {K : Nat → Prop} (h : DJ P I G Q D r K) (hK : ∀ k, k < pn P → K k) : DJ P I G Q D (r + 1) (fun _ => False) :=
  ⟨h.1, h.2.1, fun k hk hd hf => h.2.2 k hk (by
    rcases hd with hd | ⟨-, hd⟩
    · exact Or.inr ⟨hd, hK k hk⟩
    · exact hd.elim) hf⟩
theorem DJ.fin {I r : Nat} {D : Nat → Nat} {K : Nat → Prop} (hn : pn P ≤ 24) (hr : pn P ≤ r) (h : DJ P I G Q D r K) : ∀ k, k < pn P → D k = if dl P G Q k < 25 then dl P G Q k else I := by
  intro k hk
  by_cases c : dl P G Q k < 25
  · rw [if_pos c]
    exact h.2.2 k hk (Or.inl (Nat.le_trans (dl_fin hn (dl_at c)) hr)) c
  · rw [if_neg c]
    rcases h.1 k hk with q | ⟨-, q⟩
    · exact q
    · have := dl_fin hn q
      omega
theorem DJ.start {I : Nat} (hI : 25 ≤ I) (D : Nat → Nat) (hD : ∀ k, k < pn P → D k = if G k then 0 else I) : DJ P I G Q D 0 (fun _ => False) := by
  refine ⟨fun k hk => ?_, fun k hk hg => by rw [hD k hk, if_pos hg], fun k hk hd hf => ?_⟩
  · rw [hD k hk]
    by_cases g : G k = true
    · rw [if_pos g]
      exact Or.inr ⟨by omega, by show (decide (k < pn P) && G k) = true; simp [hk, g]⟩
    · rw [if_neg g]
      exact Or.inl rfl
  · rcases hd with hd | hd
    · have z : dl P G Q k = 0 := by omega
      rw [hD k hk, if_pos (dl_z z), z]
    · exact hd.2.elim
/-- a round that changes nothing: the distances are right -/
theorem DJ.stable {I r : Nat} {D : Nat → Nat} {K : Nat → Prop} (hI : 25 ≤ I) (hn : pn P ≤ 24) (h : DJ P I G Q D r K) (hs : ∀ k, k < pn P → dst P I Q D k k = D k) : ∀ k, k < pn P → D k = if dl P G Q k < 25 then dl P G Q k else I := by
  have key : ∀ j, DJ P I G Q D (r + j) (fun _ => False) := by
    intro j
    induction j with
    | zero => exact ⟨h.1, h.2.1, fun k hk hd hf => h.2.2 k hk (Or.inl (by rcases hd with hd | hd; exact hd; exact hd.2.elim)) hf⟩
    | succ j ih =>
      refine ⟨ih.1, ih.2.1, fun k hk hd hf => ?_⟩
      have hs1 := (ih.step hI hk).2.2 k hk (Or.inr ⟨by rcases hd with hd | hd; exact hd; exact hd.2.elim, Or.inr rfl⟩) hf
      rw [hs k hk] at hs1
      exact hs1
  exact (key (pn P)).fin hn (by omega)
end DD
