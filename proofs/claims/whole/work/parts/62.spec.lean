def cnt (f : Nat → Bool) (n : Nat) : Nat := match n with
  | 0 => 0
  | n + 1 => cnt f n + (if f n then 1 else 0)
theorem cnt_le (f : Nat → Bool) : ∀ n, cnt f n ≤ n
  | 0 => Nat.le_refl _
  | n + 1 => by
    have := cnt_le f n
    unfold cnt
    split <;> omega
theorem cnt_mono {f g : Nat → Bool} : ∀ {n : Nat}, (∀ x, x < n → f x = true → g x = true) → cnt f n ≤ cnt g n
  | 0, _ => Nat.le_refl _
  | n + 1, h => by
    have h1 := cnt_mono (n := n) (fun x hx => h x (by omega))
    unfold cnt
    by_cases hf : f n = true
    · rw [if_pos hf, if_pos (h n (by omega) hf)]; omega
    · rw [if_neg hf]; split <;> omega
theorem cnt_lt {f g : Nat → Bool} : ∀ {n : Nat}, (∀ x, x < n → f x = true → g x = true) → (∃ x, x < n ∧ g x = true ∧ f x = false) → cnt f n < cnt g n
  | 0, _, ⟨x, hx, _⟩ => by omega
  | n + 1, h, ⟨x, hx, hg, hf⟩ => by
    unfold cnt
    by_cases e : x = n
    · subst e
      have h1 := cnt_mono (n := x) (fun y hy => h y (by omega))
      rw [hf, hg]
      simp; omega
    · have h1 := cnt_lt (n := n) (fun y hy => h y (by omega)) ⟨x, by omega, hg, hf⟩
      by_cases hf2 : f n = true
      · rw [if_pos hf2, if_pos (h n (by omega) hf2)]; omega
      · rw [if_neg hf2]; split <;> omega
theorem cnt_congr {f g : Nat → Bool} {n : Nat} (h : ∀ x, x < n → f x = g x) : cnt f n = cnt g n :=
  Nat.le_antisymm (cnt_mono fun x hx e => by rw [← h x hx]; exact e) (cnt_mono fun x hx e => by rw [h x hx]; exact e)
abbrev Bf : Type := Nat → Bool
def itr (F : Bf → Bf) (b : Bf) (j : Nat) : Bf := match j with
  | 0 => b
  | j + 1 => fun x => itr F b j x || F (itr F b j) x
def Loc (F : Bf → Bf) (N : Nat) : Prop := ∀ f g : Bf, (∀ x, x < N → f x = g x) → ∀ x, x < N → F f x = F g x
def Mon (F : Bf → Bf) (N : Nat) : Prop := ∀ f g : Bf, (∀ x, x < N → f x = true → g x = true) → ∀ x, x < N → F f x = true → F g x = true
theorem Mon.loc {F : Bf → Bf} {N : Nat} (h : Mon F N) : Loc F N := by
  intro f g hfg x hx
  have h1 := h f g (fun y hy e => by rw [← hfg y hy]; exact e) x hx
  have h2 := h g f (fun y hy e => by rw [hfg y hy]; exact e) x hx
  cases e1 : F f x <;> cases e2 : F g x
  · rfl
  · rw [h2 e2] at e1; cases e1
  · rw [h1 e1] at e2; cases e2
  · rfl
def Cl (F : Bf → Bf) (b : Bf) (N : Nat) (C : Bf) : Prop := (∀ x, x < N → b x = true → C x = true) ∧ ∀ x, x < N → F C x = true → C x = true
theorem itr_stab {F : Bf → Bf} {b : Bf} {N : Nat} (hF : Mon F N) : ∃ j, j ≤ N ∧ ∀ x, x < N → itr F b (j + 1) x = itr F b j x := by
  apply Classical.byContradiction
  intro h
  have hs : ∀ j, j ≤ N → j + 1 ≤ cnt (itr F b (j + 1)) N := by
    intro j
    induction j with
    | zero =>
      intro _
      have : cnt (itr F b 0) N < cnt (itr F b 1) N := cnt_lt (fun x _ e => by show (itr F b 0 x || _) = true; rw [e]; rfl) (by
        apply Classical.byContradiction
        intro h2
        refine h ⟨0, by omega, fun x hx => ?_⟩
        cases e1 : itr F b (0 + 1) x <;> cases e2 : itr F b 0 x
        · rfl
        · have : itr F b (0 + 1) x = true := by show (itr F b 0 x || _) = true; rw [e2]; rfl
          rw [this] at e1; cases e1
        · exact absurd ⟨x, hx, e1, e2⟩ h2
        · rfl)
      show 1 ≤ cnt (itr F b 1) N
      omega
    | succ j ih =>
      intro hj
      have h0 := ih (by omega)
      have : cnt (itr F b (j + 1)) N < cnt (itr F b (j + 1 + 1)) N := cnt_lt (fun x _ e => by show (itr F b (j + 1) x || _) = true; rw [e]; rfl) (by
        apply Classical.byContradiction
        intro h2
        refine h ⟨j + 1, hj, fun x hx => ?_⟩
        cases e1 : itr F b (j + 1 + 1) x <;> cases e2 : itr F b (j + 1) x
        · rfl
        · have : itr F b (j + 1 + 1) x = true := by show (itr F b (j + 1) x || _) = true; rw [e2]; rfl
          rw [this] at e1; cases e1
        · exact absurd ⟨x, hx, e1, e2⟩ h2
        · rfl)
      omega
  have := hs N (Nat.le_refl _)
  have := cnt_le (itr F b (N + 1)) N
  omega
theorem itr_stay {F : Bf → Bf} {b : Bf} {N j : Nat} (hF : Mon F N) (h : ∀ x, x < N → itr F b (j + 1) x = itr F b j x) : ∀ i, ∀ x, x < N → itr F b (j + i) x = itr F b j x
  | 0, _, _ => rfl
  | i + 1, x, hx => by
    have ih := itr_stay hF h i
    show (itr F b (j + i) x || F (itr F b (j + i)) x) = _
    rw [ih x hx, hF.loc _ _ ih x hx]
    exact h x hx
def lfp (F : Bf → Bf) (b : Bf) (N : Nat) : Bf := itr F b N
theorem lfp_cl {F : Bf → Bf} {b : Bf} {N : Nat} (hF : Mon F N) : Cl F b N (lfp F b N) := by
  obtain ⟨j, hj, hs⟩ := itr_stab (b := b) hF
  have hst := itr_stay hF hs
  have e1 : ∀ x, x < N → itr F b N x = itr F b j x := fun x hx => by
    have := hst (N - j) x hx
    rwa [show j + (N - j) = N by omega] at this
  have e2 : ∀ x, x < N → itr F b (N + 1) x = itr F b j x := fun x hx => by
    have := hst (N + 1 - j) x hx
    rwa [show j + (N + 1 - j) = N + 1 by omega] at this
  refine ⟨fun x _ hb => ?_, fun x hx hc => ?_⟩
  · show itr F b N x = true
    have : ∀ i, itr F b i x = true := by
      intro i
      induction i with
      | zero => exact hb
      | succ i ih => show (itr F b i x || _) = true; rw [ih]; rfl
    exact this N
  · show itr F b N x = true
    rw [e1 x hx, ← e2 x hx]
    show (itr F b N x || F (itr F b N) x) = true
    have hc' : F (itr F b N) x = true := hc
    rw [hc']; simp
theorem itr_le {F : Bf → Bf} {b C : Bf} {N : Nat} (hF : Mon F N) (hC : Cl F b N C) : ∀ j, ∀ x, x < N → itr F b j x = true → C x = true
  | 0, x, hx, h => hC.1 x hx h
  | j + 1, x, hx, h => by
    have ih := itr_le hF hC j
    have h' : (itr F b j x || F (itr F b j) x) = true := h
    rcases Bool.or_eq_true _ _ |>.mp h' with h1 | h1
    · exact ih x hx h1
    · exact hC.2 x hx (hF _ _ ih x hx h1)
theorem lfp_le {F : Bf → Bf} {b C : Bf} {N : Nat} (hF : Mon F N) (hC : Cl F b N C) : ∀ x, x < N → lfp F b N x = true → C x = true := itr_le hF hC N
/-- a set that is closed and that every closed set holds is the least one -/
theorem lfp_eq {F : Bf → Bf} {b S : Bf} {N : Nat} (hF : Mon F N) (h1 : Cl F b N S) (h2 : ∀ C, Cl F b N C → ∀ x, x < N → S x = true → C x = true) : ∀ x, x < N → S x = lfp F b N x := by
  intro x hx
  have a := h2 _ (lfp_cl hF) x hx
  have c := lfp_le hF h1 x hx
  cases e1 : S x <;> cases e2 : lfp F b N x
  · rfl
  · rw [c e2] at e1; cases e1
  · rw [a e1] at e2; cases e2
  · rfl
/-- what N rounds give, each of which takes a step from all that is there -/
theorem lfp_rounds {F : Bf → Bf} {b : Bf} {N : Nat} (hF : Mon F N) (s : Nat → Bf) {M : Nat} (hM : N ≤ M) (h0 : ∀ x, x < N → b x = true → s 0 x = true) (hr : ∀ r, r < M → ∀ x, x < N → (s r x = true ∨ F (s r) x = true) → s (r + 1) x = true) (hs : ∀ C, Cl F b N C → ∀ x, x < N → s M x = true → C x = true) : ∀ x, x < N → s M x = lfp F b N x := by
  have key : ∀ j, j ≤ M → ∀ x, x < N → itr F b j x = true → s j x = true := by
    intro j
    induction j with
    | zero => intro _ x hx h; exact h0 x hx h
    | succ j ih =>
      intro hj x hx h
      have h' : (itr F b j x || F (itr F b j) x) = true := h
      rcases Bool.or_eq_true _ _ |>.mp h' with h1 | h1
      · exact hr j (by omega) x hx (Or.inl (ih (by omega) x hx h1))
      · exact hr j (by omega) x hx (Or.inr (hF _ _ (ih (by omega)) x hx h1))
  have keep : ∀ i, N + i ≤ M → ∀ x, x < N → s N x = true → s (N + i) x = true := by
    intro i
    induction i with
    | zero => intro _ x _ h; exact h
    | succ i ih => intro hi x hx h; exact hr (N + i) (by omega) x hx (Or.inl (ih (by omega) x hx h))
  intro x hx
  have a := hs _ (lfp_cl hF) x hx
  have c : lfp F b N x = true → s M x = true := fun h => by
    have := keep (M - N) (by omega) x hx (key N hM x hx h)
    rwa [show N + (M - N) = M by omega] at this
  cases e1 : s M x <;> cases e2 : lfp F b N x
  · rfl
  · rw [c e2] at e1; cases e1
  · rw [a e1] at e2; cases e2
  · rfl
def ex (n : Nat) (f : Bf) : Bool := match n with
  | 0 => false
  | n + 1 => ex n f || f n
theorem ex_iff {f : Bf} : ∀ {n : Nat}, ex n f = true ↔ ∃ x, x < n ∧ f x = true
  | 0 => by simp [ex]
  | n + 1 => by
    unfold ex
    rw [Bool.or_eq_true, ex_iff]
    constructor
    · rintro (⟨x, h1, h2⟩ | h)
      · exact ⟨x, by omega, h2⟩
      · exact ⟨n, by omega, h⟩
    · rintro ⟨x, h1, h2⟩
      by_cases e : x = n
      · subst e; exact Or.inr h2
      · exact Or.inl ⟨x, by omega, h2⟩
theorem tt {a b : Bool} (h : a = true ↔ b = true) : a = b := by
  cases a <;> cases b <;> simp_all
abbrev Pg : Type := Nat × (Nat → Nat) × (Nat → Nat) × (Nat → Nat) × (Nat → Nat)
abbrev pn (P : Pg) : Nat := P.1
abbrev pk (P : Pg) : Nat → Nat := P.2.1
abbrev px (P : Pg) : Nat → Nat := P.2.2.1
abbrev pp (P : Pg) : Nat → Nat := P.2.2.2.1
abbrev pt (P : Pg) : Nat → Nat := P.2.2.2.2
def pOK (P : Pg) : Prop := pn P ≤ 24 ∧ ∀ k, pk P k < 10 ∧ px P k < 8 ∧ pp P k < 48 ∧ pt P k < 24
def pv (P : Pg) (k : Nat) : Nat := pp P k / 6
def thr (P : Pg) (k : Nat) : Bool := decide (3 ≤ pp P k % 6)
def lnd (P : Pg) (k : Nat) : Bool := decide (3 ≤ pk P k) && decide (pk P k ≤ 5)
def ak (P : Pg) (k : Nat) : Nat := if pk P k = 5 ∧ thr P k = true then 4 else pk P k
def nx (P : Pg) (k m : Nat) : Bool := decide (m < pn P) && ((!decide (pk P k = 8) && !decide (pk P k = 9) && decide (m = k + 1)) || ((decide (pk P k = 8) || decide (pk P k = 7)) && decide (m = pt P k)))
def rd (P : Pg) (k v : Nat) : Bool := decide (v = pv P k) && (decide (pk P k = 1) || decide (pk P k = 6) || (decide (2 ≤ pk P k) && decide (pk P k ≤ 5) && thr P k))
def wr (P : Pg) (k v : Nat) : Bool := if pk P k = 2 ∧ thr P k = false then decide (v = pv P k) else if lnd P k = true then decide (v = px P k) else if pk P k = 6 then decide (v = px P k) || decide (v = pv P k) else false
def gt (P : Pg) (k : Nat) : Bool := decide (1 ≤ pk P k) && decide (pk P k ≤ 5) && thr P k
def mvs (P : Pg) (k : Nat) : Bool := decide (pk P k = 6) || (lnd P k && thr P k)
def FR (P : Pg) : Bf → Bf := fun f x => ex (pn P) (fun m => f m && nx P m x)
def bR (P : Pg) : Bf := fun x => decide (x = 0) && decide (0 < pn P)
def Rc (P : Pg) : Bf := lfp (FR P) (bR P) (pn P)
theorem ex_mon {f g : Bf} {n : Nat} (h : ∀ x, x < n → f x = true → g x = true) (e : ex n f = true) : ex n g = true := by
  obtain ⟨x, h1, h2⟩ := ex_iff.mp e
  exact ex_iff.mpr ⟨x, h1, h x h1 h2⟩
theorem FR_mon (P : Pg) : Mon (FR P) (pn P) := fun f g h x _ e => ex_mon (fun m hm e1 => by
  rw [Bool.and_eq_true] at e1 ⊢
  exact ⟨h m hm e1.1, e1.2⟩) e
def PM (P : Pg) (m : sh_S) : Prop := m 0 0 = nI (pn P) ∧ ∀ k, k < 24 → m 1 k = nI (pk P k) ∧ m 2 k = nI (px P k) ∧ m 3 k = nI (pp P k) ∧ m 4 k = nI (pt P k)
