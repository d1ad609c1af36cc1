def on (P : Pg) (k : Nat) : Option Nat := if pk P k = 8 ∨ pk P k = 9 ∨ pn P ≤ k + 1 then none else some (k + 1)
def asd (P : Pg) (k : Nat) : Option Nat := if (pk P k = 8 ∨ pk P k = 7) ∧ pt P k < pn P then some (pt P k) else none
theorem on_lt {P : Pg} {k m : Nat} (h : on P k = some m) : m < pn P := by
  unfold on at h
  split at h
  · cases h
  · cases h; omega
theorem asd_lt {P : Pg} {k m : Nat} (h : asd P k = some m) : m < pn P := by
  unfold asd at h
  split at h
  · cases h; omega
  · cases h
theorem nx_on (P : Pg) (k m : Nat) : nx P k m = true ↔ on P k = some m ∨ asd P k = some m := by
  unfold nx on asd
  simp only [Bool.and_eq_true, Bool.or_eq_true, Bool.not_eq_true', decide_eq_true_eq, decide_eq_false_iff_not]
  constructor
  · rintro ⟨h1, ⟨⟨h2, h3⟩, h4⟩ | ⟨h2, h3⟩⟩
    · left; rw [if_neg (by omega), h4]
    · right; rw [if_pos ⟨h2, by omega⟩, h3]
  · rintro (h | h)
    · split at h
      · cases h
      · cases h; omega
    · split at h
      · cases h; omega
      · cases h
def LX (P : Pg) (s : sh_S) : Prop := s 0 9 = nI (pn P) ∧ ∀ k, k < 24 → s 1 k = nI (pk P k) ∧ s 2 k = nI (px P k) ∧ s 3 k = nI (pp P k) ∧ s 4 k = nI (pt P k) ∧ s 5 k = nI (ak P k) ∧ s 6 k = nI (pv P k) ∧ s 7 k = nI (pp P k % 6) ∧ s 8 k = bi (lnd P k) ∧ s 9 k = bi (gt P k)
theorem LX.of {P : Pg} {s s' : sh_S} (h : LX P s) (e : ∀ k, k < 10 → s' k = s k) : LX P s' := by
  refine ⟨by rw [e 0 (by omega)]; exact h.1, fun k hk => ?_⟩
  rw [e 1 (by omega), e 2 (by omega), e 3 (by omega), e 4 (by omega), e 5 (by omega), e 6 (by omega), e 7 (by omega), e 8 (by omega), e 9 (by omega)]
  exact h.2 k hk
theorem LX.ur {P : Pg} {s : sh_S} (h : LX P s) {k : Nat} (hk : 10 ≤ k) (g : Nat → Int32) : LX P (ur s k g) := h.of (fun j hj => ur_n _ _ (by omega))
def Fx (L : List Nat) (a b : sh_S) : Prop := ∀ k, k ∉ L → b k = a k
theorem Fx.rf {L : List Nat} {a : sh_S} : Fx L a a := fun _ _ => rfl
theorem Fx.tr {L : List Nat} {a b c : sh_S} (h1 : Fx L a b) (h2 : Fx L b c) : Fx L a c := fun k hk => (h2 k hk).trans (h1 k hk)
theorem Fx.ur {L : List Nat} {a b : sh_S} (h : Fx L a b) {k : Nat} (hk : k ∈ L) (g : Nat → Int32) : Fx L a (ur b k g) := fun j hj => (ur_n _ _ (fun e : j = k => hj (by rw [e]; exact hk))).trans (h j hj)
theorem Fx.mo {L M : List Nat} {a b : sh_S} (h : Fx L a b) (hs : ∀ k, k ∈ L → k ∈ M) : Fx M a b := fun k hk => h k (fun e => hk (hs k e))
theorem LX.fx {P : Pg} {s s' : sh_S} {L : List Nat} (h : LX P s) (e : Fx L s s') (hL : ∀ k, k ∈ L → 10 ≤ k) : LX P s' := h.of (fun k hk => e k (fun q => by have := hL k q; omega))
theorem x_hasBit {k : Nat} (hk : k < 25) (f : Bf) : f_X9_hasBit (mkb f) (nI k) = some (bi (f k)) := by
  unfold f_X9_hasBit
  rw [mkb_bit hk]
  cases f k <;> simp [bi, ob, gu]
theorem x_bitOf {q : Option Nat} (h : ∀ m, q = some m → m < 25) : f_X9_bitOf (oe q) = some (mkb (fun m => decide (q = some m))) := by
  unfold f_X9_bitOf
  cases q with
  | none =>
    show ob (if (-1 : Int32) = -1 then _ else _) _ = _
    rw [if_pos rfl, ob_e, mkb_0]
    refine congrArg some (mkb_ext (fun i _ => by simp))
  | some m =>
    have hm := h m rfl
    show ob (if nI m = -1 then _ else some ((1 : Int32) <<< (nI m &&& 31))) _ = _
    rw [if_neg (neg1 (by omega)), ob_e, mkb_one hm]
    refine congrArg some (mkb_ext (fun i _ => ?_))
    by_cases e : i = m
    · simp [e]
    · simp [e, Ne.symm e]
theorem x_has {P : Pg} {s : sh_S} (h : s 0 9 = nI (pn P)) (x : Int32) : f_X4_has x s = some (bi (isPt (pn P) x)) := by
  unfold f_X4_has isPt
  rw [h]
  by_cases h1 : x < 0
  · simp [h1, ob, gu, bi]
  · have e : (nI (pn P) ≤ x) = ¬ (x < nI (pn P)) := by
      rw [i32_le, i32_lt]; simp
    by_cases h2 : x < nI (pn P) <;> simp [h1, e, h2, ob, gu, bi]
theorem oe_m1 {q : Option Nat} (h : ∀ m, q = some m → m < 2 ^ 31) : (oe q = (-1 : Int32)) = (q = none) := by
  cases q with
  | none => simp [oe]
  | some m => simp [oe, neg1 (h m rfl)]
theorem x_bw (x lo hi : Int32) : f_X9_isBetween x lo hi = some (bi (!decide (x < lo) && !decide (hi < x))) := by
  unfold f_X9_isBetween
  by_cases h1 : x < lo
  · simp [h1, ob, gu, bi]
  · by_cases h2 : hi < x <;> simp [h1, h2, ob, gu, bi]
theorem lp_rnd {S E A : Type} {body : S → Option (S ⊕ E)} (mk : Bool → Nat → A → S) (R : Nat → A → Prop) (C : A → Prop) (out : A → E)
    (h0 : ∀ j a, body (mk false j a) = some (.inr (out a))) (hK : ∀ a, body (mk true 1000 a) = some (.inr (out a)))
    (step : ∀ j a, j < 1000 → R j a → ∃ fl a', body (mk true j a) = some (.inl (mk fl (j + 1) a')) ∧ R (j + 1) a' ∧ (fl = false → C a')) :
    ∀ fu j fl a, j ≤ 1000 → R j a → (fl = false → C a) → 1000 - j + 1 < fu → ∃ a' j', lp body fu (mk fl j a) = some (out a') ∧ R j' a' ∧ (C a' ∨ 1000 ≤ j')
  | 0, j, fl, a, _, _, _, h => by omega
  | fu + 1, j, fl, a, hj, hR, hC, h => by
    unfold lp
    cases fl with
    | false => rw [h0]; exact ⟨a, j, rfl, hR, Or.inl (hC rfl)⟩
    | true =>
      by_cases e : j = 1000
      · subst e; rw [hK]; exact ⟨a, 1000, rfl, hR, Or.inr (Nat.le_refl _)⟩
      · obtain ⟨fl', a', h1, h2, h3⟩ := step j a (by omega) hR
        rw [h1]
        exact lp_rnd mk R C out h0 hK step fu (j + 1) fl' a' (by omega) h2 h3 (by omega)
theorem lp_fix {S E : Type} {body : S → Option (S ⊕ E)} (mk : Bool → Nat → (Nat → Bf) → S) (F : Nat → Bf → Bf) (bs : Nat → Bf) (N B : Nat) (hN : N ≤ 1000) (hF : ∀ b, Mon (F b) N) (hl : ∀ b f x, F b f x = true → x < N) (hb : ∀ b x, bs b x = true → x < N) (out : (Nat → Bf) → E) (J : (Nat → Bf) → Prop) (hJ : J bs)
    (h0 : ∀ j a, body (mk false j a) = some (.inr (out a))) (hK : ∀ a, body (mk true 1000 a) = some (.inr (out a)))
    (step : ∀ j a, j < 1000 → J a → (∀ b, b < B → ∀ x, a b x = true → x < N) → ∃ fl a', body (mk true j a) = some (.inl (mk fl (j + 1) a')) ∧ J a' ∧ (∀ b, b < B → GS (F b) N (a b) (a' b)) ∧ (fl = false → ∀ b, b < B → ∀ x, x < N → a' b x = a b x)) :
    ∃ a', lp body FU (mk true 0 bs) = some (out a') ∧ J a' ∧ ∀ b, b < B → ∀ x, a' b x = lfp (F b) (bs b) N x := by
  obtain ⟨a', j', h1, ⟨h2, h3⟩, h4⟩ := lp_rnd mk (fun j a => J a ∧ ∀ b, b < B → RI (F b) (bs b) N j (a b)) (fun a => ∀ b, b < B → ∀ x, x < N → F b (a b) x = true → a b x = true) out h0 hK
    (fun j a hj ⟨i1, i2⟩ => by
      obtain ⟨fl, a', e1, e2, e3, e4⟩ := step j a hj i1 (fun b hb' x hx => (i2 b hb').2.2 x hx)
      refine ⟨fl, a', e1, ⟨e2, fun b hb' => (i2 b hb').step (hF b) (hl b) (hb b) (e3 b hb')⟩, fun hf b hb' x hx hc => ?_⟩
      have eq := e4 hf b hb'
      have hc' : F b (a b) x = true := hF b _ _ (fun y hy q => by rw [← eq y hy]; exact q) x hx hc
      exact (e3 b hb').2.1 x hx hc')
    FU 0 true bs (Nat.zero_le _) ⟨hJ, fun b _ => RI.zero (hb b)⟩ (fun h => by cases h) (FU_gt (n := 1001) (by omega))
  refine ⟨a', h1, h2, fun b hb' x => ?_⟩
  rcases h4 with h4 | h4
  · exact (h3 b hb').closed (hF b) (hl b) (hb b) (h4 b hb') x
  · exact (h3 b hb').fin (hF b) (hl b) (hb b) (by omega) x
