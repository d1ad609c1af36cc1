def bt (x : Int32) (i : Nat) : Bool := x.toBitVec.getLsbD i
theorem b_ext {x y : Int32} (h : ∀ i, i < 32 → bt x i = bt y i) : x = y := Int32.toBitVec_inj.mp (BitVec.eq_of_getLsbD_eq (fun i hi => h i hi))
theorem b_or (x y : Int32) (i : Nat) : bt (x ||| y) i = (bt x i || bt y i) := by unfold bt; rw [Int32.toBitVec_or, BitVec.getLsbD_or]
theorem b_and (x y : Int32) (i : Nat) : bt (x &&& y) i = (bt x i && bt y i) := by unfold bt; rw [Int32.toBitVec_and, BitVec.getLsbD_and]
theorem b_xor (x y : Int32) (i : Nat) : bt (x ^^^ y) i = (bt x i ^^ bt y i) := by unfold bt; rw [Int32.toBitVec_xor, BitVec.getLsbD_xor]
theorem b_big {x : Int32} {i : Nat} (h : 32 ≤ i) : bt x i = false := BitVec.getLsbD_of_ge _ _ h
theorem b_m1 : ∀ i, i < 32 → bt (-1) i = true := by decide +kernel
theorem b_0 (i : Nat) : bt 0 i = false := BitVec.getLsbD_zero
theorem b_1 (i : Nat) : bt 1 i = decide (i = 0) := by
  rcases Nat.lt_or_ge i 32 with h | h
  · exact (by decide +kernel : ∀ i, i < 32 → bt 1 i = decide (i = 0)) i h
  · rw [b_big h, decide_eq_false (by omega)]
theorem s_l : ∀ n, n < 32 → ((nI n &&& 31).toBitVec.smod 32).toNat = n := by decide +kernel
theorem b_shl (n : Nat) (hn : n < 32) (x : Int32) {i : Nat} (hi : i < 32) : bt (x <<< (nI n &&& 31)) i = (decide (n ≤ i) && bt x (i - n)) := by
  unfold bt
  rw [Int32.toBitVec_shiftLeft]
  show (x.toBitVec <<< ((nI n &&& 31).toBitVec.smod 32).toNat).getLsbD i = _
  rw [s_l n hn, BitVec.getLsbD_shiftLeft]
  rcases Nat.lt_or_ge i n with h | h
  · simp [h, Nat.not_le.mpr h]
  · simp [hi, h, Nat.not_lt.mpr h]
theorem b_sshr (n : Nat) (hn : n < 32) (x : Int32) {i : Nat} (hi : i < 32) : bt (x >>> (nI n &&& 31)) i = if n + i < 32 then bt x (n + i) else bt x 31 := by
  unfold bt
  rw [Int32.toBitVec_shiftRight]
  show (x.toBitVec.sshiftRight ((nI n &&& 31).toBitVec.smod 32).toNat).getLsbD i = _
  rw [s_l n hn, BitVec.getLsbD_sshiftRight, BitVec.msb_eq_getLsbD_last]
  simp [hi]
theorem b_one (k : Nat) (hk : k < 32) {i : Nat} (hi : i < 32) : bt ((1 : Int32) <<< (nI k &&& 31)) i = decide (i = k) := by
  rw [b_shl k hk _ hi, b_1]
  by_cases h : i = k
  · subst h; simp
  · by_cases h2 : k ≤ i
    · simp [h2, h]; omega
    · simp [h2, h]
def mkbN (f : Nat → Bool) (n : Nat) : Int32 := match n with
  | 0 => 0
  | n + 1 => mkbN f n ||| (if f n then (1 : Int32) <<< (nI n &&& 31) else 0)
def mkb (f : Nat → Bool) : Int32 := mkbN f 25
theorem bt_mkbN (f : Nat → Bool) : ∀ (n : Nat), n ≤ 32 → ∀ i, bt (mkbN f n) i = (decide (i < n) && f i)
  | 0, _, i => by show bt 0 i = _; rw [b_0]; simp
  | n + 1, h, i => by
    show bt (mkbN f n ||| _) i = _
    rw [b_or, bt_mkbN f n (by omega) i]
    rcases Nat.lt_or_ge i 32 with hi | hi
    · by_cases hf : f n = true
      · rw [if_pos hf, b_one n (by omega) hi]
        by_cases e : i = n
        · subst e; simp [hf]
        · by_cases e2 : i < n
          · simp [e2, e, Nat.lt_succ_of_lt e2]
          · simp [e2, e, show ¬ i < n + 1 by omega]
      · rw [if_neg hf, b_0]
        by_cases e : i = n
        · subst e; simp at hf; simp [hf]
        · by_cases e2 : i < n
          · simp [e2, Nat.lt_succ_of_lt e2]
          · simp [e2, show ¬ i < n + 1 by omega]
    · rw [b_big hi]
      simp [show ¬ i < n by omega, show ¬ i < n + 1 by omega]
theorem bt_mkb (f : Nat → Bool) (i : Nat) : bt (mkb f) i = (decide (i < 25) && f i) := bt_mkbN f 25 (by omega) i
theorem mkb_ext {f g : Nat → Bool} (h : ∀ i, i < 25 → f i = g i) : mkb f = mkb g := by
  apply b_ext
  intro i _
  rw [bt_mkb, bt_mkb]
  by_cases hi : i < 25
  · rw [h i hi]
  · simp [hi]
theorem mkb_inj {f g : Nat → Bool} (h : mkb f = mkb g) {i : Nat} (hi : i < 25) : f i = g i := by
  have := congrArg (fun x => bt x i) h
  simp only [bt_mkb, hi, decide_true, Bool.true_and] at this
  exact this
theorem mkb_iff {f g : Nat → Bool} : mkb f = mkb g ↔ ∀ i, i < 25 → f i = g i := ⟨fun h _ hi => mkb_inj h hi, mkb_ext⟩
theorem mkb_or (f g : Nat → Bool) : mkb f ||| mkb g = mkb (fun i => f i || g i) := by
  apply b_ext; intro i _
  simp only [b_or, bt_mkb]
  cases decide (i < 25) <;> simp
theorem mkb_and (f g : Nat → Bool) : mkb f &&& mkb g = mkb (fun i => f i && g i) := by
  apply b_ext; intro i _
  simp only [b_and, bt_mkb]
  cases decide (i < 25) <;> simp
theorem mkb_nand (f g : Nat → Bool) : mkb f &&& (mkb g ^^^ (-1)) = mkb (fun i => f i && !g i) := by
  apply b_ext; intro i hi
  simp only [b_and, b_xor, bt_mkb, b_m1 i hi]
  cases decide (i < 25) <;> cases f i <;> cases g i <;> rfl
theorem mkb_0 : (0 : Int32) = mkb (fun _ => false) := by
  apply b_ext; intro i _
  rw [b_0, bt_mkb]; simp
theorem mkb_one {k : Nat} (hk : k < 25) : (1 : Int32) <<< (nI k &&& 31) = mkb (fun i => decide (i = k)) := by
  apply b_ext; intro i hi
  rw [b_one k (by omega) hi, bt_mkb]
  by_cases e : i = k
  · subst e; simp [hk]
  · simp [e]
theorem mkb_V : (16777216 : Int32) = mkb (fun i => decide (i = 24)) := by
  have := mkb_one (k := 24) (by omega)
  rw [← this]; decide +kernel
theorem mkb_nV (f : Nat → Bool) : mkb f &&& (-16777217) = mkb (fun i => f i && !decide (i = 24)) := by
  apply b_ext; intro i hi
  have e : bt (-16777217) i = !decide (i = 24) := (by decide +kernel : ∀ i, i < 32 → bt (-16777217) i = !decide (i = 24)) i hi
  simp only [b_and, bt_mkb, e]
  cases decide (i < 25) <;> simp
def bi (b : Bool) : Int32 := if b then 1 else 0
theorem mkb_bit {k : Nat} (hk : k < 25) (f : Nat → Bool) : (mkb f >>> (nI k &&& 31)) &&& 1 = bi (f k) := by
  apply b_ext; intro i hi
  rw [b_and, b_sshr k (by omega) _ hi, b_1]
  by_cases e : i = 0
  · subst e
    have h1 : k + 0 < 32 := by omega
    rw [if_pos h1, bt_mkb]
    cases hf : f k <;> simp [bi, hf, hk] <;> decide
  · simp only [e, decide_false, Bool.and_false]
    unfold bi
    split
    · rw [b_1]; simp [e]
    · rw [b_0]
theorem mkb_z {f : Nat → Bool} : mkb f = 0 ↔ ∀ i, i < 25 → f i = false := by rw [mkb_0]; exact mkb_iff
theorem mkb_nz {f : Nat → Bool} : ¬ mkb f = 0 ↔ ∃ i, i < 25 ∧ f i = true := by
  rw [mkb_z]
  constructor
  · intro h
    exact Classical.byContradiction fun h2 => h (fun i hi => by
      cases hf : f i with
      | false => rfl
      | true => exact absurd ⟨i, hi, hf⟩ h2)
  · intro ⟨i, hi, hf⟩ h
    rw [h i hi] at hf; cases hf
theorem mkb_shz {k : Nat} (hk : k < 25) (f : Nat → Bool) : mkb f >>> (nI k &&& 31) = 0 ↔ ∀ i, k ≤ i → i < 25 → f i = false := by
  constructor
  · intro h i h1 h2
    have e := congrArg (fun x => bt x (i - k)) h
    simp only [b_sshr k (by omega) _ (show i - k < 32 by omega), b_0, show k + (i - k) < 32 by omega, if_true, bt_mkb, show k + (i - k) = i by omega, h2, decide_true, Bool.true_and] at e
    rw [if_pos (by omega)] at e
    exact e
  · intro h
    apply b_ext; intro i hi
    rw [b_sshr k (by omega) _ hi, b_0]
    split
    · rw [bt_mkb]
      by_cases h2 : k + i < 25
      · rw [h (k + i) (by omega) h2]; simp
      · simp [h2]
    · rw [bt_mkb]; simp
theorem bi_0 (b : Bool) : bi b = 0 ↔ b = false := by cases b <;> decide
theorem bi_1 (b : Bool) : bi b = 1 ↔ b = true := by cases b <;> decide
theorem bi_z (b : Bool) : bi b = 0 ∨ bi b = 1 := by cases b <;> decide
theorem nz_bi (b : Bool) : nz (bi b) = bi b := by cases b <;> decide
theorem ix_n {k : Nat} (h : k < 2 ^ 31) : ix (nI k) = k := nI_clamp h
theorem inb_n {k n : Nat} (h : k < n) (hn : n < 2 ^ 31) : inb (nI k) n := nI_in h hn
theorem ur_ur (σ : sh_S) (k : Nat) (g g' : Nat → Int32) : ur (ur σ k g) k g' = ur σ k g' := by
  funext i; by_cases h : i = k <;> simp [ur, h]
theorem upd_upd (f : Nat → Int32) (j : Nat) (a b : Int32) : upd (upd f j a) j b = upd f j b := by
  funext i; by_cases h : i = j <;> simp [upd, h]
theorem upd_s (f : Nat → Int32) (j : Nat) (a : Int32) : upd f j a j = a := by simp [upd]
theorem upd_n (f : Nat → Int32) {j i : Nat} (a : Int32) (h : i ≠ j) : upd f j a i = f i := by simp [upd, h]
theorem upd_id (f : Nat → Int32) (j : Nat) : upd f j (f j) = f := by
  funext i; by_cases h : i = j <;> simp [upd, h]
theorem ur_id (σ : sh_S) (k : Nat) : ur σ k (σ k) = σ := by
  funext i; by_cases h : i = k <;> simp [ur, h]
theorem gu_t {α : Type} {c : Prop} [Decidable c] {t : Option α} (h : c) : gu c t = t := if_pos h
theorem lb_e {α β : Type} (a : α) (f : α → β) : lb a f = f a := rfl
theorem ob_e {α β : Type} (a : α) (f : α → Option β) : ob (some a) f = f a := rfl
theorem ob2_e {α β γ : Type} (a : α) (b : β) (f : α → β → Option γ) : ob2 (some (a, b)) f = f a b := rfl
theorem ob3_e {α β γ δ : Type} (a : α) (b : β) (c : γ) (f : α → β → γ → Option δ) : ob3 (some (a, b, c)) f = f a b c := rfl
theorem ob4_e {α β γ δ ε : Type} (a : α) (b : β) (c : γ) (d : δ) (f : α → β → γ → δ → Option ε) : ob4 (some (a, b, c, d)) f = f a b c d := rfl
theorem ob5_e {α β γ δ ε ζ : Type} (a : α) (b : β) (c : γ) (d : δ) (e : ε) (f : α → β → γ → δ → ε → Option ζ) : ob5 (some (a, b, c, d, e)) f = f a b c d e := rfl
theorem ob_ite {α β : Type} (c : Prop) [Decidable c] (a b : α) (f : α → Option β) : ob (if c then some a else some b) f = f (if c then a else b) := by split <;> rfl
theorem lp_for {S E A : Type} {body : S → Option (S ⊕ E)} (mk : Nat → A → S) (n : Nat) (I : Nat → A → Prop) (Q : E → Prop)
    (step : ∀ k a, k < n → I k a → ∃ a', body (mk k a) = some (.inl (mk (k + 1) a')) ∧ I (k + 1) a')
    (fin : ∀ a, I n a → ∃ e, body (mk n a) = some (.inr e) ∧ Q e) : ∀ (fu k : Nat) (a : A), k ≤ n → I k a → n - k < fu → ∃ e, lp body fu (mk k a) = some e ∧ Q e
  | 0, k, a, _, _, h => by omega
  | fu + 1, k, a, hk, hi, h => by
    unfold lp
    by_cases e : k = n
    · subst e
      obtain ⟨x, h1, h2⟩ := fin a hi
      rw [h1]
      exact ⟨x, rfl, h2⟩
    · obtain ⟨a', h1, h2⟩ := step k a (by omega) hi
      rw [h1]
      exact lp_for mk n I Q step fin fu (k + 1) a' (by omega) h2 (by omega)
theorem lp_fn {S E A : Type} {body : S → Option (S ⊕ E)} (mk : Nat → A → S) (n : Nat) (I : Nat → A) (out : E)
    (step : ∀ k, k < n → body (mk k (I k)) = some (.inl (mk (k + 1) (I (k + 1)))))
    (fin : body (mk n (I n)) = some (.inr out)) {fu : Nat} (hf : n < fu) : lp body fu (mk 0 (I 0)) = some out := by
  obtain ⟨e, h1, h2⟩ := lp_for (body := body) mk n (fun k a => a = I k) (fun e => e = out)
    (fun k a hk ha => ⟨I (k + 1), by rw [ha]; exact step k hk, rfl⟩) (fun a ha => ⟨out, by rw [ha]; exact fin, rfl⟩) fu 0 (I 0) (Nat.zero_le _) rfl (by omega)
  rw [h1, h2]
theorem lp_dn {S E A : Type} {body : S → Option (S ⊕ E)} (mk : Nat → A → S) (I : Nat → A → Prop) (Q : E → Prop)
    (step : ∀ k a, I (k + 1) a → ∃ a', body (mk (k + 1) a) = some (.inl (mk k a')) ∧ I k a')
    (fin : ∀ a, I 0 a → ∃ e, body (mk 0 a) = some (.inr e) ∧ Q e) : ∀ (fu k : Nat) (a : A), I k a → k < fu → ∃ e, lp body fu (mk k a) = some e ∧ Q e
  | 0, k, a, _, h => by omega
  | fu + 1, 0, a, hi, h => by
    unfold lp
    obtain ⟨x, h1, h2⟩ := fin a hi
    rw [h1]
    exact ⟨x, rfl, h2⟩
  | fu + 1, k + 1, a, hi, h => by
    unfold lp
    obtain ⟨a', h1, h2⟩ := step k a hi
    rw [h1]
    exact lp_dn mk I Q step fin fu k a' h2 (by omega)
theorem FU_gt {n : Nat} (h : n < 6000) : n < FU := h
