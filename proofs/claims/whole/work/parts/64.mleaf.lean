theorem m_through : ∀ p, p < 48 → f_X10_through (nI p) = some (bi (decide (3 ≤ p % 6))) := by decide +kernel
theorem m_variable : ∀ p, p < 48 → f_X10_variable (nI p) = some (nI (p / 6)) := by decide +kernel
def ctn (a b : Nat) : Bool := decide (a = b) || decide (a = 0) || (decide (3 ≤ a) && decide (3 ≤ b))
def ovl (p q : Nat) : Bool := decide (p / 6 = q / 6) && (ctn (p % 6) (q % 6) || ctn (q % 6) (p % 6))
theorem m_contains : ∀ a, a < 6 → ∀ b, b < 6 → f_X10_contains (nI a) (nI b) = some (bi (ctn a b)) := by decide +kernel
theorem rem6 {a : Nat} (h : a < 2 ^ 31) : nI a - nI a / 6 * 6 = nI (a % 6) := pk_rem (d := 6) h (by omega) (by omega)
theorem div6 {a : Nat} (h : a < 2 ^ 31) : nI a / 6 = nI (a / 6) := pk_div (d := 6) h (by omega) (by omega)
theorem nI_eqb {a b : Nat} (ha : a < 2 ^ 31) (hb : b < 2 ^ 31) : (nI a = nI b) = (a = b) := propext (nI_eq ha hb)
theorem m_overlap {p q : Nat} (hp : p < 48) (hq : q < 48) : f_X10_overlap (nI p) (nI q) = some (bi (ovl p q)) := by
  unfold f_X10_overlap
  rw [m_variable p hp, ob_e, m_variable q hq, ob_e, rem6 (by omega), rem6 (by omega), m_contains _ (by omega) _ (by omega), m_contains _ (by omega) _ (by omega)]
  simp only [nI_eqb (show p / 6 < 2 ^ 31 by omega) (show q / 6 < 2 ^ 31 by omega)]
  unfold ovl
  by_cases h : p / 6 = q / 6
  · rw [if_pos h, ob_e]
    cases h1 : ctn (p % 6) (q % 6) <;> cases h2 : ctn (q % 6) (p % 6) <;> simp [h, h1, h2, bi, ob, gu]
  · rw [if_neg h]
    simp [h, bi, ob, gu]
theorem m_in (x lo hi : Int32) : f_X10_in x lo hi = some (bi (!decide (x < lo) && !decide (hi < x))) := by
  unfold f_X10_in
  by_cases h1 : x < lo
  · simp [h1, ob, gu, bi]
  · by_cases h2 : hi < x <;> simp [h1, h2, ob, gu, bi]
theorem m_inN {a lo hi : Nat} (ha : a < 2 ^ 31) (hl : lo < 2 ^ 31) (hh : hi < 2 ^ 31) : f_X10_in (nI a) (nI lo) (nI hi) = some (bi (decide (lo ≤ a) && decide (a ≤ hi))) := by
  rw [m_in]
  congr 2
  have e1 : (nI a < nI lo) = (a < lo) := propext (nI_ltI ha hl)
  have e2 : (nI hi < nI a) = (hi < a) := propext (nI_ltI hh ha)
  by_cases h1 : a < lo <;> by_cases h2 : hi < a <;> simp [e1, e2, h1, h2] <;> omega
theorem m_isIn {k : Nat} (hk : k < 25) (f : Bf) : f_X10_isIn (mkb f) (nI k) = some (bi (f k)) := by
  unfold f_X10_isIn
  rw [mkb_bit hk]
  cases f k <;> simp [bi, ob, gu]
def isPt (n : Nat) (x : Int32) : Bool := !decide (x < 0) && decide (x < nI n)
theorem i32_lt (x y : Int32) : (x < y) = (x.toInt < y.toInt) := propext Int32.lt_iff_toInt_lt
theorem i32_le (x y : Int32) : (x ≤ y) = (x.toInt ≤ y.toInt) := propext Int32.le_iff_toInt_le
theorem nIm1_toInt {n : Nat} (h : n < 2 ^ 30) : (nI n - 1).toInt = (n : Int) - 1 := pk_sub_toInt (b := 1) h (by omega)
theorem m_isPoint {P : Pg} {m : sh_S} (h : PM P m) (hn : pn P ≤ 24) (x : Int32) : f_X10_isPoint x m = some (bi (isPt (pn P) x)) := by
  unfold f_X10_isPoint
  rw [m_in, ob_e, h.1]
  have e : (!decide (x < 0) && !decide (nI (pn P) - 1 < x)) = isPt (pn P) x := by
    unfold isPt
    congr 1
    have e1 : (nI (pn P) - 1 < x) = ((pn P : Int) - 1 < x.toInt) := by rw [i32_lt, nIm1_toInt (by omega)]
    have e2 : (x < nI (pn P)) = (x.toInt < (pn P : Int)) := by rw [i32_lt, nI_toInt (by omega)]
    by_cases h1 : x.toInt < (pn P : Int)
    · simp [e1, e2, h1]; omega
    · simp [e1, e2, h1]; omega
  rw [e, gu_t (bi_z _)]
theorem isPt_n {n k : Nat} (hn : n ≤ 24) (hk : k < 2 ^ 31) : isPt n (nI k) = decide (k < n) := by
  unfold isPt
  simp only [show (nI k < 0) = False from eq_false (nI_pos hk), show (nI k < nI n) = (k < n) from propext (nI_ltI hk (by omega))]
  simp
theorem isPt_of {n : Nat} {x : Int32} (hn : n ≤ 24) (h : isPt n x = true) : ∃ k, k < n ∧ x = nI k := by
  unfold isPt at h
  simp only [Bool.and_eq_true, Bool.not_eq_true', decide_eq_false_iff_not, decide_eq_true_eq] at h
  obtain ⟨j, hj, rfl⟩ := nI_of h.1
  exact ⟨j, (nI_ltI hj (by omega)).mp h.2, rfl⟩
theorem m_there {P : Pg} {m : sh_S} (h : PM P m) (hn : pn P ≤ 24) {k : Nat} (hk : k < 25) : f_X10_there (nI k) m = some (mkb (fun i => decide (i < pn P) && decide (i = k))) := by
  unfold f_X10_there
  rw [m_isPoint h hn, ob_e, isPt_n hn (by omega)]
  by_cases e : k < pn P
  · simp only [e, decide_true, bi, if_true]
    rw [if_neg (by decide), ob_e, mkb_one (by omega)]
    congr 1
    apply mkb_ext
    intro i _
    by_cases e2 : i = k
    · subst e2; simp [e]
    · simp [e2]
  · simp only [e, decide_false, bi]
    rw [if_pos (by decide), ob_e, mkb_0]
    congr 1
    apply mkb_ext
    intro i _
    by_cases e2 : i = k
    · subst e2; simp [e]
    · simp [e2]
theorem nI_lt10 {a c : Nat} (ha : a < 10) (hc : c < 10) : (nI a = nI c) = (a = c) := nI_eqb (by omega) (by omega)
theorem m_kind {P : Pg} {m : sh_S} (h : PM P m) (ho : pOK P) {k : Nat} (hk : k < 24) : f_X10_kind (nI k) m = some (nI (ak P k)) := by
  obtain ⟨h1, h2, h3, h4⟩ := h.2 k hk
  obtain ⟨o1, o2, o3, o4⟩ := ho.2 k
  unfold f_X10_kind
  have hi : inb (nI k) 24 := inb_n hk (by omega)
  have e5 : (nI (pk P k) = (5 : Int32)) = (pk P k = 5) := nI_lt10 (c := 5) o1 (by omega)
  simp only [gu_t hi, ix_n (show k < 2 ^ 31 by omega), h1, h3, m_through _ o3, ob_e]
  simp only [e5]
  unfold ak thr
  by_cases c5 : pk P k = 5
  · by_cases ct : 3 ≤ pp P k % 6
    · simp [c5, ct, bi, ob]; rfl
    · simp [c5, ct, bi, ob]
  · simp [c5, ob]
theorem m_lends {P : Pg} {m : sh_S} (h : PM P m) (ho : pOK P) {k : Nat} (hk : k < 24) : f_X10_lends (nI k) m = some (bi (lnd P k)) := by
  obtain ⟨h1, h2, h3, h4⟩ := h.2 k hk
  obtain ⟨o1, o2, o3, o4⟩ := ho.2 k
  unfold f_X10_lends
  have hi : inb (nI k) 24 := inb_n hk (by omega)
  have e : f_X10_in (nI (pk P k)) (3 : Int32) (5 : Int32) = some (bi (lnd P k)) := m_inN (lo := 3) (hi := 5) (by omega) (by omega) (by omega)
  rw [gu_t hi, ix_n (by omega), h1, e, ob_e, gu_t (bi_z _)]
theorem m_nextOf {P : Pg} {m : sh_S} (h : PM P m) (ho : pOK P) {k : Nat} (hk : k < 24) : f_X10_nextOf (nI k) m = some (mkb (nx P k)) := by
  obtain ⟨h1, h2, h3, h4⟩ := h.2 k hk
  obtain ⟨o1, o2, o3, o4⟩ := ho.2 k
  have hn := ho.1
  unfold f_X10_nextOf
  have hi : inb (nI k) 24 := inb_n hk (by omega)
  have e8 : (nI (pk P k) = (8 : Int32)) = (pk P k = 8) := nI_lt10 (c := 8) o1 (by omega)
  have e9 : (nI (pk P k) = (9 : Int32)) = (pk P k = 9) := nI_lt10 (c := 9) o1 (by omega)
  have e7 : (nI (pk P k) = (7 : Int32)) = (pk P k = 7) := nI_lt10 (c := 7) o1 (by omega)
  have t1 : f_X10_there (nI k + 1) m = some (mkb (fun i => decide (i < pn P) && decide (i = k + 1))) := by rw [nI_1]; exact m_there h hn (by omega)
  have t2 := m_there h hn (k := pt P k) (by omega)
  simp only [gu_t hi, ix_n (show k < 2 ^ 31 by omega), h1, h4, t1, t2, ob_e, e8, e9, e7, mkb_0]
  unfold nx
  by_cases c8 : pk P k = 8
  · simp [c8, ob, mkb_or]
  · by_cases c9 : pk P k = 9
    · simp [c9, ob, mkb_or]
    · by_cases c7 : pk P k = 7
      · simp only [c7, ob, mkb_or]
        simp
        rw [mkb_or]
        apply mkb_ext
        intro i _
        cases decide (i < pn P) <;> simp
      · simp [c8, c9, c7, ob, mkb_or]
theorem m_readsOf {P : Pg} {m : sh_S} (h : PM P m) (ho : pOK P) {k : Nat} (hk : k < 24) : f_X10_readsOf (nI k) m = some (mkb (rd P k)) := by
  obtain ⟨h1, h2, h3, h4⟩ := h.2 k hk
  obtain ⟨o1, o2, o3, o4⟩ := ho.2 k
  unfold f_X10_readsOf
  have hi : inb (nI k) 24 := inb_n hk (by omega)
  have e1 : (nI (pk P k) = (1 : Int32)) = (pk P k = 1) := nI_lt10 (c := 1) o1 (by omega)
  have e6 : (nI (pk P k) = (6 : Int32)) = (pk P k = 6) := nI_lt10 (c := 6) o1 (by omega)
  have ei : f_X10_in (nI (pk P k)) (2 : Int32) (5 : Int32) = some (bi (decide (2 ≤ pk P k) && decide (pk P k ≤ 5))) := m_inN (lo := 2) (hi := 5) (by omega) (by omega) (by omega)
  have ev : (1 : Int32) <<< (nI (pp P k / 6) &&& 31) = mkb (fun i => decide (i = pv P k)) := mkb_one (by omega)
  simp only [gu_t hi, ix_n (show k < 2 ^ 31 by omega), h1, h3, m_variable _ o3, m_through _ o3, ob_e, lb_e, e1, e6, ei, ev, bi_0]
  unfold rd thr
  by_cases c1 : pk P k = 1
  · simp [c1, ob]
  · by_cases c6 : pk P k = 6
    · simp [c6, ob]
    · by_cases c2 : 2 ≤ pk P k <;> by_cases c5 : pk P k ≤ 5 <;> by_cases ct : 3 ≤ pp P k % 6 <;> simp [c1, c6, c2, c5, ct, ob] <;> first | exact mkb_0 | skip
theorem m_writesOf {P : Pg} {m : sh_S} (h : PM P m) (ho : pOK P) {k : Nat} (hk : k < 24) : f_X10_writesOf (nI k) m = some (mkb (wr P k)) := by
  have hl := m_lends h ho hk
  obtain ⟨h1, h2, h3, h4⟩ := h.2 k hk
  obtain ⟨o1, o2, o3, o4⟩ := ho.2 k
  unfold f_X10_writesOf
  have hi : inb (nI k) 24 := inb_n hk (by omega)
  have e2 : (nI (pk P k) = (2 : Int32)) = (pk P k = 2) := nI_lt10 (c := 2) o1 (by omega)
  have e6 : (nI (pk P k) = (6 : Int32)) = (pk P k = 6) := nI_lt10 (c := 6) o1 (by omega)
  have ev : (1 : Int32) <<< (nI (pp P k / 6) &&& 31) = mkb (fun i => decide (i = pv P k)) := mkb_one (by omega)
  have ew : (1 : Int32) <<< (nI (px P k) &&& 31) = mkb (fun i => decide (i = px P k)) := mkb_one (by omega)
  simp only [gu_t hi, ix_n (show k < 2 ^ 31 by omega), h1, h2, h3, m_variable _ o3, m_through _ o3, hl, ob_e, lb_e, e2, e6, ev, ew, bi_0, mkb_or]
  unfold wr thr
  by_cases c2 : pk P k = 2
  · have c6 : ¬ pk P k = 6 := by omega
    by_cases ct : 3 ≤ pp P k % 6 <;> cases cl : lnd P k <;> simp [c2, c6, ct, cl, ob] <;> first | exact mkb_0 | skip
  · by_cases c6 : pk P k = 6 <;> cases cl : lnd P k <;> simp [c2, c6, cl, ob] <;> first | exact mkb_0 | skip
theorem m_goesBy {P : Pg} {m : sh_S} (h : PM P m) (ho : pOK P) {k : Nat} (hk : k < 24) : f_X10_goesBy (nI k) m = some (if gt P k = true then nI (pv P k) else -1) := by
  obtain ⟨h1, h2, h3, h4⟩ := h.2 k hk
  obtain ⟨o1, o2, o3, o4⟩ := ho.2 k
  unfold f_X10_goesBy
  have hi : inb (nI k) 24 := inb_n hk (by omega)
  have ei : f_X10_in (nI (pk P k)) (1 : Int32) (5 : Int32) = some (bi (decide (1 ≤ pk P k) && decide (pk P k ≤ 5))) := m_inN (lo := 1) (hi := 5) (by omega) (by omega) (by omega)
  simp only [gu_t hi, ix_n (show k < 2 ^ 31 by omega), h1, h3, m_variable _ o3, m_through _ o3, ob_e, lb_e, ei, bi_0]
  unfold gt thr pv
  by_cases c2 : 1 ≤ pk P k <;> by_cases c5 : pk P k ≤ 5 <;> by_cases ct : 3 ≤ pp P k % 6 <;> simp [c2, c5, ct, ob]
theorem PM.row {P : Pg} {m : sh_S} (h : PM P m) {k : Nat} (hk : 5 ≤ k) (g : Nat → Int32) : PM P (ur m k g) := by
  refine ⟨by rw [ur_n _ _ (by omega)]; exact h.1, fun j hj => ?_⟩
  rw [ur_n _ _ (by omega), ur_n _ _ (by omega), ur_n _ _ (by omega), ur_n _ _ (by omega)]
  exact h.2 j hj
theorem PM.slot {P : Pg} {m : sh_S} (h : PM P m) {j : Nat} (hj : j ≠ 0) (v : Int32) : PM P (ur m 0 (upd (m 0) j v)) := by
  refine ⟨by rw [ur_s, upd_n _ _ (Ne.symm hj)]; exact h.1, fun i hi => ?_⟩
  rw [ur_n _ _ (by omega), ur_n _ _ (by omega), ur_n _ _ (by omega), ur_n _ _ (by omega)]
  exact h.2 i hi
