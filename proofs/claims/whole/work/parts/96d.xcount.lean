theorem cnt_add (f : Bf) (a : Nat) : ∀ b, cnt f (a + b) = cnt f a + cnt (fun i => f (a + i)) b
  | 0 => rfl
  | b + 1 => by
    show cnt f (a + b) + (if f (a + b) then 1 else 0) = cnt f a + (cnt (fun i => f (a + i)) b + (if f (a + b) then 1 else 0))
    rw [cnt_add f a b]; omega
theorem land8 (a b : Nat) : a &&& b = 256 * ((a / 256) &&& (b / 256)) + ((a % 256) &&& (b % 256)) := by
  have h1 : (a &&& b) / 2 ^ 8 = (a / 2 ^ 8) &&& (b / 2 ^ 8) := Nat.and_div_two_pow
  have h2 : (a &&& b) % 2 ^ 8 = (a % 2 ^ 8) &&& (b % 2 ^ 8) := Nat.and_mod_two_pow
  have h3 := Nat.div_add_mod (a &&& b) (2 ^ 8)
  rw [h1, h2] at h3
  exact h3.symm
def w4 (a b c d : Nat) : Nat := a + 256 * b + 65536 * c + 16777216 * d
theorem land4 {a b c d : Nat} (ha : a < 256) (hb : b < 256) (hc : c < 256) (hd : d < 256) {m : Nat} (hm : m < 256) : w4 a b c d &&& w4 m m m m = w4 (a &&& m) (b &&& m) (c &&& m) (d &&& m) := by
  have s : ∀ x y : Nat, x < 256 → (x + 256 * y) / 256 = y ∧ (x + 256 * y) % 256 = x := fun x y hx => by omega
  have e : ∀ a b c d : Nat, w4 a b c d = a + 256 * (b + 256 * (c + 256 * d)) := fun a b c d => by unfold w4; omega
  rw [e, e, land8, (s _ _ ha).1, (s _ _ ha).2, (s _ _ hm).1, (s _ _ hm).2, land8 (b + _), (s _ _ hb).1, (s _ _ hb).2, (s _ _ hm).1, (s _ _ hm).2, land8 (c + _), (s _ _ hc).1, (s _ _ hc).2, (s _ _ hm).1, (s _ _ hm).2, e]
  omega
def p1 (b : Nat) : Nat := b - ((b / 2) &&& 0x55)
def q1 (b : Nat) : Nat := (p1 b &&& 0x33) + ((p1 b / 4) &&& 0x33)
def r1 (b : Nat) : Nat := (q1 b + q1 b / 16) % 16
theorem pc_a : ∀ b, b < 256 → ∀ t, t < 2 → ((b / 2 + 128 * t) &&& 0x55 = (b / 2) &&& 0x55) ∧ (b / 2) &&& 0x55 ≤ b := by decide +kernel
theorem pc_b : ∀ b, b < 256 → ∀ t, t < 4 → ((b / 4 + 64 * t) &&& 0x33 = (b / 4) &&& 0x33) := by decide +kernel
theorem pc_c : ∀ b, b < 256 → p1 b < 256 ∧ q1 b ≤ 68 ∧ q1 b % 16 ≤ 4 ∧ r1 b ≤ 8 ∧ ∀ t, t < 5 → ((q1 b + q1 b / 16 + 16 * t) &&& 0x0f = r1 b) := by decide +kernel
theorem pc_d : ∀ b, b < 256 → r1 b = cnt (fun i => b.testBit i) 8 := by decide +kernel
theorem sh_u (x : Int32) (n : Nat) (h : ((Int32.ofNat n).toUInt32 &&& Int32.toUInt32 31).toBitVec % 32 = BitVec.ofNat 32 n) : (((x.toUInt32 >>> ((Int32.ofNat n).toUInt32 &&& Int32.toUInt32 31)).toInt32)).toBitVec = x.toBitVec >>> (BitVec.ofNat 32 n) := by
  show (x.toUInt32 >>> _).toBitVec = _
  rw [UInt32.toBitVec_shiftRight, h]
  rfl

def bv1 (X : BitVec 32) : BitVec 32 := X - ((X >>> 1) &&& 0x55555555#32)
def bv2 (X : BitVec 32) : BitVec 32 := (X &&& 0x33333333#32) + ((X >>> 2) &&& 0x33333333#32)
def bv3 (X : BitVec 32) : BitVec 32 := (X + (X >>> 4)) &&& 0x0f0f0f0f#32
def bv4 (X : BitVec 32) : BitVec 32 := X + (X >>> 8)
def bv5 (X : BitVec 32) : BitVec 32 := (X + (X >>> 16)) &&& 63#32
theorem bv1_n {X : BitVec 32} {a b c d : Nat} (h : X.toNat = w4 a b c d) (ha : a < 256) (hb : b < 256) (hc : c < 256) (hd : d < 256) : (bv1 X).toNat = w4 (p1 a) (p1 b) (p1 c) (p1 d) := by
  unfold bv1
  have e1 : ((X >>> 1) &&& 0x55555555#32).toNat = w4 ((a / 2) &&& 0x55) ((b / 2) &&& 0x55) ((c / 2) &&& 0x55) ((d / 2) &&& 0x55) := by
    rw [BitVec.toNat_and, BitVec.toNat_ushiftRight, Nat.shiftRight_eq_div_pow, h]
    have : w4 a b c d / 2 ^ 1 = w4 (a / 2 + 128 * (b % 2)) (b / 2 + 128 * (c % 2)) (c / 2 + 128 * (d % 2)) (d / 2 + 128 * 0) := by unfold w4; omega
    rw [this, show (0x55555555#32).toNat = w4 0x55 0x55 0x55 0x55 from rfl, land4 (by omega) (by omega) (by omega) (by omega) (by omega), (pc_a a ha (b % 2) (by omega)).1, (pc_a b hb (c % 2) (by omega)).1, (pc_a c hc (d % 2) (by omega)).1, (pc_a d hd 0 (by omega)).1]
  rw [BitVec.toNat_sub, e1, h]
  have A := (pc_a a ha 0 (by omega)).2
  have B := (pc_a b hb 0 (by omega)).2
  have C := (pc_a c hc 0 (by omega)).2
  have D := (pc_a d hd 0 (by omega)).2
  unfold p1
  generalize a / 2 &&& 0x55 = x1 at *
  generalize b / 2 &&& 0x55 = x2 at *
  generalize c / 2 &&& 0x55 = x3 at *
  generalize d / 2 &&& 0x55 = x4 at *
  unfold w4
  omega
theorem bv2_n {X : BitVec 32} {a b c d : Nat} (h : X.toNat = w4 (p1 a) (p1 b) (p1 c) (p1 d)) (ha : a < 256) (hb : b < 256) (hc : c < 256) (hd : d < 256) : (bv2 X).toNat = w4 (q1 a) (q1 b) (q1 c) (q1 d) := by
  unfold bv2
  have A := pc_c a ha
  have B := pc_c b hb
  have C := pc_c c hc
  have D := pc_c d hd
  have e1 : ((X >>> 2) &&& 0x33333333#32).toNat = w4 ((p1 a / 4) &&& 0x33) ((p1 b / 4) &&& 0x33) ((p1 c / 4) &&& 0x33) ((p1 d / 4) &&& 0x33) := by
    rw [BitVec.toNat_and, BitVec.toNat_ushiftRight, Nat.shiftRight_eq_div_pow, h]
    have : w4 (p1 a) (p1 b) (p1 c) (p1 d) / 2 ^ 2 = w4 (p1 a / 4 + 64 * (p1 b % 4)) (p1 b / 4 + 64 * (p1 c % 4)) (p1 c / 4 + 64 * (p1 d % 4)) (p1 d / 4 + 64 * 0) := by unfold w4; omega
    rw [this, show (0x33333333#32).toNat = w4 0x33 0x33 0x33 0x33 from rfl, land4 (by omega) (by omega) (by omega) (by omega) (by omega), pc_b _ A.1 _ (by omega), pc_b _ B.1 _ (by omega), pc_b _ C.1 _ (by omega), pc_b _ D.1 _ (by omega)]
  have e2 : (X &&& 0x33333333#32).toNat = w4 (p1 a &&& 0x33) (p1 b &&& 0x33) (p1 c &&& 0x33) (p1 d &&& 0x33) := by
    rw [BitVec.toNat_and, h, show (0x33333333#32).toNat = w4 0x33 0x33 0x33 0x33 from rfl, land4 A.1 B.1 C.1 D.1 (by omega)]
  rw [BitVec.toNat_add, e1, e2]
  have A2 := A.2.1
  have B2 := B.2.1
  have C2 := C.2.1
  have D2 := D.2.1
  unfold q1 at *
  generalize p1 a &&& 0x33 = x1 at *
  generalize p1 b &&& 0x33 = x2 at *
  generalize p1 c &&& 0x33 = x3 at *
  generalize p1 d &&& 0x33 = x4 at *
  generalize p1 a / 4 &&& 0x33 = y1 at *
  generalize p1 b / 4 &&& 0x33 = y2 at *
  generalize p1 c / 4 &&& 0x33 = y3 at *
  generalize p1 d / 4 &&& 0x33 = y4 at *
  unfold w4
  omega
theorem bv3_n {X : BitVec 32} {a b c d : Nat} (h : X.toNat = w4 (q1 a) (q1 b) (q1 c) (q1 d)) (ha : a < 256) (hb : b < 256) (hc : c < 256) (hd : d < 256) : (bv3 X).toNat = w4 (r1 a) (r1 b) (r1 c) (r1 d) := by
  unfold bv3
  have A := pc_c a ha
  have B := pc_c b hb
  have C := pc_c c hc
  have D := pc_c d hd
  have e1 : (X + (X >>> 4)).toNat = w4 (q1 a + q1 a / 16 + 16 * (q1 b % 16)) (q1 b + q1 b / 16 + 16 * (q1 c % 16)) (q1 c + q1 c / 16 + 16 * (q1 d % 16)) (q1 d + q1 d / 16 + 16 * 0) := by
    rw [BitVec.toNat_add, BitVec.toNat_ushiftRight, Nat.shiftRight_eq_div_pow, h]
    have A2 := A.2.1
    have B2 := B.2.1
    have C2 := C.2.1
    have D2 := D.2.1
    unfold w4
    omega
  rw [BitVec.toNat_and, e1, show (0x0f0f0f0f#32).toNat = w4 0x0f 0x0f 0x0f 0x0f from rfl, land4 (by omega) (by omega) (by omega) (by omega) (by omega), A.2.2.2.2 _ (by omega), B.2.2.2.2 _ (by omega), C.2.2.2.2 _ (by omega), D.2.2.2.2 _ (by omega)]
theorem bv5_n {X : BitVec 32} {a b c d : Nat} (h : X.toNat = w4 a b c d) (ha : a ≤ 8) (hb : b ≤ 8) (hc : c ≤ 8) (hd : d ≤ 8) : (bv5 (bv4 X)).toNat = a + b + c + d := by
  have e1 : (bv4 X).toNat = w4 (a + b) (b + c) (c + d) d := by
    unfold bv4
    rw [BitVec.toNat_add, BitVec.toNat_ushiftRight, Nat.shiftRight_eq_div_pow, h]
    unfold w4
    omega
  unfold bv5
  rw [BitVec.toNat_and, BitVec.toNat_add, BitVec.toNat_ushiftRight, Nat.shiftRight_eq_div_pow, e1, show (63#32).toNat = 2 ^ 6 - 1 from rfl, Nat.and_two_pow_sub_one_eq_mod]
  have e2 : w4 (a + b) (b + c) (c + d) d / 2 ^ 16 = (c + d) + 256 * d := by unfold w4; omega
  have e3 : w4 (a + b) (b + c) (c + d) d + ((c + d) + 256 * d) = (a + b + c + d) + 64 * (4 * (b + c + d) + 1024 * (c + d) + 262144 * d) := by unfold w4; omega
  rw [e2, e3, Nat.mod_eq_of_lt (show _ < 2 ^ 32 by omega), show (2 : Nat) ^ 6 = 64 from rfl, Nat.add_mul_mod_self_left, Nat.mod_eq_of_lt (by omega)]
theorem bc_bv (x : Int32) : f_J6_bitCount_0f7a4 x = some ⟨⟨bv5 (bv4 (bv3 (bv2 (bv1 x.toBitVec))))⟩⟩ := by
  unfold f_J6_bitCount_0f7a4
  simp only [lb_e]
  refine congrArg some (Int32.toBitVec_inj.mp ?_)
  have s1 : ∀ y : Int32, ((y.toUInt32 >>> ((1 : Int32).toUInt32 &&& Int32.toUInt32 31)).toInt32).toBitVec = y.toBitVec >>> 1 := fun y => sh_u y 1 (by decide)
  have s2 : ∀ y : Int32, ((y.toUInt32 >>> ((2 : Int32).toUInt32 &&& Int32.toUInt32 31)).toInt32).toBitVec = y.toBitVec >>> 2 := fun y => sh_u y 2 (by decide)
  have s4 : ∀ y : Int32, ((y.toUInt32 >>> ((4 : Int32).toUInt32 &&& Int32.toUInt32 31)).toInt32).toBitVec = y.toBitVec >>> 4 := fun y => sh_u y 4 (by decide)
  have s8 : ∀ y : Int32, ((y.toUInt32 >>> ((8 : Int32).toUInt32 &&& Int32.toUInt32 31)).toInt32).toBitVec = y.toBitVec >>> 8 := fun y => sh_u y 8 (by decide)
  have s16 : ∀ y : Int32, ((y.toUInt32 >>> ((16 : Int32).toUInt32 &&& Int32.toUInt32 31)).toInt32).toBitVec = y.toBitVec >>> 16 := fun y => sh_u y 16 (by decide)
  simp only [Int32.toBitVec_and, Int32.toBitVec_add, Int32.toBitVec_sub, s1, s2, s4, s8, s16]
  rfl
theorem x_bitCount (f : Bf) : f_J6_bitCount_0f7a4 (mkb f) = some (nI (cnt f 25)) := by
  rw [bc_bv]
  have hb : ∀ i, (mkb f).toBitVec.toNat.testBit i = (decide (i < 25) && f i) := fun i => bt_mkb f i
  generalize hX : (mkb f).toBitVec = X at hb
  have hlt := X.isLt
  have hN : X.toNat = w4 (X.toNat % 256) (X.toNat / 256 % 256) (X.toNat / 65536 % 256) (X.toNat / 16777216 % 256) := by unfold w4; omega
  have h1 := bv1_n hN (by omega) (by omega) (by omega) (by omega)
  have h2 := bv2_n h1 (by omega) (by omega) (by omega) (by omega)
  have h3 := bv3_n h2 (by omega) (by omega) (by omega) (by omega)
  have h5 := bv5_n h3 (pc_c _ (by omega)).2.2.2.1 (pc_c _ (by omega)).2.2.2.1 (pc_c _ (by omega)).2.2.2.1 (pc_c _ (by omega)).2.2.2.1
  rw [pc_d _ (by omega), pc_d _ (by omega), pc_d _ (by omega), pc_d _ (by omega)] at h5
  have bj : ∀ j i, i < 8 → (X.toNat / 2 ^ j % 2 ^ 8).testBit i = (decide (j + i < 25) && f (j + i)) := fun j i hi => by
    rw [Nat.testBit_mod_two_pow, Nat.testBit_div_two_pow, hb, Nat.add_comm]
    simp [hi]
  have c0 : cnt (fun i => (X.toNat % 256).testBit i) 8 = cnt (fun i => decide (i < 25) && f i) 8 := cnt_congr (fun i hi => by
    have := bj 0 i hi
    simpa using this)
  have c1 : cnt (fun i => (X.toNat / 256 % 256).testBit i) 8 = cnt (fun i => (fun i => decide (i < 25) && f i) (8 + i)) 8 := cnt_congr (fun i hi => bj 8 i hi)
  have c2 : cnt (fun i => (X.toNat / 65536 % 256).testBit i) 8 = cnt (fun i => (fun i => decide (i < 25) && f i) (16 + i)) 8 := cnt_congr (fun i hi => bj 16 i hi)
  have c3 : cnt (fun i => (X.toNat / 16777216 % 256).testBit i) 8 = cnt (fun i => (fun i => decide (i < 25) && f i) (24 + i)) 8 := cnt_congr (fun i hi => bj 24 i hi)
  rw [c0, c1, c2, c3, ← cnt_add (fun i => decide (i < 25) && f i) 8 8, ← cnt_add (fun i => decide (i < 25) && f i) 16 8, ← cnt_add (fun i => decide (i < 25) && f i) 24 8] at h5
  have c4 : cnt (fun i => decide (i < 25) && f i) (24 + 8) = cnt f 25 := by
    rw [show 24 + 8 = 25 + 7 from rfl, cnt_add _ 25 7]
    have z : cnt (fun i => (fun i => decide (i < 25) && f i) (25 + i)) 7 = 0 := by
      simp [cnt]
    rw [z, Nat.add_zero]
    exact cnt_congr (fun i hi => by simp [hi])
  rw [c4] at h5
  refine congrArg some (Int32.toBitVec_inj.mp (BitVec.eq_of_toNat_eq ?_))
  show (bv5 (bv4 (bv3 (bv2 (bv1 X))))).toNat = _
  rw [h5]
  have := cnt_le f 25
  show _ = (BitVec.ofNat 32 (cnt f 25)).toNat
  rw [BitVec.toNat_ofNat, Nat.mod_eq_of_lt (by omega)]
