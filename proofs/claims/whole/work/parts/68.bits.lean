/-! ===== pure: bits of longs; Long.bitCount ===== -/
/-- a long's bits, as a number -/
def lU (x : Int) : Nat := (Int64.ofInt x).toBitVec.toNat
theorem lU_lt (x : Int) : lU x < 18446744073709551616 := (Int64.ofInt x).toBitVec.isLt
theorem lU_i (z : Int64) : lU z.toInt = z.toBitVec.toNat := by
  unfold lU
  rw [Int64.ofInt_toInt]
theorem lU_e (x : Int) : (lU x : Int) = x % 18446744073709551616 := by
  unfold lU
  rw [Int64.toBitVec_ofInt, BitVec.toNat_ofInt]
  omega
theorem lU_and (x y : Int) : lU (aw_andL x y) = lU x &&& lU y := by
  unfold aw_andL
  rw [lU_i, Int64.toBitVec_and, BitVec.toNat_and]
  rfl
theorem lU_or (x y : Int) : lU (aw_orL x y) = lU x ||| lU y := by
  unfold aw_orL
  rw [lU_i, Int64.toBitVec_or, BitVec.toNat_or]
  rfl
theorem lU_sh : ∀ k : Nat, k < 64 → ((Int32.ofInt (k : Int)).toInt64.toUInt64 &&& Int64.toUInt64 63).toNat = k := by decide +kernel
theorem lU_ushr (x : Int) {k : Nat} (hk : k < 64) : lU (aw_ushrL x (k : Int)) = lU x >>> k := by
  unfold aw_ushrL
  rw [lU_i]
  show (((Int64.ofInt x).toUInt64 >>> ((Int32.ofInt (k : Int)).toInt64.toUInt64 &&& Int64.toUInt64 63))).toBitVec.toNat = _
  show (((Int64.ofInt x).toUInt64 >>> ((Int32.ofInt (k : Int)).toInt64.toUInt64 &&& Int64.toUInt64 63))).toNat = _
  rw [UInt64.toNat_shiftRight, lU_sh k hk, Nat.mod_eq_of_lt hk]
  rfl
theorem lU_not : ∀ k : Nat, k < 64 → ∀ j : Nat, j < 64 → (lU (aw_xorL (aw_shlL 1 (k : Int)) (-1))).testBit j = !(decide (j = k)) := by decide +kernel
theorem lU_one : ∀ k : Nat, k < 64 → ∀ j : Nat, j < 64 → (lU (aw_shlL 1 (k : Int))).testBit j = decide (j = k) := by decide +kernel
/-- the bit j of a long -/
def lb (x : Int) (j : Nat) : Bool := (lU x).testBit j
theorem lb_or (x : Int) {k j : Nat} (hk : k < 64) (hj : j < 64) : lb (aw_orL x (aw_shlL 1 (k : Int))) j = (lb x j || decide (j = k)) := by
  unfold lb
  rw [lU_or, Nat.testBit_or, lU_one k hk j hj]
theorem lb_no (x : Int) {k j : Nat} (hk : k < 64) (hj : j < 64) : lb (aw_andL x (aw_xorL (aw_shlL 1 (k : Int)) (-1))) j = (lb x j && !(decide (j = k))) := by
  unfold lb
  rw [lU_and, Nat.testBit_and, lU_not k hk j hj]
theorem lU_L {x : Int} (h : (lU x : Int) < 9223372036854775808) (h0 : -9223372036854775808 ≤ x) (h1 : x < 9223372036854775808) : x = lU x := by
  have := lU_e x
  omega
theorem lb_is (x : Int) {k : Nat} (hk : k < 64) : (aw_cmpL (aw_andL (aw_ushrL x (k : Int)) 1) 0 = 0) ↔ lb x k = false := by
  have e : lU (aw_andL (aw_ushrL x (k : Int)) 1) = if lb x k then 1 else 0 := by
    rw [lU_and, lU_ushr x hk, show lU 1 = 1 from by decide +kernel, Nat.and_one_is_mod]
    unfold lb
    rw [Nat.testBit_eq_decide_div_mod_eq, Nat.shiftRight_eq_div_pow]
    have := Nat.mod_two_eq_zero_or_one (lU x / 2 ^ k)
    rcases this with e | e <;> simp [e]
  have h0 : -9223372036854775808 ≤ aw_andL (aw_ushrL x (k : Int)) 1 ∧ aw_andL (aw_ushrL x (k : Int)) 1 < 9223372036854775808 := by
    unfold aw_andL
    exact ⟨Int64.le_toInt _, Int64.toInt_lt _⟩
  have e2 := lU_L (x := aw_andL (aw_ushrL x (k : Int)) 1) (by rw [e]; split <;> decide) h0.1 h0.2
  rw [e2, e]
  cases lb x k with
  | true => simp [aw_cmpL]
  | false => simp [aw_cmpL]
/-! Long.bitCount -/
def pc8 (l : Nat) : Nat := ct (fun j => l.testBit j) 8
def bz_m5 : Nat → Nat
  | 0 => 0
  | k + 1 => 256 * bz_m5 k + 85
def bz_m3 : Nat → Nat
  | 0 => 0
  | k + 1 => 256 * bz_m3 k + 51
def bz_mf : Nat → Nat
  | 0 => 0
  | k + 1 => 256 * bz_mf k + 15
def bz_t1 (k u : Nat) : Nat := u - ((u >>> 1) &&& bz_m5 k)
def bz_t2 (k u : Nat) : Nat := (u &&& bz_m3 k) + ((u >>> 2) &&& bz_m3 k)
def bz_t3 (k u : Nat) : Nat := (u + (u >>> 4)) &&& bz_mf k
theorem bz_an_split (a M : Nat) : a &&& M = 256 * (a / 256 &&& M / 256) + (a % 256 &&& M % 256) := by
  have h1 := Nat.and_div_two_pow (a := a) (b := M) (n := 8)
  have h2 := Nat.and_mod_two_pow (a := a) (b := M) (n := 8)
  have h3 := Nat.div_add_mod (a &&& M) 256
  rw [show (2 : Nat) ^ 8 = 256 by decide] at h1 h2
  rw [← h1, ← h2]
  exact h3.symm
theorem bz_d1 : ∀ b : Nat, b < 2 → ∀ l : Nat, l < 256 → ((128 * b + l / 2) % 256 &&& 85) = (l >>> 1 &&& 85) := by decide +kernel
theorem bz_d2 : ∀ b : Nat, b < 4 → ∀ l : Nat, l < 256 → ((64 * b + l / 4) % 256 &&& 51) = (l >>> 2 &&& 51) := by decide +kernel
theorem bz_s1 (k h l : Nat) (hl : l < 256) : bz_t1 (k + 1) (256 * h + l) = 256 * bz_t1 k h + (l - (l >>> 1 &&& 85)) := by
  unfold bz_t1
  have e : ((256 * h + l) >>> 1) &&& bz_m5 (k + 1) = 256 * (h >>> 1 &&& bz_m5 k) + (l >>> 1 &&& 85) := by
    rw [bz_an_split]
    have a1 : (256 * h + l) >>> 1 / 256 = h >>> 1 := by rw [Nat.shiftRight_eq_div_pow, Nat.shiftRight_eq_div_pow]; omega
    have a2 : bz_m5 (k + 1) / 256 = bz_m5 k := by show (256 * bz_m5 k + 85) / 256 = _; omega
    have a3 : bz_m5 (k + 1) % 256 = 85 := by show (256 * bz_m5 k + 85) % 256 = _; omega
    have a4 : (256 * h + l) >>> 1 % 256 = (128 * (h % 2) + l / 2) % 256 := by rw [Nat.shiftRight_eq_div_pow]; omega
    rw [a1, a2, a3, a4, bz_d1 _ (Nat.mod_lt _ (by decide)) l hl]
  have b1 : h >>> 1 &&& bz_m5 k ≤ h := Nat.le_trans Nat.and_le_left (by rw [Nat.shiftRight_eq_div_pow]; omega)
  have b2 : l >>> 1 &&& 85 ≤ l := Nat.le_trans Nat.and_le_left (by rw [Nat.shiftRight_eq_div_pow]; omega)
  rw [e]
  omega
theorem bz_s2 (k h l : Nat) (hl : l < 256) : bz_t2 (k + 1) (256 * h + l) = 256 * bz_t2 k h + ((l &&& 51) + (l >>> 2 &&& 51)) := by
  unfold bz_t2
  have a2 : bz_m3 (k + 1) / 256 = bz_m3 k := by show (256 * bz_m3 k + 51) / 256 = _; omega
  have a3 : bz_m3 (k + 1) % 256 = 51 := by show (256 * bz_m3 k + 51) % 256 = _; omega
  rw [bz_an_split (256 * h + l), bz_an_split ((256 * h + l) >>> 2), a2, a3]
  have a1 : (256 * h + l) >>> 2 / 256 = h >>> 2 := by rw [Nat.shiftRight_eq_div_pow, Nat.shiftRight_eq_div_pow]; omega
  have a4 : (256 * h + l) >>> 2 % 256 = (64 * (h % 4) + l / 4) % 256 := by rw [Nat.shiftRight_eq_div_pow]; omega
  have a5 : (256 * h + l) / 256 = h := by omega
  have a6 : (256 * h + l) % 256 = l := by omega
  rw [a1, a4, a5, a6, bz_d2 _ (Nat.mod_lt _ (by decide)) l hl]
  omega
theorem bz_t2_nib (k u : Nat) : bz_t2 k u % 16 ≤ 6 ∧ (bz_t2 k u / 16 % 16 ≤ 6) := by
  cases k with
  | zero => unfold bz_t2 bz_m3; simp
  | succ k =>
    have hu : u = 256 * (u / 256) + u % 256 := by omega
    rw [hu, bz_s2 k _ _ (Nat.mod_lt _ (by decide))]
    have dd : ∀ l : Nat, l < 256 → ((l &&& 51) + (l >>> 2 &&& 51)) % 16 ≤ 6 ∧ ((l &&& 51) + (l >>> 2 &&& 51)) / 16 % 16 ≤ 6 ∧ ((l &&& 51) + (l >>> 2 &&& 51)) < 256 := by decide +kernel
    have := dd (u % 256) (Nat.mod_lt _ (by decide))
    omega
theorem bz_s3 (k h l : Nat) (hl : l < 256) (hn : l % 16 ≤ 6 ∧ l / 16 ≤ 6) (hh : h % 16 ≤ 6) : bz_t3 (k + 1) (256 * h + l) = 256 * bz_t3 k h + ((l + l / 16) &&& 15) := by
  unfold bz_t3
  have a2 : bz_mf (k + 1) / 256 = bz_mf k := by show (256 * bz_mf k + 15) / 256 = _; omega
  have a3 : bz_mf (k + 1) % 256 = 15 := by show (256 * bz_mf k + 15) % 256 = _; omega
  rw [bz_an_split, a2, a3]
  have a0 : (256 * h + l) >>> 4 = 16 * h + l / 16 := by rw [Nat.shiftRight_eq_div_pow]; omega
  rw [a0]
  have a1 : (256 * h + l + (16 * h + l / 16)) / 256 = h + h >>> 4 := by rw [Nat.shiftRight_eq_div_pow]; omega
  have a4 : (256 * h + l + (16 * h + l / 16)) % 256 &&& 15 = (l + l / 16) &&& 15 := by
    rw [show (15 : Nat) = 2 ^ 4 - 1 by decide, Nat.and_two_pow_sub_one_eq_mod, Nat.and_two_pow_sub_one_eq_mod]
    omega
  rw [a1, a4]
theorem bz_by8 : ∀ l : Nat, l < 256 → (((l - (l >>> 1 &&& 85)) &&& 51) + ((l - (l >>> 1 &&& 85)) >>> 2 &&& 51)) % 16 ≤ 6 ∧ (((l - (l >>> 1 &&& 85)) &&& 51) + ((l - (l >>> 1 &&& 85)) >>> 2 &&& 51)) / 16 ≤ 6 ∧ (((l - (l >>> 1 &&& 85)) &&& 51) + ((l - (l >>> 1 &&& 85)) >>> 2 &&& 51)) < 256 ∧ l - (l >>> 1 &&& 85) < 256 ∧ (((((l - (l >>> 1 &&& 85)) &&& 51) + ((l - (l >>> 1 &&& 85)) >>> 2 &&& 51)) + (((l - (l >>> 1 &&& 85)) &&& 51) + ((l - (l >>> 1 &&& 85)) >>> 2 &&& 51)) / 16) &&& 15) = pc8 l ∧ pc8 l ≤ 8 := by decide +kernel
/-- the first three steps: each byte is how many bits it has -/
theorem bz_t_all (k h l : Nat) (hl : l < 256) : bz_t3 (k + 1) (bz_t2 (k + 1) (bz_t1 (k + 1) (256 * h + l))) = 256 * bz_t3 k (bz_t2 k (bz_t1 k h)) + pc8 l := by
  obtain ⟨b1, b2, b3, b4, b5, b6⟩ := bz_by8 l hl
  rw [bz_s1 k h l hl, bz_s2 k _ _ b4, bz_s3 k _ _ b3 ⟨b1, b2⟩ (bz_t2_nib _ _).1, b5]
theorem pc8_le {l : Nat} (hl : l < 256) : pc8 l ≤ 8 := (bz_by8 l hl).2.2.2.2.2
theorem bz_t_zero (u : Nat) : bz_t3 0 (bz_t2 0 (bz_t1 0 u)) = 0 := by
  show _ &&& 0 = 0
  exact Nat.and_zero _
theorem bz_t_bytes (u : Nat) : bz_t3 8 (bz_t2 8 (bz_t1 8 u)) = pc8 (u % 256) + 256 * pc8 (u / 256 % 256) + 65536 * pc8 (u / 65536 % 256) + 16777216 * pc8 (u / 16777216 % 256) + 4294967296 * pc8 (u / 4294967296 % 256) + 1099511627776 * pc8 (u / 1099511627776 % 256) + 281474976710656 * pc8 (u / 281474976710656 % 256) + 72057594037927936 * pc8 (u / 72057594037927936 % 256) := by
  have st : ∀ k u, bz_t3 (k + 1) (bz_t2 (k + 1) (bz_t1 (k + 1) u)) = 256 * bz_t3 k (bz_t2 k (bz_t1 k (u / 256))) + pc8 (u % 256) := by
    intro k u
    have hu : u = 256 * (u / 256) + u % 256 := by omega
    have := bz_t_all k (u / 256) (u % 256) (Nat.mod_lt _ (by decide))
    rw [← hu] at this
    exact this
  rw [st 7, st 6, st 5, st 4, st 3, st 2, st 1, st 0, bz_t_zero]
  have e2 : u / 256 / 256 = u / 65536 := by omega
  have e3 : u / 65536 / 256 = u / 16777216 := by omega
  have e4 : u / 16777216 / 256 = u / 4294967296 := by omega
  have e5 : u / 4294967296 / 256 = u / 1099511627776 := by omega
  have e6 : u / 1099511627776 / 256 = u / 281474976710656 := by omega
  have e7 : u / 281474976710656 / 256 = u / 72057594037927936 := by omega
  rw [e2, e3, e4, e5, e6, e7]
  generalize pc8 (u % 256) = p0
  generalize pc8 (u / 256 % 256) = p1
  generalize pc8 (u / 65536 % 256) = p2
  generalize pc8 (u / 16777216 % 256) = p3
  generalize pc8 (u / 4294967296 % 256) = p4
  generalize pc8 (u / 1099511627776 % 256) = p5
  generalize pc8 (u / 281474976710656 % 256) = p6
  generalize pc8 (u / 72057594037927936 % 256) = p7
  omega
theorem lU_sub {x y : Int} (h : lU y ≤ lU x) : lU (aw_wl (x - y)) = lU x - lU y := by
  have h1 := lU_e x
  have h2 := lU_e y
  have h3 := lU_e (aw_wl (x - y))
  have h4 := lU_lt x
  unfold aw_wl at h3 ⊢
  omega
theorem lU_add {x y : Int} (h : lU x + lU y < 18446744073709551616) : lU (aw_wl (x + y)) = lU x + lU y := by
  have h1 := lU_e x
  have h2 := lU_e y
  have h3 := lU_e (aw_wl (x + y))
  unfold aw_wl at h3 ⊢
  omega
theorem and127 (z : Int) : aw_and (aw_w z) 127 = ((lU z % 128 : Nat) : Int) := by
  have e : (Int32.ofInt (aw_w z) &&& Int32.ofInt 127).toBitVec.toNat = lU z % 128 := by
    rw [Int32.toBitVec_and, BitVec.toNat_and, Int32.toBitVec_ofInt, BitVec.toNat_ofInt]
    have h7 : (Int32.ofInt 127).toBitVec.toNat = 2 ^ 7 - 1 := by decide +kernel
    rw [h7, Nat.and_two_pow_sub_one_eq_mod]
    have h3 := lU_e z
    unfold aw_w
    omega
  unfold aw_and
  have e2 : (Int32.ofInt (aw_w z) &&& Int32.ofInt 127).toInt = ((Int32.ofInt (aw_w z) &&& Int32.ofInt 127).toBitVec.toNat : Int) := by
    show (Int32.ofInt (aw_w z) &&& Int32.ofInt 127).toBitVec.toInt = _
    rw [BitVec.toInt_eq_toNat_of_lt]
    rw [e]
    omega
  rw [e2, e]
theorem ct_8 (p : Nat → Bool) (a : Nat) : ct p (a + 8) = ct p a + ct (fun j => p (a + j)) 8 := by
  have : ∀ k, ct p (a + k) = ct p a + ct (fun j => p (a + j)) k := by
    intro k
    induction k with
    | zero => rfl
    | succ k ih =>
      show ct p (a + k) + (if p (a + k) = true then 1 else 0) = ct p a + (ct (fun j => p (a + j)) k + (if p (a + k) = true then 1 else 0))
      rw [ih, Nat.add_assoc]
  exact this 8
theorem pc8_at (u i : Nat) : ct (fun j => u.testBit (8 * i + j)) 8 = pc8 (u / 2 ^ (8 * i) % 256) := by
  have : ∀ j, j < 8 → (u / 2 ^ (8 * i) % 256).testBit j = u.testBit (8 * i + j) := by
    intro j hj
    rw [show (256 : Nat) = 2 ^ 8 by decide, Nat.testBit_mod_two_pow, Nat.testBit_div_two_pow]
    simp [hj, Nat.add_comm]
  exact ct_cong (fun k hk => (this k hk).symm)
theorem ct_64 (u : Nat) : ct (fun j => u.testBit j) 64 = pc8 (u % 256) + pc8 (u / 256 % 256) + pc8 (u / 65536 % 256) + pc8 (u / 16777216 % 256) + pc8 (u / 4294967296 % 256) + pc8 (u / 1099511627776 % 256) + pc8 (u / 281474976710656 % 256) + pc8 (u / 72057594037927936 % 256) := by
  have q : ∀ i, ct (fun j => (fun j => u.testBit j) (8 * i + j)) 8 = pc8 (u / 2 ^ (8 * i) % 256) := fun i => pc8_at u i
  have e7 := ct_8 (fun j => u.testBit j) 56
  have e6 := ct_8 (fun j => u.testBit j) 48
  have e5 := ct_8 (fun j => u.testBit j) 40
  have e4 := ct_8 (fun j => u.testBit j) 32
  have e3 := ct_8 (fun j => u.testBit j) 24
  have e2 := ct_8 (fun j => u.testBit j) 16
  have e1 := ct_8 (fun j => u.testBit j) 8
  have e0 := ct_8 (fun j => u.testBit j) 0
  have q0 := q 0
  have q1 := q 1
  have q2 := q 2
  have q3 := q 3
  have q4 := q 4
  have q5 := q 5
  have q6 := q 6
  have q7 := q 7
  simp only [Nat.mul_zero, Nat.mul_one, Nat.reduceMul, Nat.reducePow, Nat.reduceAdd, Nat.pow_zero, Nat.div_one] at *
  have z : ct (fun j => u.testBit j) 0 = 0 := rfl
  rw [e7, e6, e5, e4, e3, e2, e1, e0, q0, q1, q2, q3, q4, q5, q6, q7, z, Nat.zero_add]
def bz_l1 (x : Int) : Int := aw_wl (x - aw_andL (aw_ushrL x 1) 6148914691236517205)
def bz_l2 (x : Int) : Int := aw_wl (aw_andL (bz_l1 x) 3689348814741910323 + aw_andL (aw_ushrL (bz_l1 x) 2) 3689348814741910323)
def bz_l3 (x : Int) : Int := aw_andL (aw_wl (bz_l2 x + aw_ushrL (bz_l2 x) 4)) 1085102592571150095
def bz_l4 (x : Int) : Int := aw_wl (bz_l3 x + aw_ushrL (bz_l3 x) 8)
def bz_l5 (x : Int) : Int := aw_wl (bz_l4 x + aw_ushrL (bz_l4 x) 16)
def bz_l6 (x : Int) : Int := aw_wl (bz_l5 x + aw_ushrL (bz_l5 x) 32)
theorem bz_lc : lU 6148914691236517205 = bz_m5 8 ∧ lU 3689348814741910323 = bz_m3 8 ∧ lU 1085102592571150095 = bz_mf 8 ∧ bz_m3 8 = 3689348814741910323 ∧ bz_mf 8 = 1085102592571150095 := by
  decide +kernel
theorem bz_l1_e (x : Int) : lU (bz_l1 x) = bz_t1 8 (lU x) := by
  unfold bz_l1 bz_t1
  have h : lU (aw_andL (aw_ushrL x 1) 6148914691236517205) = (lU x) >>> 1 &&& bz_m5 8 := by
    rw [lU_and, bz_lc.1]
    exact congrArg (· &&& bz_m5 8) (lU_ushr x (k := 1) (by decide))
  rw [lU_sub, h]
  rw [h]
  exact Nat.le_trans Nat.and_le_left (by rw [Nat.shiftRight_eq_div_pow]; omega)
theorem bz_l2_e (x : Int) : lU (bz_l2 x) = bz_t2 8 (bz_t1 8 (lU x)) := by
  unfold bz_l2 bz_t2
  have h1 : lU (aw_andL (bz_l1 x) 3689348814741910323) = bz_t1 8 (lU x) &&& bz_m3 8 := by rw [lU_and, bz_lc.2.1, bz_l1_e]
  have h2 : lU (aw_andL (aw_ushrL (bz_l1 x) 2) 3689348814741910323) = (bz_t1 8 (lU x)) >>> 2 &&& bz_m3 8 := by
    rw [lU_and, bz_lc.2.1, ← bz_l1_e]
    exact congrArg (· &&& bz_m3 8) (lU_ushr (bz_l1 x) (k := 2) (by decide))
  have b1 : bz_t1 8 (lU x) &&& bz_m3 8 ≤ bz_m3 8 := Nat.and_le_right
  have b2 : (bz_t1 8 (lU x)) >>> 2 &&& bz_m3 8 ≤ bz_m3 8 := Nat.and_le_right
  have b3 := bz_lc.2.2.2.1
  rw [lU_add (by rw [h1, h2]; omega), h1, h2]
theorem bz_t2_le (u : Nat) : bz_t2 8 u ≤ 7378697629483820646 := by
  unfold bz_t2
  have b1 : u &&& bz_m3 8 ≤ bz_m3 8 := Nat.and_le_right
  have b2 : u >>> 2 &&& bz_m3 8 ≤ bz_m3 8 := Nat.and_le_right
  have b3 := bz_lc.2.2.2.1
  omega
theorem bz_l3_e (x : Int) : lU (bz_l3 x) = bz_t3 8 (bz_t2 8 (bz_t1 8 (lU x))) := by
  unfold bz_l3 bz_t3
  have h2 : lU (aw_ushrL (bz_l2 x) 4) = (bz_t2 8 (bz_t1 8 (lU x))) >>> 4 := by
    rw [← bz_l2_e]
    exact lU_ushr (bz_l2 x) (k := 4) (by decide)
  have b := bz_t2_le (bz_t1 8 (lU x))
  have b2 : (bz_t2 8 (bz_t1 8 (lU x))) >>> 4 ≤ bz_t2 8 (bz_t1 8 (lU x)) := by rw [Nat.shiftRight_eq_div_pow]; omega
  rw [lU_and, bz_lc.2.2.1, lU_add (by rw [bz_l2_e, h2]; omega), bz_l2_e, h2]
theorem bz_fin1 {p0 p1 p2 p3 p4 p5 p6 p7 T : Nat} (q0 : p0 ≤ 8) (h : T = p0 + 256 * p1 + 65536 * p2 + 16777216 * p3 + 4294967296 * p4 + 1099511627776 * p5 + 281474976710656 * p6 + 72057594037927936 * p7) : T / 256 = p1 + 256 * p2 + 65536 * p3 + 16777216 * p4 + 4294967296 * p5 + 1099511627776 * p6 + 281474976710656 * p7 := by
  omega
theorem bz_fin2 {a0 a1 a2 a3 a4 a5 a6 a7 T : Nat} (q0 : a0 ≤ 16) (q1 : a1 ≤ 16) (h : T = a0 + 256 * a1 + 65536 * a2 + 16777216 * a3 + 4294967296 * a4 + 1099511627776 * a5 + 281474976710656 * a6 + 72057594037927936 * a7) : T / 65536 = a2 + 256 * a3 + 65536 * a4 + 16777216 * a5 + 4294967296 * a6 + 1099511627776 * a7 := by
  omega
theorem bz_fin3 {a0 a1 a2 a3 a4 a5 a6 a7 T : Nat} (q0 : a0 ≤ 32) (q1 : a1 ≤ 32) (q2 : a2 ≤ 32) (q3 : a3 ≤ 32) (h : T = a0 + 256 * a1 + 65536 * a2 + 16777216 * a3 + 4294967296 * a4 + 1099511627776 * a5 + 281474976710656 * a6 + 72057594037927936 * a7) : T / 4294967296 = a4 + 256 * a5 + 65536 * a6 + 16777216 * a7 := by
  omega
theorem bz_fin4 {a0 a1 a2 a3 a4 a5 a6 a7 T : Nat} (q0 : a0 ≤ 64) (h : T = a0 + 256 * a1 + 65536 * a2 + 16777216 * a3 + 4294967296 * a4 + 1099511627776 * a5 + 281474976710656 * a6 + 72057594037927936 * a7) : T % 128 = a0 := by
  omega
theorem bz_finB {a0 a1 a2 a3 a4 a5 a6 a7 T : Nat} (q0 : a0 ≤ 64) (q1 : a1 ≤ 64) (q2 : a2 ≤ 64) (q3 : a3 ≤ 64) (q4 : a4 ≤ 64) (q5 : a5 ≤ 64) (q6 : a6 ≤ 64) (q7 : a7 ≤ 64) (h : T = a0 + 256 * a1 + 65536 * a2 + 16777216 * a3 + 4294967296 * a4 + 1099511627776 * a5 + 281474976710656 * a6 + 72057594037927936 * a7) : T < 9223372036854775808 := by
  omega
theorem bz_fin {p0 p1 p2 p3 p4 p5 p6 p7 T : Nat} (q0 : p0 ≤ 8) (q1 : p1 ≤ 8) (q2 : p2 ≤ 8) (q3 : p3 ≤ 8) (q4 : p4 ≤ 8) (q5 : p5 ≤ 8) (q6 : p6 ≤ 8) (q7 : p7 ≤ 8) (h : T = p0 + 256 * p1 + 65536 * p2 + 16777216 * p3 + 4294967296 * p4 + 1099511627776 * p5 + 281474976710656 * p6 + 72057594037927936 * p7) : ∀ A B C : Nat, A = T + T / 256 → B = A + A / 65536 → C = B + B / 4294967296 → C % 128 = p0 + p1 + p2 + p3 + p4 + p5 + p6 + p7 ∧ T < 9223372036854775808 ∧ A < 9223372036854775808 ∧ B < 9223372036854775808 := by
  intro A B C hA hB hC
  have h1 : A = (p0 + p1) + 256 * (p1 + p2) + 65536 * (p2 + p3) + 16777216 * (p3 + p4) + 4294967296 * (p4 + p5) + 1099511627776 * (p5 + p6) + 281474976710656 * (p6 + p7) + 72057594037927936 * p7 := by
    have := bz_fin1 q0 h
    clear hB hC
    omega
  have h2 : B = (p0 + p1 + p2 + p3) + 256 * (p1 + p2 + p3 + p4) + 65536 * (p2 + p3 + p4 + p5) + 16777216 * (p3 + p4 + p5 + p6) + 4294967296 * (p4 + p5 + p6 + p7) + 1099511627776 * (p5 + p6 + p7) + 281474976710656 * (p6 + p7) + 72057594037927936 * p7 := by
    have := bz_fin2 (by omega) (by omega) h1
    rw [hB, this, h1]
    clear hB hC hA h h1 this
    omega
  have h3 : C = (p0 + p1 + p2 + p3 + p4 + p5 + p6 + p7) + 256 * (p1 + p2 + p3 + p4 + (p5 + p6 + p7)) + 65536 * (p2 + p3 + p4 + p5 + (p6 + p7)) + 16777216 * (p3 + p4 + p5 + p6 + p7) + 4294967296 * (p4 + p5 + p6 + p7) + 1099511627776 * (p5 + p6 + p7) + 281474976710656 * (p6 + p7) + 72057594037927936 * p7 := by
    have := bz_fin3 (by omega) (by omega) (by omega) (by omega) h2
    rw [hC, this, h2]
    clear hB hC hA h h1 h2 this
    omega
  clear hA hB hC
  exact ⟨bz_fin4 (by omega) h3, bz_finB (by omega) (by omega) (by omega) (by omega) (by omega) (by omega) (by omega) (by omega) h, bz_finB (by omega) (by omega) (by omega) (by omega) (by omega) (by omega) (by omega) (by omega) h1, bz_finB (by omega) (by omega) (by omega) (by omega) (by omega) (by omega) (by omega) (by omega) h2⟩
theorem bz_l6_e (x : Int) : lU (bz_l6 x) % 128 = ct (lb x) 64 := by
  have e3 := (bz_l3_e x).trans (bz_t_bytes _)
  have q : ∀ k, pc8 (lU x / k % 256) ≤ 8 := fun k => pc8_le (Nat.mod_lt _ (by decide))
  have F := bz_fin (pc8_le (Nat.mod_lt _ (by decide))) (q _) (q _) (q _) (q _) (q _) (q _) (q _) e3
  have e : ct (lb x) 64 = _ := ct_64 (lU x)
  have s4 : lU (aw_ushrL (bz_l3 x) 8) = lU (bz_l3 x) / 256 := (lU_ushr (bz_l3 x) (k := 8) (by decide)).trans (Nat.shiftRight_eq_div_pow _ _)
  have s5 : lU (aw_ushrL (bz_l4 x) 16) = lU (bz_l4 x) / 65536 := (lU_ushr (bz_l4 x) (k := 16) (by decide)).trans (Nat.shiftRight_eq_div_pow _ _)
  have s6 : lU (aw_ushrL (bz_l5 x) 32) = lU (bz_l5 x) / 4294967296 := (lU_ushr (bz_l5 x) (k := 32) (by decide)).trans (Nat.shiftRight_eq_div_pow _ _)
  have B0 := (F _ _ _ rfl rfl rfl).2
  clear e3
  have e4 : lU (bz_l4 x) = lU (bz_l3 x) + lU (bz_l3 x) / 256 := by
    unfold bz_l4
    have b := B0.2.1
    rw [lU_add (by rw [s4]; clear s5 s6 e F B0; omega), s4]
  have e5 : lU (bz_l5 x) = lU (bz_l4 x) + lU (bz_l4 x) / 65536 := by
    unfold bz_l5
    have b := B0.2.2
    rw [← e4] at b
    rw [lU_add (by rw [s5]; clear s4 s6 e F B0; omega), s5]
  have e6 : lU (bz_l6 x) = lU (bz_l5 x) + lU (bz_l5 x) / 4294967296 := by
    unfold bz_l6
    have b := B0.2.2
    rw [← e4, ← e5] at b
    rw [lU_add (by rw [s6]; clear s4 s5 e F B0; omega), s6]
  rw [e]
  exact (F _ _ _ e4 e5 e6).1
theorem lbc_e (x : Int) : aw_and (aw_w (bz_l6 x)) 127 = (ct (lb x) 64 : Int) := by
  rw [and127, bz_l6_e]
theorem lbc_ok (N : Nat) (x : Int) (w : aw_W) : j_Long_bitCount N x w = some ((ct (lb x) 64 : Int), w) := by
  rw [← lbc_e]
  rfl
