/-! ===== the abstract walk: numbers ===== -/
def aw_w (x : Int) : Int := (x + 2147483648) % 4294967296 - 2147483648
def aw_wl (x : Int) : Int := (x + 9223372036854775808) % 18446744073709551616 - 9223372036854775808
def aw_I (x : Int) : Prop := -2147483648 ≤ x ∧ x < 2147483648
def aw_L (x : Int) : Prop := -9223372036854775808 ≤ x ∧ x < 9223372036854775808
theorem aw_toInt (x : Int) : (Int32.ofInt x).toInt = aw_w x := by
  rw [Int32.toInt_ofInt]
  change x.bmod 4294967296 = _
  unfold aw_w
  rw [Int.bmod_def]
  split <;> omega
theorem aw_toIntL (x : Int) : (Int64.ofInt x).toInt = aw_wl x := by
  rw [Int64.toInt_ofInt]
  change x.bmod 18446744073709551616 = _
  unfold aw_wl
  rw [Int.bmod_def]
  split <;> omega
theorem aw_id {x : Int} (h : aw_I x) : aw_w x = x := by unfold aw_I at h; unfold aw_w; omega
theorem aw_idL {x : Int} (h : aw_L x) : aw_wl x = x := by unfold aw_L at h; unfold aw_wl; omega
theorem aw_wI (x : Int) : aw_I (aw_w x) := by unfold aw_w aw_I; omega
theorem aw_wL (x : Int) : aw_L (aw_wl x) := by unfold aw_wl aw_L; omega
theorem aw_ofw (x : Int) : Int32.ofInt (aw_w x) = Int32.ofInt x := by rw [← aw_toInt, Int32.ofInt_toInt]
theorem aw_ofwl (x : Int) : Int64.ofInt (aw_wl x) = Int64.ofInt x := by rw [← aw_toIntL, Int64.ofInt_toInt]
theorem aw_back {x : Int} (h : aw_I x) : (Int32.ofInt x).toInt = x := by rw [aw_toInt, aw_id h]
theorem aw_backL {x : Int} (h : aw_L x) : (Int64.ofInt x).toInt = x := by rw [aw_toIntL, aw_idL h]
theorem aw_Ii (z : Int32) : aw_I z.toInt := by rw [← Int32.ofInt_toInt z, aw_toInt]; exact aw_wI _
theorem aw_Ll (z : Int64) : aw_L z.toInt := by rw [← Int64.ofInt_toInt z, aw_toIntL]; exact aw_wL _
theorem aw_lt {x y : Int} (hx : aw_I x) (hy : aw_I y) : Int32.ofInt x < Int32.ofInt y ↔ x < y := by rw [Int32.lt_iff_toInt_lt, aw_back hx, aw_back hy]
theorem aw_le {x y : Int} (hx : aw_I x) (hy : aw_I y) : Int32.ofInt x ≤ Int32.ofInt y ↔ x ≤ y := by rw [Int32.le_iff_toInt_le, aw_back hx, aw_back hy]
theorem aw_eq {x y : Int} (hx : aw_I x) (hy : aw_I y) : Int32.ofInt x = Int32.ofInt y ↔ x = y := by rw [← Int32.toInt_inj, aw_back hx, aw_back hy]
theorem aw_ltL {x y : Int} (hx : aw_L x) (hy : aw_L y) : Int64.ofInt x < Int64.ofInt y ↔ x < y := by rw [Int64.lt_iff_toInt_lt, aw_backL hx, aw_backL hy]
theorem aw_eqL {x y : Int} (hx : aw_L x) (hy : aw_L y) : Int64.ofInt x = Int64.ofInt y ↔ x = y := by rw [← Int64.toInt_inj, aw_backL hx, aw_backL hy]
theorem aw_add32 (x y : Int) : Int32.ofInt x + Int32.ofInt y = Int32.ofInt (aw_w (x + y)) := by rw [aw_ofw, Int32.ofInt_add]
theorem aw_sub32 (x y : Int) : Int32.ofInt x - Int32.ofInt y = Int32.ofInt (aw_w (x - y)) := by rw [aw_ofw, Int32.ofInt_sub]
theorem aw_mul32 (x y : Int) : Int32.ofInt x * Int32.ofInt y = Int32.ofInt (aw_w (x * y)) := by rw [aw_ofw, Int32.ofInt_mul]
theorem aw_neg32 (x : Int) : -Int32.ofInt x = Int32.ofInt (aw_w (-x)) := by rw [aw_ofw, Int32.ofInt_neg]
theorem aw_div32 {x y : Int} (hx : aw_I x) (hy : aw_I y) : Int32.ofInt x / Int32.ofInt y = Int32.ofInt (aw_w (x.tdiv y)) := by
  rw [← aw_toInt, Int32.ofInt_toInt, ← Int32.toInt_inj, Int32.toInt_div, aw_back hx, aw_back hy, Int32.toInt_ofInt]
theorem aw_rem32 {x y : Int} (hx : aw_I x) (hy : aw_I y) : Int32.ofInt x - Int32.ofInt x / Int32.ofInt y * Int32.ofInt y = Int32.ofInt (aw_w (x.tmod y)) := by
  rw [aw_div32 hx hy, aw_ofw, aw_ofw, ← Int32.ofInt_mul, ← Int32.ofInt_sub, Int.tmod_def, Int.mul_comm]
theorem aw_add64 (x y : Int) : Int64.ofInt x + Int64.ofInt y = Int64.ofInt (aw_wl (x + y)) := by rw [aw_ofwl, Int64.ofInt_add]
theorem aw_sub64 (x y : Int) : Int64.ofInt x - Int64.ofInt y = Int64.ofInt (aw_wl (x - y)) := by rw [aw_ofwl, Int64.ofInt_sub]
theorem aw_mul64 (x y : Int) : Int64.ofInt x * Int64.ofInt y = Int64.ofInt (aw_wl (x * y)) := by rw [aw_ofwl, Int64.ofInt_mul]
theorem aw_div64 {x y : Int} (hx : aw_L x) (hy : aw_L y) : Int64.ofInt x / Int64.ofInt y = Int64.ofInt (aw_wl (x.tdiv y)) := by
  rw [← aw_toIntL, Int64.ofInt_toInt, ← Int64.toInt_inj, Int64.toInt_div, aw_backL hx, aw_backL hy, Int64.toInt_ofInt]
theorem aw_rem64 {x y : Int} (hx : aw_L x) (hy : aw_L y) : Int64.ofInt x - Int64.ofInt x / Int64.ofInt y * Int64.ofInt y = Int64.ofInt (aw_wl (x.tmod y)) := by
  rw [aw_div64 hx hy, aw_ofwl, aw_ofwl, ← Int64.ofInt_mul, ← Int64.ofInt_sub, Int.tmod_def, Int.mul_comm]
theorem aw_wide {x : Int} (hx : aw_I x) : (Int32.ofInt x).toInt64 = Int64.ofInt x := by
  have hL : aw_L x := by unfold aw_I at hx; unfold aw_L; omega
  rw [← Int64.toInt_inj, Int32.toInt_toInt64, aw_back hx, aw_backL hL]
theorem aw_thin (x : Int) : (Int64.ofInt x).toInt32 = Int32.ofInt (aw_w x) := by
  rw [aw_ofw, ← Int32.toInt_inj, Int64.toInt_toInt32, aw_toIntL, aw_toInt]
  change (aw_wl x).bmod 4294967296 = _
  unfold aw_wl aw_w
  rw [Int.bmod_def]
  split <;> omega
theorem aw_clamp {x : Int} (hx : aw_I x) : (Int32.ofInt x).toNatClampNeg = x.toNat := by
  have h := aw_back hx
  show (Int32.ofInt x).toInt.toNat = x.toNat
  rw [h]
theorem aw_in {x : Int} {n : Nat} (hx : aw_I x) (h0 : 0 ≤ x) (h1 : x < n) : vp_in (Int32.ofInt x) n := by
  rw [vp_in_iff, aw_back hx]
  exact ⟨h0, h1⟩
def aw_and (x y : Int) : Int := (Int32.ofInt x &&& Int32.ofInt y).toInt
def aw_or (x y : Int) : Int := (Int32.ofInt x ||| Int32.ofInt y).toInt
def aw_xor (x y : Int) : Int := (Int32.ofInt x ^^^ Int32.ofInt y).toInt
def aw_shl (x y : Int) : Int := (Int32.ofInt x <<< (Int32.ofInt y &&& 31)).toInt
def aw_shr (x y : Int) : Int := (Int32.ofInt x >>> (Int32.ofInt y &&& 31)).toInt
def aw_ushr (x y : Int) : Int := ((Int32.ofInt x).toUInt32 >>> ((Int32.ofInt y).toUInt32 &&& Int32.toUInt32 31)).toInt32.toInt
def aw_byte (x : Int) : Int := (Int32.ofInt x).toInt8.toInt32.toInt
def aw_andL (x y : Int) : Int := (Int64.ofInt x &&& Int64.ofInt y).toInt
def aw_orL (x y : Int) : Int := (Int64.ofInt x ||| Int64.ofInt y).toInt
def aw_xorL (x y : Int) : Int := (Int64.ofInt x ^^^ Int64.ofInt y).toInt
def aw_shlL (x y : Int) : Int := (Int64.ofInt x <<< ((Int32.ofInt y).toInt64 &&& 63)).toInt
def aw_ushrL (x y : Int) : Int := ((Int64.ofInt x).toUInt64 >>> ((Int32.ofInt y).toInt64.toUInt64 &&& Int64.toUInt64 63)).toInt64.toInt
def aw_cmpL (x y : Int) : Int := if y < x then 1 else if x = y then 0 else -1
