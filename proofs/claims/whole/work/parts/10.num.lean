/-! numbers: ints as whole numbers, told apart by what they are modulo 2^32 (2^64) -/
def w32 (x : Int) : Int := (x + 2147483648) % 4294967296 - 2147483648
def w64 (x : Int) : Int := (x + 9223372036854775808) % 18446744073709551616 - 9223372036854775808
theorem w32_id {x : Int} (h1 : -2147483648 ≤ x) (h2 : x < 2147483648) : w32 x = x := by unfold w32; omega
theorem w64_id {x : Int} (h1 : -9223372036854775808 ≤ x) (h2 : x < 9223372036854775808) : w64 x = x := by unfold w64; omega
theorem w32_lo (x : Int) : -2147483648 ≤ w32 x := by unfold w32; omega
theorem w32_hi (x : Int) : w32 x < 2147483648 := by unfold w32; omega
theorem w32_w32 (x : Int) : w32 (w32 x) = w32 x := w32_id (w32_lo x) (w32_hi x)
theorem w64_lo (x : Int) : -9223372036854775808 ≤ w64 x := by unfold w64; omega
theorem w64_hi (x : Int) : w64 x < 9223372036854775808 := by unfold w64; omega
theorem w64_w64 (x : Int) : w64 (w64 x) = w64 x := w64_id (w64_lo x) (w64_hi x)
theorem w32_toInt (x : Int) : (Int32.ofInt x).toInt = w32 x := by
  rw [Int32.toInt_ofInt]
  show x.bmod 4294967296 = _
  unfold w32 Int.bmod
  dsimp only
  split <;> omega
theorem w64_toInt (x : Int) : (Int64.ofInt x).toInt = w64 x := by
  rw [Int64.toInt_ofInt]
  show x.bmod 18446744073709551616 = _
  unfold w64 Int.bmod
  dsimp only
  split <;> omega
theorem i32_eq {x y : Int} : Int32.ofInt x = Int32.ofInt y ↔ w32 x = w32 y := by rw [← Int32.toInt_inj, w32_toInt, w32_toInt]
theorem i64_eq {x y : Int} : Int64.ofInt x = Int64.ofInt y ↔ w64 x = w64 y := by rw [← Int64.toInt_inj, w64_toInt, w64_toInt]
theorem i32_lt {x y : Int} : Int32.ofInt x < Int32.ofInt y ↔ w32 x < w32 y := by rw [Int32.lt_iff_toInt_lt, w32_toInt, w32_toInt]
theorem i32_le {x y : Int} : Int32.ofInt x ≤ Int32.ofInt y ↔ w32 x ≤ w32 y := by rw [Int32.le_iff_toInt_le, w32_toInt, w32_toInt]
theorem i64_lt {x y : Int} : Int64.ofInt x < Int64.ofInt y ↔ w64 x < w64 y := by rw [Int64.lt_iff_toInt_lt, w64_toInt, w64_toInt]
theorem i32_ofw (x : Int) : Int32.ofInt (w32 x) = Int32.ofInt x := i32_eq.mpr (w32_w32 x)
theorem i64_ofw (x : Int) : Int64.ofInt (w64 x) = Int64.ofInt x := i64_eq.mpr (w64_w64 x)
theorem i32_eq0 {x : Int} : Int32.ofInt x = 0 ↔ w32 x = 0 := i32_eq (y := 0)
theorem i32_lt0 {x : Int} : Int32.ofInt x < 0 ↔ w32 x < 0 := i32_lt (y := 0)
theorem i32_le0 {x : Int} : Int32.ofInt x ≤ 0 ↔ w32 x ≤ 0 := i32_le (y := 0)
theorem i32_0le {x : Int} : 0 ≤ Int32.ofInt x ↔ 0 ≤ w32 x := i32_le (x := 0)
theorem i32_0lt {x : Int} : 0 < Int32.ofInt x ↔ 0 < w32 x := i32_lt (x := 0)
theorem i64_eq0 {x : Int} : Int64.ofInt x = 0 ↔ w64 x = 0 := i64_eq (y := 0)
theorem i32_add (x y : Int) : Int32.ofInt x + Int32.ofInt y = Int32.ofInt (x + y) := (Int32.ofInt_add x y).symm
theorem i32_sub (x y : Int) : Int32.ofInt x - Int32.ofInt y = Int32.ofInt (x - y) := (Int32.ofInt_sub x y).symm
theorem i32_mul (x y : Int) : Int32.ofInt x * Int32.ofInt y = Int32.ofInt (x * y) := (Int32.ofInt_mul x y).symm
theorem i32_neg (x : Int) : -Int32.ofInt x = Int32.ofInt (-x) := (Int32.ofInt_neg x).symm
theorem i64_add (x y : Int) : Int64.ofInt x + Int64.ofInt y = Int64.ofInt (x + y) := (Int64.ofInt_add x y).symm
theorem i64_sub (x y : Int) : Int64.ofInt x - Int64.ofInt y = Int64.ofInt (x - y) := (Int64.ofInt_sub x y).symm
theorem i64_mul (x y : Int) : Int64.ofInt x * Int64.ofInt y = Int64.ofInt (x * y) := (Int64.ofInt_mul x y).symm
def dv32 (x y : Int) : Int := (w32 x).tdiv (w32 y)
def rm32 (x y : Int) : Int := (w32 x).tmod (w32 y)
def dv64 (x y : Int) : Int := (w64 x).tdiv (w64 y)
def rm64 (x y : Int) : Int := (w64 x).tmod (w64 y)
theorem i32_div (x y : Int) : Int32.ofInt x / Int32.ofInt y = Int32.ofInt (dv32 x y) := by
  apply Int32.toInt_inj.mp
  rw [Int32.toInt_div, w32_toInt, w32_toInt, Int32.toInt_ofInt]
  rfl
theorem i64_div (x y : Int) : Int64.ofInt x / Int64.ofInt y = Int64.ofInt (dv64 x y) := by
  apply Int64.toInt_inj.mp
  rw [Int64.toInt_div, w64_toInt, w64_toInt, Int64.toInt_ofInt]
  rfl
theorem i32_rem (x y : Int) : Int32.ofInt x - Int32.ofInt x / Int32.ofInt y * Int32.ofInt y = Int32.ofInt (rm32 x y) := by
  rw [i32_div, i32_mul, i32_sub, i32_eq]
  have h := Int.tmod_add_tdiv_mul (w32 x) (w32 y)
  have e1 : rm32 x y = w32 x - dv32 x y * w32 y := by unfold rm32 dv32; omega
  rw [e1, ← i32_eq, ← i32_sub, ← i32_sub, ← i32_mul, ← i32_mul, i32_ofw, i32_ofw]
theorem i64_rem (x y : Int) : Int64.ofInt x - Int64.ofInt x / Int64.ofInt y * Int64.ofInt y = Int64.ofInt (rm64 x y) := by
  rw [i64_div, i64_mul, i64_sub, i64_eq]
  have h := Int.tmod_add_tdiv_mul (w64 x) (w64 y)
  have e1 : rm64 x y = w64 x - dv64 x y * w64 y := by unfold rm64 dv64; omega
  rw [e1, ← i64_eq, ← i64_sub, ← i64_sub, ← i64_mul, ← i64_mul, i64_ofw, i64_ofw]
def and32 (x y : Int) : Int := (Int32.ofInt x &&& Int32.ofInt y).toInt
def or32 (x y : Int) : Int := (Int32.ofInt x ||| Int32.ofInt y).toInt
def xor32 (x y : Int) : Int := (Int32.ofInt x ^^^ Int32.ofInt y).toInt
def shl32 (x y : Int) : Int := (Int32.ofInt x <<< (Int32.ofInt y &&& 31)).toInt
def shr32 (x y : Int) : Int := (Int32.ofInt x >>> (Int32.ofInt y &&& 31)).toInt
def ush32 (x y : Int) : Int := ((Int32.ofInt x).toUInt32 >>> ((Int32.ofInt y).toUInt32 &&& Int32.toUInt32 31)).toInt32.toInt
def i2b (x : Int) : Int := (x + 128) % 256 - 128
def nz (x : Int) : Int := (vp_nar .boolean (Int32.ofInt x)).toInt
def cmp64 (x y : Int) : Int := if w64 y < w64 x then 1 else if w64 x = w64 y then 0 else -1
def max32 (x y : Int) : Int := if w32 x < w32 y then y else x
def min32 (x y : Int) : Int := if w32 y < w32 x then y else x
def abs32 (x : Int) : Int := if 0 ≤ w32 x then x else 0 - x
theorem i32_cmp (x y : Int) : lg_cmp (Int64.ofInt x) (Int64.ofInt y) = Int32.ofInt (cmp64 x y) := by
  unfold lg_cmp cmp64
  simp only [gt_iff_lt, i64_lt, i64_eq]
  split
  · rfl
  · split <;> rfl
theorem i32_i2b (x : Int) : (Int32.ofInt x).toInt8.toInt32 = Int32.ofInt (i2b x) := by
  apply Int32.toInt_inj.mp
  rw [Int32.toInt8_ofInt, Int8.toInt_toInt32, Int8.toInt_ofInt, w32_toInt, w32_id (by unfold i2b; omega) (by unfold i2b; omega)]
  show x.bmod 256 = _
  unfold i2b Int.bmod
  dsimp only
  split <;> omega
theorem i32_i2l (x : Int) : (Int32.ofInt x).toInt64 = Int64.ofInt (w32 x) := by
  apply Int64.toInt_inj.mp
  rw [Int32.toInt_toInt64, w32_toInt, w64_toInt, w64_id]
  · have := w32_lo x; omega
  · have := w32_hi x; omega
/-- an index inside -/
theorem vp_in_w {i : Int} {n : Nat} (h : 0 ≤ w32 i ∧ w32 i < n) : vp_in (Int32.ofInt i) n := by
  rw [vp_in_iff, w32_toInt]
  exact h
theorem clamp_w (i : Int) : (Int32.ofInt i).toNatClampNeg = (w32 i).toNat := by
  show (Int32.ofInt i).toInt.toNat = _
  rw [w32_toInt]
