
/-! numbers: ints and longs as whole numbers, seen by what they wrap to -/
def i3 (z : Int) : Int32 := Int32.ofInt z
def i6 (z : Int) : Int64 := Int64.ofInt z
def w32 (z : Int) : Int := (z + 2147483648) % 4294967296 - 2147483648
def w64 (z : Int) : Int := (z + 9223372036854775808) % 18446744073709551616 - 9223372036854775808
def w8 (z : Int) : Int := (z + 128) % 256 - 128
def bz : Bool → Int
  | true => 1
  | false => 0
def ix (z : Int) : Nat := (w32 z).toNat
theorem i3_toInt (z : Int) : (i3 z).toInt = w32 z := by
  unfold i3 w32
  rw [Int32.toInt_ofInt]
  simp only [Int32.size, Int.bmod_def]
  split <;> omega
theorem i6_toInt (z : Int) : (i6 z).toInt = w64 z := by
  unfold i6 w64
  rw [Int64.toInt_ofInt]
  simp only [Int64.size, Int.bmod_def]
  split <;> omega
theorem i3_add (x y : Int) : i3 (x + y) = i3 x + i3 y := Int32.ofInt_add x y
theorem i3_sub (x y : Int) : i3 (x - y) = i3 x - i3 y := Int32.ofInt_sub x y
theorem i3_mul (x y : Int) : i3 (x * y) = i3 x * i3 y := Int32.ofInt_mul x y
theorem i3_neg (x : Int) : i3 (-x) = -i3 x := Int32.ofInt_neg x
theorem i6_add (x y : Int) : i6 (x + y) = i6 x + i6 y := Int64.ofInt_add x y
theorem i6_sub (x y : Int) : i6 (x - y) = i6 x - i6 y := Int64.ofInt_sub x y
theorem i6_mul (x y : Int) : i6 (x * y) = i6 x * i6 y := Int64.ofInt_mul x y
theorem i6_neg (x : Int) : i6 (-x) = -i6 x := Int64.ofInt_neg x
theorem i3_w (z : Int) : i3 (w32 z) = i3 z := by
  apply Int32.toInt_inj.mp
  rw [i3_toInt, i3_toInt]
  unfold w32
  omega
theorem i6_w (z : Int) : i6 (w64 z) = i6 z := by
  apply Int64.toInt_inj.mp
  rw [i6_toInt, i6_toInt]
  unfold w64
  omega
theorem i3_of (x : Int32) : i3 x.toInt = x := Int32.ofInt_toInt x
theorem i6_of (x : Int64) : i6 x.toInt = x := Int64.ofInt_toInt x
theorem i3_eq (x y : Int) : i3 x = i3 y ↔ w32 x = w32 y := by rw [← Int32.toInt_inj, i3_toInt, i3_toInt]
theorem i3_lt (x y : Int) : i3 x < i3 y ↔ w32 x < w32 y := by rw [Int32.lt_iff_toInt_lt, i3_toInt, i3_toInt]
theorem i3_le (x y : Int) : i3 x ≤ i3 y ↔ w32 x ≤ w32 y := by rw [Int32.le_iff_toInt_le, i3_toInt, i3_toInt]
theorem i6_eq (x y : Int) : i6 x = i6 y ↔ w64 x = w64 y := by rw [← Int64.toInt_inj, i6_toInt, i6_toInt]
theorem i6_lt (x y : Int) : i6 x < i6 y ↔ w64 x < w64 y := by rw [Int64.lt_iff_toInt_lt, i6_toInt, i6_toInt]
theorem i6_le (x y : Int) : i6 x ≤ i6 y ↔ w64 x ≤ w64 y := by rw [Int64.le_iff_toInt_le, i6_toInt, i6_toInt]
theorem w32_r (z : Int) : -2147483648 ≤ w32 z ∧ w32 z < 2147483648 := by unfold w32; omega
theorem w64_r (z : Int) : -9223372036854775808 ≤ w64 z ∧ w64 z < 9223372036854775808 := by unfold w64; omega
theorem i3_div (x y : Int) : i3 x / i3 y = i3 ((w32 x).tdiv (w32 y)) := by
  apply Int32.toInt_inj.mp
  rw [Int32.toInt_div, i3_toInt, i3_toInt]
  unfold i3
  rw [Int32.toInt_ofInt]
theorem i6_div (x y : Int) : i6 x / i6 y = i6 ((w64 x).tdiv (w64 y)) := by
  apply Int64.toInt_inj.mp
  rw [Int64.toInt_div, i6_toInt, i6_toInt]
  unfold i6
  rw [Int64.toInt_ofInt]
theorem i3_rem (x y : Int) : i3 x - i3 x / i3 y * i3 y = i3 ((w32 x).tmod (w32 y)) := by
  rw [i3_div, ← i3_w x, ← i3_w y, ← i3_mul, ← i3_sub]
  refine congrArg i3 ?_
  have h := Int.mul_tdiv_add_tmod (w32 (w32 x)) (w32 (w32 y))
  have e1 : w32 (w32 x) = w32 x := by unfold w32; omega
  have e2 : w32 (w32 y) = w32 y := by unfold w32; omega
  rw [e1, e2] at h
  rw [Int.mul_comm]
  omega
theorem i6_rem (x y : Int) : i6 x - i6 x / i6 y * i6 y = i6 ((w64 x).tmod (w64 y)) := by
  rw [i6_div, ← i6_w x, ← i6_w y, ← i6_mul, ← i6_sub]
  refine congrArg i6 ?_
  have h := Int.mul_tdiv_add_tmod (w64 (w64 x)) (w64 (w64 y))
  have e1 : w64 (w64 x) = w64 x := by unfold w64; omega
  have e2 : w64 (w64 y) = w64 y := by unfold w64; omega
  rw [e1, e2] at h
  rw [Int.mul_comm]
  omega
theorem i3_i2l (z : Int) : (i3 z).toInt64 = i6 (w32 z) := by
  apply Int64.toInt_inj.mp
  rw [Int32.toInt_toInt64, i3_toInt, i6_toInt]
  have := w32_r z
  unfold w64
  omega
theorem i6_l2i (z : Int) : (i6 z).toInt32 = i3 z := Int64.toInt32_ofInt
theorem i3_in (i : Int) (n : Nat) : vp_in (i3 i) n ↔ (0 ≤ w32 i ∧ w32 i < (n : Int)) := by rw [vp_in_iff, i3_toInt]
theorem i3_cl (i : Int) : (i3 i).toNatClampNeg = ix i := by
  show (i3 i).toInt.toNat = _
  rw [i3_toInt]
  rfl
theorem i3_i2b (z : Int) : (i3 z).toInt8.toInt32 = i3 (w8 z) := by
  apply Int32.toInt_inj.mp
  rw [i3_toInt]
  have e : (i3 z).toInt8.toInt32.toInt = (i3 z).toInt.bmod (2 ^ 8) := by simp
  rw [e, i3_toInt, Int.bmod_def]
  unfold w8 w32
  split <;> omega
