/-! Whole numbers: what an int or a long of the machine is, as an Int -/
def w32 (x : Int) : Int := (x + 2147483648) % 4294967296 - 2147483648
def w64 (x : Int) : Int := (x + 9223372036854775808) % 18446744073709551616 - 9223372036854775808
def w8 (x : Int) : Int := (x + 128) % 256 - 128
def w16 (x : Int) : Int := (x + 32768) % 65536 - 32768
def r32 (x : Int) : Prop := -2147483648 ≤ x ∧ x < 2147483648
def r64 (x : Int) : Prop := -9223372036854775808 ≤ x ∧ x < 9223372036854775808
theorem w32_of {x : Int} (h1 : -2147483648 ≤ x) (h2 : x < 2147483648) : w32 x = x := by unfold w32; omega
theorem w64_of {x : Int} (h1 : -9223372036854775808 ≤ x) (h2 : x < 9223372036854775808) : w64 x = x := by unfold w64; omega
theorem w8_of {x : Int} (h1 : -128 ≤ x) (h2 : x < 128) : w8 x = x := by unfold w8; omega
theorem r32_w (x : Int) : r32 (w32 x) := by unfold r32 w32; omega
theorem r64_w (x : Int) : r64 (w64 x) := by unfold r64 w64; omega
theorem r32_w8 (x : Int) : r32 (w8 x) := by unfold r32 w8; omega
theorem r32_w16 (x : Int) : r32 (w16 x) := by unfold r32 w16; omega
theorem r32_64 {x : Int} (h : r32 x) : r64 x := by unfold r32 at h; unfold r64; omega
theorem i32_toInt (x : Int) : (Int32.ofInt x).toInt = w32 x := by
  rw [Int32.toInt_ofInt]
  unfold w32
  simp only [Int.bmod]
  have e : ((2 : Int) ^ 32) = 4294967296 := by decide
  split <;> simp at * <;> omega
theorem i64_toInt (x : Int) : (Int64.ofInt x).toInt = w64 x := by
  rw [Int64.toInt_ofInt]
  unfold w64
  simp only [Int.bmod]
  split <;> simp at * <;> omega
theorem i32_of {x : Int} (h : r32 x) : (Int32.ofInt x).toInt = x := by rw [i32_toInt]; exact w32_of h.1 h.2
theorem i64_of {x : Int} (h : r64 x) : (Int64.ofInt x).toInt = x := by rw [i64_toInt]; exact w64_of h.1 h.2
theorem i32_back (x : Int32) : Int32.ofInt x.toInt = x := Int32.ofInt_toInt x
theorem i64_back (x : Int64) : Int64.ofInt x.toInt = x := Int64.ofInt_toInt x
theorem i32_r (x : Int32) : r32 x.toInt := by
  have h1 := Int32.le_toInt x
  have h2 := Int32.toInt_lt x
  unfold r32; omega
theorem i64_r (x : Int64) : r64 x.toInt := by
  have h1 := Int64.le_toInt x
  have h2 := Int64.toInt_lt x
  unfold r64; omega
theorem i32_ext {a b : Int32} (h : a.toInt = b.toInt) : a = b := Int32.toInt_inj.mp h
theorem i64_ext {a b : Int64} (h : a.toInt = b.toInt) : a = b := Int64.toInt_inj.mp h
theorem i32_w (x : Int) : Int32.ofInt (w32 x) = Int32.ofInt x := i32_ext (by rw [i32_of (r32_w x), i32_toInt])
theorem i64_w (x : Int) : Int64.ofInt (w64 x) = Int64.ofInt x := i64_ext (by rw [i64_of (r64_w x), i64_toInt])
theorem i32_add (x y : Int) : Int32.ofInt x + Int32.ofInt y = Int32.ofInt (w32 (x + y)) := by rw [i32_w, Int32.ofInt_add]
theorem i32_sub (x y : Int) : Int32.ofInt x - Int32.ofInt y = Int32.ofInt (w32 (x - y)) := by rw [i32_w, Int32.ofInt_sub]
theorem i32_mul (x y : Int) : Int32.ofInt x * Int32.ofInt y = Int32.ofInt (w32 (x * y)) := by rw [i32_w, Int32.ofInt_mul]
theorem i64_add (x y : Int) : Int64.ofInt x + Int64.ofInt y = Int64.ofInt (w64 (x + y)) := by rw [i64_w, Int64.ofInt_add]
theorem i64_sub (x y : Int) : Int64.ofInt x - Int64.ofInt y = Int64.ofInt (w64 (x - y)) := by rw [i64_w, Int64.ofInt_sub]
theorem i32_lt {x y : Int} (hx : r32 x) (hy : r32 y) : Int32.ofInt x < Int32.ofInt y ↔ x < y := by
  rw [Int32.lt_iff_toInt_lt, i32_of hx, i32_of hy]
theorem i32_le {x y : Int} (hx : r32 x) (hy : r32 y) : Int32.ofInt x ≤ Int32.ofInt y ↔ x ≤ y := by
  rw [Int32.le_iff_toInt_le, i32_of hx, i32_of hy]
theorem i32_eq {x y : Int} (hx : r32 x) (hy : r32 y) : Int32.ofInt x = Int32.ofInt y ↔ x = y :=
  ⟨fun h => by rw [← i32_of hx, ← i32_of hy, h], fun h => by rw [h]⟩
theorem i64_lt {x y : Int} (hx : r64 x) (hy : r64 y) : Int64.ofInt x < Int64.ofInt y ↔ x < y := by
  rw [Int64.lt_iff_toInt_lt, i64_of hx, i64_of hy]
theorem i64_eq {x y : Int} (hx : r64 x) (hy : r64 y) : Int64.ofInt x = Int64.ofInt y ↔ x = y :=
  ⟨fun h => by rw [← i64_of hx, ← i64_of hy, h], fun h => by rw [h]⟩
theorem i32_0 : (0 : Int32) = Int32.ofInt 0 := rfl
theorem r32_0 : r32 0 := by unfold r32; omega
theorem i32_div {x y : Int} (hx : r32 x) (hy : r32 y) : Int32.ofInt x / Int32.ofInt y = Int32.ofInt (w32 (x.tdiv y)) := by
  apply i32_ext
  rw [Int32.toInt_div, i32_of hx, i32_of hy, i32_of (r32_w _), ← i32_toInt, Int32.toInt_ofInt]
theorem i32_mod {x y : Int} (hx : r32 x) (hy : r32 y) : Int32.ofInt x % Int32.ofInt y = Int32.ofInt (x.tmod y) := by
  apply i32_ext
  rw [Int32.toInt_mod, i32_of hx, i32_of hy, i32_of]
  unfold r32 at *
  have h1 : (x.tmod y).natAbs ≤ x.natAbs := by rw [Int.natAbs_tmod]; exact Nat.mod_le _ _
  have h2 : 0 ≤ x → 0 ≤ x.tmod y := fun h => Int.tmod_nonneg y h
  have h3 : 0 ≤ -x → 0 ≤ (-x).tmod y := fun h => Int.tmod_nonneg y h
  rw [Int.neg_tmod] at h3
  omega
theorem i32_8 {x : Int} : (Int32.ofInt x).toInt8.toInt32 = Int32.ofInt (w8 x) := by
  apply i32_ext
  rw [i32_of (r32_w8 x), Int8.toInt_toInt32, Int32.toInt_toInt8, i32_toInt]
  unfold w8 w32
  simp only [Int.bmod]
  split <;> simp at * <;> omega
theorem i32_16 {x : Int} : (Int32.ofInt x).toInt16.toInt32 = Int32.ofInt (w16 x) := by
  apply i32_ext
  rw [i32_of (r32_w16 x), Int16.toInt_toInt32, Int32.toInt_toInt16, i32_toInt]
  unfold w16 w32
  simp only [Int.bmod]
  split <;> simp at * <;> omega
theorem i32_64 {x : Int} (h : r32 x) : (Int32.ofInt x).toInt64 = Int64.ofInt x := by
  apply i64_ext
  rw [Int32.toInt_toInt64, i32_of h, i64_of (r32_64 h)]
theorem i64_32 (x : Int) : (Int64.ofInt x).toInt32 = Int32.ofInt (w32 x) := by
  apply i32_ext
  rw [i32_of (r32_w x), Int64.toInt_toInt32, i64_toInt]
  unfold w64 w32
  simp only [Int.bmod]
  split <;> simp at * <;> omega
theorem i8_of {n : Int} (h1 : -128 ≤ n) (h2 : n < 128) : (Int8.ofInt n).toInt32 = Int32.ofInt n := by
  apply i32_ext
  rw [Int8.toInt_toInt32, Int8.toInt_ofInt, i32_of (by unfold r32; omega)]
  simp only [Int.bmod]
  split <;> simp at * <;> omega
theorem i16_of {n : Int} (h1 : -32768 ≤ n) (h2 : n < 32768) : (Int16.ofInt n).toInt32 = Int32.ofInt n := by
  apply i32_ext
  rw [Int16.toInt_toInt32, Int16.toInt_ofInt, i32_of (by unfold r32; omega)]
  simp only [Int.bmod]
  split <;> simp at * <;> omega
theorem i32_tmod_r {x y : Int} (hx : r32 x) : r32 (x.tmod y) := by
  unfold r32 at *
  have h1 : (x.tmod y).natAbs ≤ x.natAbs := by rw [Int.natAbs_tmod]; exact Nat.mod_le _ _
  have h2 : 0 ≤ x → 0 ≤ x.tmod y := fun h => Int.tmod_nonneg y h
  have h3 : 0 ≤ -x → 0 ≤ (-x).tmod y := fun h => Int.tmod_nonneg y h
  rw [Int.neg_tmod] at h3
  omega
theorem i32_rem {x y : Int} (hx : r32 x) (hy : r32 y) : Int32.ofInt x - Int32.ofInt x / Int32.ofInt y * Int32.ofInt y = Int32.ofInt (x.tmod y) := by
  rw [i32_div hx hy, i32_w, ← Int32.ofInt_mul, ← Int32.ofInt_sub]
  congr 1
  have := Int.mul_tdiv_add_tmod x y
  have h2 : x.tdiv y * y = y * x.tdiv y := Int.mul_comm _ _
  omega
