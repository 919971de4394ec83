/-! Bits as numbers -/
theorem bv_of {x : Int} (h0 : 0 ≤ x) (h : x < 9223372036854775808) : (Int64.ofInt x).toBitVec.toNat = x.toNat := by
  rw [Int64.toBitVec_ofInt, BitVec.toNat_ofInt]
  omega
theorem bv_toInt {v : Int64} {n : Nat} (h : v.toBitVec.toNat = n) (hn : n < 9223372036854775808) : v.toInt = (n : Int) := by
  rw [← Int64.toInt_toBitVec, BitVec.toInt_eq_toNat_of_lt (by omega), h]
theorem jand64_of {x y : Int} (h0 : 0 ≤ x) (h : x < 9223372036854775808) (h1 : 0 ≤ y) (h2 : y < 9223372036854775808) : jand64 x y = ((x.toNat &&& y.toNat : Nat) : Int) := by
  unfold jand64
  apply bv_toInt
  · rw [Int64.toBitVec_and, BitVec.toNat_and, bv_of h0 h, bv_of h1 h2]
  · have := @Nat.and_le_left x.toNat y.toNat
    omega
theorem jor64_of {x y : Int} (h0 : 0 ≤ x) (h : x < 9223372036854775808) (h1 : 0 ≤ y) (h2 : y < 9223372036854775808) : jor64 x y = ((x.toNat ||| y.toNat : Nat) : Int) := by
  unfold jor64
  apply bv_toInt
  · rw [Int64.toBitVec_or, BitVec.toNat_or, bv_of h0 h, bv_of h1 h2]
  · exact Nat.or_lt_two_pow (n := 63) (by omega) (by omega)
theorem sh64 : ∀ n : Fin 64, (((Int32.ofInt ((n.val : Nat) : Int)).toInt64 &&& 63).toBitVec.smod 64).toNat = n.val := by decide +kernel
theorem sh64' {s : Nat} (hs : s < 64) : (((Int32.ofInt ((s : Nat) : Int)).toInt64 &&& 63).toBitVec.smod 64).toNat = s := sh64 ⟨s, hs⟩
theorem pw2 (s : Nat) : (2 : Int) ^ s = ((2 ^ s : Nat) : Int) := by simp
theorem jshr64_of {x : Int} {s : Nat} (hx : r64 x) (hs : s < 64) : jshr64 x s = x / 2 ^ s := by
  unfold jshr64
  rw [← Int64.toInt_toBitVec, Int64.toBitVec_shiftRight]
  show ((Int64.ofInt x).toBitVec.sshiftRight (((Int32.ofInt ((s : Nat) : Int)).toInt64 &&& 63).toBitVec.smod 64).toNat).toInt = _
  rw [sh64' hs, BitVec.toInt_sshiftRight, Int64.toInt_toBitVec, i64_of hx, Int.shiftRight_eq_div_pow, pw2]
theorem jshl64_of {x : Int} {s : Nat} (h0 : 0 ≤ x) (hs : s < 64) (h : x * 2 ^ s < 9223372036854775808) : jshl64 x s = x * 2 ^ s := by
  have hp : (1 : Int) ≤ 2 ^ s := by
    have := Nat.one_le_two_pow (n := s)
    exact_mod_cast this
  have hx : x < 9223372036854775808 := by
    have := Int.mul_le_mul_of_nonneg_left hp h0
    omega
  have e : ((x.toNat * 2 ^ s : Nat) : Int) = x * 2 ^ s := by
    rw [Int.natCast_mul, Int.toNat_of_nonneg h0]
    simp
  unfold jshl64
  rw [← e]
  apply bv_toInt
  · rw [Int64.toBitVec_shiftLeft]
    show ((Int64.ofInt x).toBitVec <<< (((Int32.ofInt ((s : Nat) : Int)).toInt64 &&& 63).toBitVec.smod 64).toNat).toNat = _
    rw [sh64' hs, BitVec.toNat_shiftLeft, bv_of h0 hx, Nat.shiftLeft_eq]
    apply Nat.mod_eq_of_lt
    omega
  · omega
theorem jand31 {x : Int} (h0 : 0 ≤ x) (h : x < 9223372036854775808) : jand64 x 31 = x % 32 := by
  rw [jand64_of h0 h (by omega) (by omega)]
  show ((x.toNat &&& 2 ^ 5 - 1 : Nat) : Int) = _
  rw [Nat.and_two_pow_sub_one_eq_mod]
  omega
/-- a | b << s, with no bit in common -/
theorem jor_add {x y : Int} {s : Nat} (h0 : 0 ≤ x) (h : x < 9223372036854775808) (hd : x % 2 ^ s = 0) (h1 : 0 ≤ y) (h2 : y < 2 ^ s) (hs : s < 63) : jor64 x y = x + y := by
  have hp : (2 : Int) ^ s < 9223372036854775808 := by
    have h5 : (2 : Nat) ^ s < 2 ^ 63 := Nat.pow_lt_pow_right (by omega) hs
    have h6 : (2 : Nat) ^ s < 9223372036854775808 := Nat.lt_of_lt_of_eq h5 (by decide)
    rw [pw2]
    exact Int.ofNat_lt.mpr h6
  rw [jor64_of h0 h h1 (by omega)]
  have e : x.toNat = 2 ^ s * (x.toNat / 2 ^ s) := by
    have h3 : x.toNat % 2 ^ s = 0 := by
      have : ((x.toNat % 2 ^ s : Nat) : Int) = x % 2 ^ s := by
        rw [Int.natCast_emod, Int.toNat_of_nonneg h0]
        simp
      omega
    have := Nat.div_add_mod x.toNat (2 ^ s)
    omega
  have h4 : y.toNat < 2 ^ s := by
    have : ((y.toNat : Nat) : Int) < ((2 ^ s : Nat) : Int) := by
      rw [Int.toNat_of_nonneg h1]
      simpa using h2
    exact_mod_cast this
  rw [e, ← Nat.two_pow_add_eq_or_of_lt h4, ← e]
  omega
