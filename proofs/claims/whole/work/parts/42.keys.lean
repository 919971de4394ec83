/-! Keys: twenty digits of five bits; a letter l is the digit l + 1 -/
def mp (ρ : Int → Int) (d : Int) : Int := if 1 ≤ d ∧ d ≤ 26 then ρ (d - 1) + 1 else 0
def hm (ρ : Int → Int) : Nat → Int → Int
  | 0, _ => 0
  | n + 1, h => hm ρ n (h / 32) * 32 + mp ρ (h % 32)
def okρ (ρ : Int → Int) : Prop := ∀ l, 0 ≤ l → l < 26 → 0 ≤ ρ l ∧ ρ l < 26
theorem mp_r {ρ : Int → Int} (h : okρ ρ) (d : Int) : 0 ≤ mp ρ d ∧ mp ρ d ≤ 26 := by
  unfold mp
  split
  · have := h (d - 1) (by omega) (by omega)
    omega
  · omega
theorem p32 (n : Nat) : (0 : Int) < 32 ^ n := Int.pow_pos (by omega)
theorem p32s (n : Nat) : (32 : Int) ^ (n + 1) = 32 ^ n * 32 := Int.pow_succ ..
theorem p32le {m n : Nat} (h : m ≤ n) : (32 : Int) ^ m ≤ 32 ^ n := by
  obtain ⟨k, rfl⟩ := Nat.le.dest h
  rw [Int.pow_add]
  have h1 := p32 m
  have h2 := p32 k
  have h3 : (32 : Int) ^ m * 1 ≤ 32 ^ m * 32 ^ k := Int.mul_le_mul_of_nonneg_left (by omega) (by omega)
  omega
theorem hm_r {ρ : Int → Int} (h : okρ ρ) : ∀ (n : Nat) (x : Int), 0 ≤ hm ρ n x ∧ hm ρ n x < 32 ^ n
  | 0, x => by simp [hm]
  | n + 1, x => by
    have h1 := hm_r h n (x / 32)
    have h2 := mp_r h (x % 32)
    rw [p32s]
    simp only [hm]
    omega
theorem hm_dm {ρ : Int → Int} (a : Nat) : ∀ (b : Nat) (x y : Int), 0 ≤ y → y < 32 ^ b → hm ρ (a + b) (x * 32 ^ b + y) = hm ρ a x * 32 ^ b + hm ρ b y
  | 0, x, y, h0, h1 => by
    have : y = 0 := by
      rw [Int.pow_zero] at h1
      omega
    subst this
    simp [hm]
  | b + 1, x, y, h0, h1 => by
    rw [p32s] at h1
    have e1 : (x * 32 ^ (b + 1) + y) / 32 = x * 32 ^ b + y / 32 := by
      rw [p32s, ← Int.mul_assoc]
      omega
    have e2 : (x * 32 ^ (b + 1) + y) % 32 = y % 32 := by
      rw [p32s, ← Int.mul_assoc]
      omega
    show hm ρ (a + b) ((x * 32 ^ (b + 1) + y) / 32) * 32 + mp ρ ((x * 32 ^ (b + 1) + y) % 32) = _
    rw [e1, e2, hm_dm a b x (y / 32) (by omega) (by omega), p32s]
    show _ = hm ρ a x * (32 ^ b * 32) + (hm ρ b (y / 32) * 32 + mp ρ (y % 32))
    rw [Int.add_mul, Int.mul_assoc, Int.add_assoc]
theorem two32 (m : Nat) : (2 : Int) ^ (5 * m) = 32 ^ m := by
  rw [Int.pow_mul]
  rfl
theorem sh32 {x : Int} {m : Nat} (h0 : 0 ≤ x) (h : x < 32) (hm : m < 10) : jshl64 x (((5 * m : Nat) : Int)) = x * 32 ^ m := by
  rw [jshl64_of h0 (by omega), two32]
  rw [two32]
  have h1 : (32 : Int) ^ m ≤ 32 ^ 9 := p32le (by omega)
  have h2 : x * 32 ^ m ≤ x * 32 ^ 9 := Int.mul_le_mul_of_nonneg_left h1 h0
  have h3 : x * (32 : Int) ^ 9 < 9223372036854775808 := by
    have : (32 : Int) ^ 9 = 35184372088832 := by decide
    rw [this]
    omega
  omega
/-- putting a digit where nothing stands -/
theorem kor {h x : Int} {m : Nat} (hm : m < 10) (h0 : 0 ≤ h) (h1 : h < 1125899906842624) (hd : h % 32 ^ (m + 1) = 0) (hx : 0 ≤ x) (hx2 : x < 32) : jor64 h (jshl64 x (((5 * m : Nat) : Int))) = h + x * 32 ^ m := by
  rw [sh32 hx hx2 hm]
  have hp := p32 m
  refine jor_add (s := 5 * (m + 1)) h0 (by omega) (by rw [two32]; exact hd) (Int.mul_nonneg hx (by omega)) ?_ (by omega)
  rw [two32, p32s, Int.mul_comm (32 ^ m) 32]
  exact Int.mul_lt_mul_of_pos_right hx2 hp
theorem kdg {h : Int} {m : Nat} (hm : m < 10) (h0 : 0 ≤ h) (h1 : h < 1125899906842624) : jand64 (jshr64 h (((5 * m : Nat) : Int))) 31 = h / 32 ^ m % 32 := by
  rw [jshr64_of (by unfold r64; omega) (by omega), two32, jand31]
  · exact Int.ediv_nonneg h0 (by have := p32 m; omega)
  · have := Int.ediv_le_self (32 ^ m) h0
    omega
