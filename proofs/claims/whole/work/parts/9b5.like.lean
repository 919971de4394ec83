/-! Likeness: bits, and the longest common row -/
def btb (x : Int) (s : Nat) : Bool := (Int64.ofInt x).toBitVec.getLsbD s
theorem btb_test {x : Int} {s : Nat} (hs : s < 64) : jand64 (jshr64 x s) 1 = 1 ↔ btb x s = true := by
  unfold jand64 jshr64 btb
  rw [Int64.ofInt_toInt, ← Int64.toInt_toBitVec, Int64.toBitVec_and, Int64.toBitVec_shiftRight]
  show ((Int64.ofInt x).toBitVec.sshiftRight (((Int32.ofInt ((s : Nat) : Int)).toInt64 &&& 63).toBitVec.smod 64).toNat &&& 1#64).toInt = 1 ↔ _
  rw [sh64' hs, BitVec.and_one_eq_setWidth_ofBool_getLsbD, BitVec.getLsbD_sshiftRight]
  have e : (!decide (64 ≤ 0) && if s + 0 < 64 then (Int64.ofInt x).toBitVec.getLsbD (s + 0) else (Int64.ofInt x).toBitVec.msb) = (Int64.ofInt x).toBitVec.getLsbD s := by
    rw [if_pos (by omega), Nat.add_zero]
    rfl
  rw [e]
  cases (Int64.ofInt x).toBitVec.getLsbD s <;> decide
theorem btb_or {x : Int} {s i : Nat} (hs : s < 64) (hi : i < 64) : btb (jor64 x (jshl64 1 i)) s = (btb x s || decide (s = i)) := by
  unfold btb jor64 jshl64
  rw [Int64.ofInt_toInt, Int64.ofInt_toInt, Int64.toBitVec_or, BitVec.getLsbD_or, Int64.toBitVec_shiftLeft]
  show (_ || ((Int64.ofInt 1).toBitVec <<< (((Int32.ofInt ((i : Nat) : Int)).toInt64 &&& 63).toBitVec.smod 64).toNat).getLsbD s) = _
  rw [sh64' hi, BitVec.getLsbD_shiftLeft]
  congr 1
  have e1 : (Int64.ofInt 1).toBitVec = 1#64 := by decide
  rw [e1, BitVec.getLsbD_one]
  by_cases q : s = i
  · subst q
    simp [hs]
  · by_cases g : s < i
    · simp [hs, g, q]
    · have : s - i ≠ 0 := by omega
      simp [q, this]
theorem btb_zero (s : Nat) : btb 0 s = false := by
  unfold btb
  have e : (Int64.ofInt 0).toBitVec = 0#64 := by decide
  rw [e, BitVec.getLsbD_zero]
def lcRow (eq : Nat → Bool) (below : Nat → Int) : Nat → Int
  | 0 => 0
  | v + 1 => if eq v = true then 1 + below v else max (below (v + 1)) (lcRow eq below v)
/-- longest row of like ones in the last u and the last v -/
def lcT (w z : Int → Int) (n m : Int) : Nat → Nat → Int
  | 0 => fun _ => 0
  | u + 1 => lcRow (fun v => decide (w (n - 1 - u) = z (m - 1 - v))) (lcT w z n m u)
theorem lcT_0 (w z : Int → Int) (n m : Int) : ∀ u : Nat, lcT w z n m u 0 = 0
  | 0 => rfl
  | _ + 1 => rfl
theorem lcT_s (w z : Int → Int) (n m : Int) (u v : Nat) : lcT w z n m (u + 1) (v + 1) = if w (n - 1 - u) = z (m - 1 - v) then 1 + lcT w z n m u v else max (lcT w z n m u (v + 1)) (lcT w z n m (u + 1) v) := by
  show (if decide (w (n - 1 - u) = z (m - 1 - v)) = true then 1 + lcT w z n m u v else max (lcT w z n m u (v + 1)) (lcT w z n m (u + 1) v)) = _
  by_cases q : w (n - 1 - u) = z (m - 1 - v)
  · rw [if_pos q, decide_eq_true q, if_pos rfl]
  · rw [if_neg q, decide_eq_false q, if_neg Bool.false_ne_true]
theorem lcT_r (w z : Int → Int) (n m : Int) : ∀ u v : Nat, 0 ≤ lcT w z n m u v ∧ lcT w z n m u v ≤ u
  | 0, v => ⟨Int.le_refl _, Int.le_refl _⟩
  | u + 1, 0 => by rw [lcT_0]; omega
  | u + 1, v + 1 => by
    have a := lcT_r w z n m u v
    have b := lcT_r w z n m u (v + 1)
    have c := lcT_r w z n m (u + 1) v
    rw [lcT_s]
    split <;> omega
/-- by places: the longest from i and j on -/
def LQ (w z : Int → Int) (n m i j : Int) : Int := lcT w z n m (n - i).toNat (m - j).toNat
theorem LQ_n {w z : Int → Int} {n m i j : Int} (h : n ≤ i) : LQ w z n m i j = 0 := by
  unfold LQ
  rw [show (n - i).toNat = 0 by omega]
  rfl
theorem LQ_m {w z : Int → Int} {n m i j : Int} (h : m ≤ j) : LQ w z n m i j = 0 := by
  unfold LQ
  rw [show (m - j).toNat = 0 by omega, lcT_0]
theorem LQ_s {w z : Int → Int} {n m i j : Int} (hi : i < n) (hj : j < m) : LQ w z n m i j = if w i = z j then 1 + LQ w z n m (i + 1) (j + 1) else max (LQ w z n m (i + 1) j) (LQ w z n m i (j + 1)) := by
  unfold LQ
  have e1 : (n - i).toNat = (n - (i + 1)).toNat + 1 := by omega
  have e2 : (m - j).toNat = (m - (j + 1)).toNat + 1 := by omega
  rw [e1, e2, lcT_s, show n - 1 - (((n - (i + 1)).toNat : Nat) : Int) = i by omega, show m - 1 - (((m - (j + 1)).toNat : Nat) : Int) = j by omega]
theorem LQ_r {w z : Int → Int} {n m i j : Int} (hn : n ≤ 300) (hi : 0 ≤ i) : 0 ≤ LQ w z n m i j ∧ LQ w z n m i j ≤ 300 := by
  have := lcT_r w z n m (n - i).toNat (m - j).toNat
  unfold LQ
  omega
/-- whether a place of the first is spared -/
def spB (w z : Int → Int) (n m p q : Int) : Bool := decide (¬ w p = z q) && decide (LQ w z n m p (q + 1) ≤ LQ w z n m (p + 1) q)
/-- the partner of place p, from i and j on -/
def mtc (w z : Int → Int) (n m p : Int) : Nat → Int → Int → Int
  | 0, _, _ => -1
  | k + 1, i, j => if i ≤ p ∧ j < m then (if w i = z j then (if i = p then j else mtc w z n m p k (i + 1) (j + 1)) else if spB w z n m i j = true then mtc w z n m p k (i + 1) j else mtc w z n m p k i (j + 1)) else -1
noncomputable def s_alike (ω : Int → Int) : Int := LQ (dw ω 0) (dw ω 1) (wW ω 0).1 (wW ω 1).1 0 0
noncomputable def mtW (ω : Int → Int) (p : Int) : Int := mtc (dw ω 0) (dw ω 1) (wW ω 0).1 (wW ω 1).1 p 700 0 0
noncomputable def s_matched (ω : Int → Int) (p : Int) : Int := if 0 ≤ p ∧ p < (wW ω 0).1 then mtW ω p else -1
