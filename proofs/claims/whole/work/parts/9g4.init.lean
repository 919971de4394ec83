/-! The law: what stands behind both constructors -/
def hz0 : jH := fun _ _ => 0
def w19 : jL := nL w00 19 20
def w20 : jL := nL (fWP 1 w19) 20 51
theorem n188 : (fWP 1 w19).1 = 188 := by decide +kernel
theorem n189 : w20.1 = 189 := by decide +kernel
def hC : jH := hWP w19 hz0
def hM : jH := hMo 189 w20 hC
theorem hC_eq : hC = fun c j => if c = 183 ∧ 0 ≤ j ∧ j < 600 then -1 else if c = 187 ∧ 0 ≤ j ∧ j < 4 then -1 else if c = 157 ∧ j = 4 then 105 else if c = 155 ∧ 0 ≤ j ∧ j < 26 then j else if c = 143 ∧ 0 ≤ j ∧ j < 26 then j else if c = 140 ∧ j = 7 then -1 else if c = 135 ∧ j = 5 then 139 else if c = 135 ∧ j = 4 then 138 else if c = 87 ∧ 0 ≤ j ∧ j < 26 then j else if c = 75 ∧ 0 ≤ j ∧ j < 26 then j else if c = 64 ∧ 0 ≤ j ∧ j < 26 then j else if c = 52 ∧ 0 ≤ j ∧ j < 26 then j else if c = 41 ∧ 0 ≤ j ∧ j < 26 then j else if c = 29 ∧ 0 ≤ j ∧ j < 26 then j else if c = 17 ∧ 0 ≤ j ∧ j < 26 then j else if c = 5 ∧ 0 ≤ j ∧ j < 26 then j else 0 := rfl
theorem hC_0 {c : Int} (h : c ≠ 183 ∧ c ≠ 187 ∧ c ≠ 157 ∧ c ≠ 155 ∧ c ≠ 143 ∧ c ≠ 140 ∧ c ≠ 135 ∧ c ≠ 87 ∧ c ≠ 75 ∧ c ≠ 64 ∧ c ≠ 52 ∧ c ≠ 41 ∧ c ≠ 29 ∧ c ≠ 17 ∧ c ≠ 5) (j : Int) : hC c j = 0 := by
  rw [hC_eq]
  show (if _ then _ else _) = _
  repeat rw [if_neg (by omega)]
theorem hC_z : Zb 188 hC := fun c j hc => hC_0 (by omega) j
theorem hM_lo {c : Int} (h : c ≠ 189 ∧ c ≠ 200 ∧ c ≠ 229) : hM c = hC c := by
  funext j
  unfold hM hMo
  rw [n189]
  repeat rw [ju_ne (by omega)]
theorem ju_idx {f : jH} {a i j : Int} (h : j ≠ i → f a j = j) : ju f a i i a j = j := by
  by_cases q : j = i
  · rw [q, ju_self]
  · rw [ju_ne2 q]
    exact h q
theorem hM_200 {x : Int} (a : 0 ≤ x) (b : x < 26) : hM 200 x = x := by
  unfold hM hMo
  rw [n189]
  repeat rw [ju_ne (show (200 : Int) ≠ ((189 + 40 : Nat) : Int) by omega)]
  rw [ju_ne (show (200 : Int) ≠ 189 by omega), show ((189 + 11 : Nat) : Int) = 200 from rfl]
  iterate 26 refine ju_idx fun _ => ?_
  exfalso
  omega
theorem hM_229 {x : Int} (a : 0 ≤ x) (b : x < 4) : hM 229 x = -1 := by
  unfold hM hMo
  rw [n189, show ((189 + 40 : Nat) : Int) = 229 from rfl]
  rcases (show x = 3 ∨ x = 2 ∨ x = 1 ∨ x = 0 by omega) with q | q | q | q
  · rw [q, ju_self]
  · rw [q, ju_ne2 (by omega), ju_self]
  · rw [q, ju_ne2 (by omega), ju_ne2 (by omega), ju_self]
  · rw [q, ju_ne2 (by omega), ju_ne2 (by omega), ju_ne2 (by omega), ju_self]
theorem hM_189 (j : Int) : hM 189 j = if j = 23 then -1 else 0 := by
  unfold hM hMo
  rw [n189]
  repeat rw [ju_ne (show (189 : Int) ≠ ((189 + 40 : Nat) : Int) by omega)]
  by_cases q : j = 23
  · rw [q, ju_self, if_pos rfl]
  · rw [ju_ne2 q, if_neg q]
    repeat rw [ju_ne (by omega)]
    exact hC_0 (by omega) j
