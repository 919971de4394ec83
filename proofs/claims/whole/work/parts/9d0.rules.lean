/-! RULES as they are read -/
abbrev RS : Type := Int × Int × Int × (Int → Int) × Bool
def rOK (p : Int) (ρ : Int → Int) (ho : Bool) : RS := (0, -1, p, ρ, ho)
def rBD (k s : Int) : RS := (k, s, 0, fun _ => 0, false)
def rFold (t : Int → Int) (n p : Int) (ρ : Int → Int) (ho : Bool) : RS :=
  if tL t n p = -1 then rBD 1 (tS t n p) else if ρ (5 + tL t n p) ≠ -1 then rBD 2 (tS t n p) else
  if tI t n (tN t n p) (jtb 1) = false then rBD 1 (tS t n (tN t n p)) else
  if tL t n (tN t n (tN t n p)) = -1 then rBD 1 (tS t n (tN t n (tN t n p))) else
  rOK (tN t n (tN t n (tN t n p))) (up ρ (5 + tL t n p) (tL t n (tN t n (tN t n p)))) ho
def rStop (t : Int → Int) (n p : Int) (ρ : Int → Int) (ho : Bool) : RS :=
  if tK t n p ≠ 1 then rBD 1 (tS t n p) else rOK (tN t n p) (up (wrd ρ (57 + 21 * ρ 1) t n p) 1 (ρ 1 + 1)) ho
/-- members of root r from the m-th on -/
def rMem (t : Int → Int) (n r : Int) (ho : Bool) : Nat → Int → Int → (Int → Int) → RS
  | 0, _, p, _ => rBD 3 (tS t n p)
  | k + 1, m, p, ρ => if tK t n p ≠ 1 then rBD 1 (tS t n p) else if m = 4 then rBD 3 (tS t n p) else
    if tK t n (tN t n p) = 1 then rMem t n r ho k (m + 1) (tN t n p) (wrd ρ (478 + 106 * r + 21 * (m + 1)) t n p) else
    rOK (tN t n p) (up (up (wrd ρ (478 + 106 * r + 21 * (m + 1)) t n p) (477 + 106 * r) (m + 2)) 2 (r + 1)) ho
def rRoot (t : Int → Int) (n p : Int) (ρ : Int → Int) (ho : Bool) : RS :=
  if tK t n p ≠ 1 then rBD 1 (tS t n p) else
  if tI t n (tN t n p) (jtb 4) = false then rBD 1 (tS t n (tN t n p)) else
  rMem t n (ρ 2) ho 5 0 (tN t n (tN t n p)) (wrd ρ (478 + 106 * ρ 2) t n p)
def rCl (ρ : Int → Int) : Int → Int := fun j => if 31 ≤ j ∧ j < 57 then -1 else ρ j
/-- the letters not told -/
def rOth (c : Int) (ρ : Int → Int) : Nat → Int × (Int → Int)
  | 0 => (c, ρ)
  | x + 1 => if (rOth c ρ x).2 (31 + x) = -1 then ((rOth c ρ x).1 + 1, up (rOth c ρ x).2 (31 + x) (rOth c ρ x).1) else rOth c ρ x
/-- the letters told, from the i-th on; so many to go -/
def rLet (t : Int → Int) (n p : Int) : Nat → Int → (Int → Int) → RS
  | 0, i, ρ => rOK (tN t n p) (rOth i ρ 26).2 true
  | k + 1, i, ρ => if ρ (31 + (t (tS t n p + i) - 97)) ≠ -1 then rBD 2 (tS t n p) else rLet t n p k (i + 1) (up ρ (31 + (t (tS t n p + i) - 97)) i)
def rOrd (t : Int → Int) (n p : Int) (ρ : Int → Int) : RS :=
  if tK t n p ≠ 1 then rBD 1 (tS t n p) else rLet t n p (tN t n p - tS t n p).toNat 0 (rCl ρ)
def rSem (t : Int → Int) (n : Int) (R : RS) : RS :=
  if R.1 ≠ 0 then R else if tK t n R.2.2.1 = 59 then rOK (tN t n R.2.2.1) R.2.2.2.1 R.2.2.2.2 else rBD 1 (tS t n R.2.2.1)
/-- which word begins a rule: 0 fold, 1 stop, 2 root, 3 order, 4 none -/
def rWh (t : Int → Int) (n p : Int) : Int := if tI t n p (jtb 0) = true then 0 else if tI t n p (jtb 2) = true then 1 else if tI t n p (jtb 3) = true then 2 else if tI t n p (jtb 5) = true then 3 else 4
def rInn (t : Int → Int) (n p : Int) (ρ : Int → Int) (ho : Bool) : RS :=
  if rWh t n p = 0 then rFold t n (tN t n p) ρ ho else if rWh t n p = 1 then rStop t n (tN t n p) ρ ho else if rWh t n p = 2 then rRoot t n (tN t n p) ρ ho else rOrd t n (tN t n p) ρ
def rRule (t : Int → Int) (n p : Int) (ρ : Int → Int) (ho : Bool) : RS :=
  if rWh t n p = 4 then rBD 1 (tS t n p) else if rWh t n p = 3 ∧ ho = true then rBD 2 (tS t n p) else if ρ 0 = 20 then rBD 3 (tS t n p) else
  rSem t n (rInn t n p (up ρ 0 (ρ 0 + 1)) ho)
def rAll (t : Int → Int) (n : Int) : Nat → Int → (Int → Int) → Bool → RS
  | 0, p, _, _ => rBD 3 (tS t n p)
  | k + 1, p, ρ, ho => if tK t n p = 0 then rOK p ρ ho else if (rRule t n p ρ ho).1 ≠ 0 then rRule t n p ρ ho else rAll t n k (rRule t n p ρ ho).2.2.1 (rRule t n p ρ ho).2.2.2.1 (rRule t n p ρ ho).2.2.2.2
def plainR (ρ : Int → Int) : Int → Int := fun j => if 5 ≤ j ∧ j < 31 then -1 else if 31 ≤ j ∧ j < 57 then j - 31 else if 0 ≤ j ∧ j < 2597 then (if j = 3 ∨ j = 4 then ρ j else 0) else ρ j
/-- letters are told by words that are words -/
theorem tI_1 {t : Int → Int} {n p : Int} {bs : List Nat} (h : tI t n p bs = true) : tK t n p = 1 := by
  unfold tI at h
  rw [Bool.and_eq_true, Bool.and_eq_true, decide_eq_true_eq] at h
  exact h.1.1
theorem tL_r {t : Int → Int} {n p : Int} (h : tL t n p ≠ -1) : 0 ≤ tL t n p ∧ tL t n p < 26 ∧ tK t n p = 1 := by
  unfold tL at h ⊢
  split at h
  · rename_i g
    rw [if_pos g]
    have := (tK_1 g.1).2
    exact ⟨by omega, by omega, g.1⟩
  · exact absurd rfl h
/-- two begin words are different -/
theorem tI_ne {t : Int → Int} {n p : Int} {as bs : List Nat} (h : tI t n p as = true) (hl : as.length ≠ bs.length) : tI t n p bs = false := by
  unfold tI at h ⊢
  rw [Bool.and_eq_true, Bool.and_eq_true, decide_eq_true_eq, decide_eq_true_eq] at h
  rw [decide_eq_false (show ¬ tN t n p - tS t n p = ((bs.length : Nat) : Int) by omega), Bool.and_false, Bool.false_and]
theorem eqB_t {t : Int → Int} {s : Int} {bs : List Nat} {i : Nat} : ∀ {k : Nat}, i < k → eqB t s bs k = true → t (s + i) = ((bs.getD i 0 : Nat) : Int)
  | 0, hk, _ => absurd hk (by omega)
  | k + 1, hk, h => by
    simp only [eqB, Bool.and_eq_true, decide_eq_true_eq] at h
    by_cases q : i = k
    · rw [q]
      exact h.2
    · exact eqB_t (by omega) h.1
theorem tI_ne0 {t : Int → Int} {n p : Int} {as bs : List Nat} (h : tI t n p as = true) (i : Nat) (hi : i < as.length) (hi2 : i < bs.length) (hd : as.getD i 0 ≠ bs.getD i 0) : tI t n p bs = false := by
  cases e : tI t n p bs with
  | false => rfl
  | true =>
    exfalso
    unfold tI at h e
    rw [Bool.and_eq_true] at h e
    have a := eqB_t hi h.2
    have b := eqB_t hi2 e.2
    omega
