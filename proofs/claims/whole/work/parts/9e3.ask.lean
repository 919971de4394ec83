/-! ASKS: what they answer, and the class's marks -/
/-- one of the first n is -/
def anB (P : Int → Bool) : Nat → Bool
  | 0 => false
  | m + 1 => anB P m || P m
theorem anB_iff {P : Int → Bool} : ∀ {m : Nat}, anB P m = true ↔ ∃ q : Int, 0 ≤ q ∧ q < m ∧ P q = true
  | 0 => ⟨fun h => (by cases h), fun ⟨q, a, b, _⟩ => absurd b (by omega)⟩
  | m + 1 => by
    simp only [anB, Bool.or_eq_true]
    rw [anB_iff (m := m)]
    constructor
    · rintro (⟨q, a, b, c⟩ | h)
      · exact ⟨q, a, by omega, c⟩
      · exact ⟨m, by omega, by omega, h⟩
    · rintro ⟨q, a, b, c⟩
      by_cases g : q = m
      · rw [g] at c
        exact Or.inr c
      · exact Or.inl ⟨q, a, by omega, c⟩
abbrev AS : Type := Int × Int × Int × Int × (Int → Bool)
def aOK (p u : Int) (S : Int → Bool) : AS := (0, -1, p, u, S)
def aBD (k s : Int) : AS := (k, s, 0, 0, fun _ => false)
def opW (t : Int → Int) (n p : Int) : Int := if tI t n p (jtb 6) = true then 1 else if tI t n p (jtb 7) = true then 2 else if tI t n p (jtb 8) = true then 3 else if tI t n p (jtb 9) = true then 4 else if tI t n p (jtb 10) = true then 5 else if tI t n p (jtb 11) = true then 6 else 0
/-- a word that is no word of the asks' own -/
def fwB (t : Int → Int) (n p : Int) : Bool := decide (tK t n p = 1) && decide (opW t n p = 0) && !tI t n p (jtb 3)
/-- the key told at p, folded -/
def kP (ω t : Int → Int) (n p : Int) : Int := km (fo ω) (wK t n p).1
def wwS (ω : Int → Int) (e K : Int) : Int → Bool := fun q => !stopB ω K && decide (KEY ω e q = K)
def rS (ω : Int → Int) (e K : Int) : Int → Bool := fun q => decide (nameI ω K ≠ -1) && (decide (KEY ω e q = K) || memB ω (KEY ω e q) (nameI ω K))
/-- the words of a row are gone through -/
def aPh (ω t : Int → Int) (e n u : Int) : Nat → Int → Int → (Int → Bool) → AS
  | 0, _, p, _ => aBD 1 (tS t n p)
  | k + 1, i, p, S => if tK t n p = 1 then aPh ω t e n u k (i + 1) (tN t n p) (fun q => S q && decide (q + i < (wW ω e).1 ∧ KEY ω e (q + i) = kP ω t n p)) else if tK t n p = 34 then aOK (tN t n p) u S else aBD 1 (tS t n p)
def joS (W : Int) (ln : Int → Int) (op n : Int) (A B : Int → Bool) : Int → Bool := fun p =>
  if op = 6 then A p || B p else
  if op = 4 then A p && anB (fun q => B q && decide (ln q = ln p)) W.toNat else
  if op = 5 then A p && !anB (fun q => B q && decide (ln q = ln p)) W.toNat else
  if op = 2 then A p && anB (fun q => B q && decide (p < q ∧ q ≤ p + n)) W.toNat else
  if op = 1 then A p && anB (fun q => B q && decide (q ≠ p ∧ p - n ≤ q ∧ q ≤ p + n)) W.toNat else
  A p && !anB (fun q => B q && decide (q ≠ p ∧ p - n ≤ q ∧ q ≤ p + n)) W.toNat
/-- a unit (false) or what follows it (true) -/
def aX (ω t : Int → Int) (e n : Int) : Nat → Bool → Int → Int → Int → (Int → Bool) → AS
  | 0, _, _, p, _, _ => aBD 3 (tS t n p)
  | k + 1, false, dep, p, u, _ =>
    if tK t n p ≠ 40 ∧ tK t n p ≠ 34 ∧ ¬ (tK t n p = 1 ∧ opW t n p = 0) then aBD 1 (tS t n p) else
    if u = 30 ∨ (tK t n p = 40 ∧ dep = 6) then aBD 3 (tS t n p) else
    if tK t n p = 40 then
      (if (aX ω t e n k false (dep + 1) (tN t n p) (u + 1) (fun _ => false)).1 ≠ 0 then aX ω t e n k false (dep + 1) (tN t n p) (u + 1) (fun _ => false) else
       if (aX ω t e n k true (dep + 1) (aX ω t e n k false (dep + 1) (tN t n p) (u + 1) (fun _ => false)).2.2.1 (aX ω t e n k false (dep + 1) (tN t n p) (u + 1) (fun _ => false)).2.2.2.1 (aX ω t e n k false (dep + 1) (tN t n p) (u + 1) (fun _ => false)).2.2.2.2).1 ≠ 0 then aX ω t e n k true (dep + 1) (aX ω t e n k false (dep + 1) (tN t n p) (u + 1) (fun _ => false)).2.2.1 (aX ω t e n k false (dep + 1) (tN t n p) (u + 1) (fun _ => false)).2.2.2.1 (aX ω t e n k false (dep + 1) (tN t n p) (u + 1) (fun _ => false)).2.2.2.2 else
       (fun L : AS => if tK t n L.2.2.1 = 41 then aOK (tN t n L.2.2.1) L.2.2.2.1 L.2.2.2.2 else aBD 1 (tS t n L.2.2.1)) (aX ω t e n k true (dep + 1) (aX ω t e n k false (dep + 1) (tN t n p) (u + 1) (fun _ => false)).2.2.1 (aX ω t e n k false (dep + 1) (tN t n p) (u + 1) (fun _ => false)).2.2.2.1 (aX ω t e n k false (dep + 1) (tN t n p) (u + 1) (fun _ => false)).2.2.2.2))
    else if tK t n p = 34 then (if tK t n (tN t n p) ≠ 1 then aBD 1 (tS t n (tN t n p)) else aPh ω t e n (u + 1) 401 0 (tN t n p) (fun _ => true))
    else if tI t n p (jtb 3) = true then (if fwB t n (tN t n p) = false then aBD 1 (tS t n (tN t n p)) else aOK (tN t n (tN t n p)) (u + 1) (rS ω e (kP ω t n (tN t n p))))
    else aOK (tN t n p) (u + 1) (wwS ω e (kP ω t n p))
  | k + 1, true, dep, p, u, S =>
    if opW t n p = 0 then aOK p u S else
    if opW t n p ≤ 3 then
      (if tK t n (tN t n p) ≠ 2 then aBD 1 (tS t n (tN t n p)) else
       if ¬ (1 ≤ tV t n (tN t n p) ∧ tV t n (tN t n p) ≤ 50) then aBD 2 (tS t n (tN t n p)) else
       if (aX ω t e n k false dep (tN t n (tN t n p)) u (fun _ => false)).1 ≠ 0 then aX ω t e n k false dep (tN t n (tN t n p)) u (fun _ => false) else
       aX ω t e n k true dep (aX ω t e n k false dep (tN t n (tN t n p)) u (fun _ => false)).2.2.1 (aX ω t e n k false dep (tN t n (tN t n p)) u (fun _ => false)).2.2.2.1 (joS (wW ω e).1 (wW ω e).2.2.1 (opW t n p) (tV t n (tN t n p)) S (aX ω t e n k false dep (tN t n (tN t n p)) u (fun _ => false)).2.2.2.2))
    else
      (if (aX ω t e n k false dep (tN t n p) u (fun _ => false)).1 ≠ 0 then aX ω t e n k false dep (tN t n p) u (fun _ => false) else
       aX ω t e n k true dep (aX ω t e n k false dep (tN t n p) u (fun _ => false)).2.2.1 (aX ω t e n k false dep (tN t n p) u (fun _ => false)).2.2.2.1 (joS (wW ω e).1 (wW ω e).2.2.1 (opW t n p) 0 S (aX ω t e n k false dep (tN t n p) u (fun _ => false)).2.2.2.2))
/-- a set in a row of cells -/
def SET (σ : jH) (c W : Int) (S : Int → Bool) : Prop := ∀ q, 0 ≤ q → q < W → σ c q = b2i (S q)
def AWY (σ τ : jH) (t : Int → Int) (n p z : Int) : Prop := (tK t n p = 2 ∧ (1 ≤ tV t n p ∧ tV t n p ≤ 50) ∧ z = 1 ∧ τ = σ ∧ σ 140 5 = tV t n p) ∨ (tK t n p = 2 ∧ ¬ (1 ≤ tV t n p ∧ tV t n p ≤ 50) ∧ z = 0 ∧ τ = ju (ju σ 140 6 2) 140 7 (tS t n p)) ∨ (tK t n p ≠ 2 ∧ z = 0 ∧ τ = ju (ju σ 140 6 1) 140 7 (tS t n p))
section AK
variable {l : Launch} {d : Nat} {ω t : Int → Int} {σ : jH} {e n p : Int}
theorem c_operatorHere (T : TP σ t n) (K : TKC σ t n p) (hp : 0 ≤ p ∧ p ≤ n) : Cw 12 m_Asker_operatorHere [vR 157] σ (fun z τ => z = opW t n p ∧ τ = σ) := by
  refine Cw_of o_Asker_operatorHere rfl fun l d hd => jwp_sound t_Asker_operatorHere _ (b_Asker_operatorHere_0 ?_)
  simp only [RW, true_and, and_true, and_self, true_or, or_true, Nat.reduceLeDiff, Nat.reduceEqDiff, Nat.reduceAdd, Int.reduceLE, Int.reduceLT, Int.reduceEq, Int.reduceNeg, Int.reduceNe, Nat.reduceSub, reduceIte, implies_true, gt_157, gr_157_0, gt_140]
  unfold opW
  refine cN_p (c_is (w := 6) (by decide) T K hp) (by omega) ?_
  cases tI t n p (jtb 6) with
  | true => exact ⟨fun x => absurd x (by decide), fun _ => ⟨rfl, rfl⟩⟩
  | false =>
    refine ⟨fun _ => ?_, fun x => absurd rfl x⟩
    refine cN_p (c_is (w := 7) (by decide) T K hp) (by omega) ?_
    cases tI t n p (jtb 7) with
    | true => exact ⟨fun x => absurd x (by decide), fun _ => ⟨rfl, rfl⟩⟩
    | false =>
      refine ⟨fun _ => ?_, fun x => absurd rfl x⟩
      refine cN_p (c_is (w := 8) (by decide) T K hp) (by omega) ?_
      cases tI t n p (jtb 8) with
      | true => exact ⟨fun x => absurd x (by decide), fun _ => ⟨rfl, rfl⟩⟩
      | false =>
        refine ⟨fun _ => ?_, fun x => absurd rfl x⟩
        refine cN_p (c_is (w := 9) (by decide) T K hp) (by omega) ?_
        cases tI t n p (jtb 9) with
        | true => exact ⟨fun x => absurd x (by decide), fun _ => ⟨rfl, rfl⟩⟩
        | false =>
          refine ⟨fun _ => ?_, fun x => absurd rfl x⟩
          refine cN_p (c_is (w := 10) (by decide) T K hp) (by omega) ?_
          cases tI t n p (jtb 10) with
          | true => exact ⟨fun x => absurd x (by decide), fun _ => ⟨rfl, rfl⟩⟩
          | false =>
            refine ⟨fun _ => ?_, fun x => absurd rfl x⟩
            refine cN_p (c_is (w := 11) (by decide) T K hp) (by omega) ?_
            cases tI t n p (jtb 11) with
            | true => exact ⟨fun x => absurd x (by decide), fun _ => ⟨rfl, rfl⟩⟩
            | false => exact ⟨fun _ => ⟨rfl, rfl⟩, fun x => absurd rfl x⟩
theorem c_isFreeWord (T : TP σ t n) (K : TKC σ t n p) (hp : 0 ≤ p ∧ p ≤ n) : Cw 13 m_Asker_isFreeWord [vR 157] σ (fun z τ => z = b2i (fwB t n p) ∧ τ = σ) := by
  refine Cw_of o_Asker_isFreeWord rfl fun l d hd => jwp_sound t_Asker_isFreeWord _ (b_Asker_isFreeWord_0 ?_)
  simp only [RW, true_and, and_true, and_self, true_or, or_true, Nat.reduceLeDiff, Nat.reduceEqDiff, Nat.reduceAdd, Int.reduceLE, Int.reduceLT, Int.reduceEq, Int.reduceNeg, Int.reduceNe, Nat.reduceSub, reduceIte, implies_true, gt_157, gr_157_0, gt_140]
  rw [K.1.2.2.2]
  unfold fwB
  refine ⟨fun q => ?_, fun q => ?_⟩
  · rw [decide_eq_false q]
    rfl
  · rw [decide_eq_true q]
    refine cN_p (c_operatorHere T K hp) (by omega) ?_
    refine ⟨fun q2 => ?_, fun q2 => ?_⟩
    · rw [decide_eq_false q2]
      exact ⟨rfl, rfl⟩
    · rw [decide_eq_true q2]
      refine cN_p (c_is (w := 3) (by decide) T K hp) (by omega) ?_
      cases tI t n p (jtb 3) with
      | true => exact ⟨fun _ => ⟨rfl, rfl⟩, fun x => absurd x (by decide)⟩
      | false => exact ⟨fun x => absurd rfl x, fun _ => ⟨rfl, rfl⟩⟩
theorem c_isAway (T : TP σ t n) (K : TKC σ t n p) (hp : 0 ≤ p ∧ p ≤ n) : Cw 11 m_Asker_isAway [vR 157] σ (fun z τ => AWY σ τ t n p z) := by
  have N43 : tK t n p = 2 → ¬ (1 ≤ tV t n p ∧ tV t n p ≤ 50) → ∀ {l d}, 11 ≤ d → Ev (l, (fun _ => 0), 0) d 0 0 m_Asker_isAway (RW fun z τ => AWY σ τ t n p z) 43 [some (vR 157)] [] gW σ 0 0 := fun q nv {l d} hd => by
    refine jwp_sound t_Asker_isAway _ (b_Asker_isAway_43 ?_)
    simp only [RW, true_and, and_true, and_self, true_or, or_true, Nat.reduceLeDiff, Nat.reduceEqDiff, Nat.reduceAdd, Int.reduceLE, Int.reduceLT, Int.reduceEq, Int.reduceNeg, Int.reduceNe, Nat.reduceSub, reduceIte, implies_true, gt_157, gr_157_0, gt_140]
    refine cN_p (c_fail 2 K) (by omega) ?_
    exact ⟨fun _ => Or.inr (Or.inl ⟨q, nv, rfl, rfl⟩), fun x => absurd rfl x⟩
  refine Cw_of o_Asker_isAway rfl fun l d hd => jwp_sound t_Asker_isAway _ (b_Asker_isAway_0 ?_)
  simp only [RW, true_and, and_true, and_self, true_or, or_true, Nat.reduceLeDiff, Nat.reduceEqDiff, Nat.reduceAdd, Int.reduceLE, Int.reduceLT, Int.reduceEq, Int.reduceNeg, Int.reduceNe, Nat.reduceSub, reduceIte, implies_true, gt_157, gr_157_0, gt_140]
  rw [K.1.2.2.2]
  refine ⟨fun q => ?_, fun q => ?_⟩
  · rw [K.2 q]
    refine ⟨fun x => N43 q (by omega) hd, fun x => ⟨fun y => ?_, fun y => N43 q (by omega) hd⟩⟩
    exact Or.inl ⟨q, by omega, rfl, rfl, by rw [K.2 q]; omega⟩
  · refine cN_p (c_fail 1 K) (by omega) ?_
    exact ⟨Or.inl rfl, Or.inr (Or.inr ⟨q, rfl, rfl⟩)⟩
end AK
