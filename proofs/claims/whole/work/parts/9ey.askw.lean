/-! ASKS: the reference's call -/
def RAK (σ τ : jH) (ω t : Int → Int) (e n z : Int) : Prop := (¬ (0 ≤ e ∧ e ≤ 1) ∧ z = -2 ∧ τ = σ) ∨ ((0 ≤ e ∧ e ≤ 1) ∧ (∀ c', c' ≠ 189 → c' ≠ 201 → (c' < 208 ∨ 219 < c') → τ c' = σ c') ∧ (τ 189 15 = 0 ∧ ∀ j, (j < 15 ∨ (23 < j ∧ j ≠ 29 ∧ j ≠ 30 ∧ j ≠ 33)) → τ 189 j = σ 189 j) ∧ (((aQ ω t e n).1 = 0 ∧ z = aN0 ω e (aQ ω t e n).2.2.2.2 ∧ ANR τ (aN0 ω e (aQ ω t e n).2.2.2.2) (anF (wW ω e).1 (aQ ω t e n).2.2.2.2) (fun i => (wW ω e).2.2.1 (anF (wW ω e).1 (aQ ω t e n).2.2.2.2 i)) (fun i => anO ω e (anF (wW ω e).1 (aQ ω t e n).2.2.2.2 i)) ∧ τ 189 22 = 0 ∧ τ 189 23 = -1) ∨ ((aQ ω t e n).1 ≠ 0 ∧ z = -4 ∧ (τ 189 33 = σ 189 33 ∧ τ 219 = σ 219) ∧ τ 189 22 = (aQ ω t e n).1 ∧ τ 189 23 = (aQ ω t e n).2.1)))
section BT
variable {l : Launch} {d : Nat} {ω t : Int → Int} {σ : jH} {e n p c : Int}
/-- what aA says where nothing of the ask's own follows is what aB says -/
theorem aQ_B : aQ ω t e n = if (aB ω t e n 31 0 0 0).1 ≠ 0 then aB ω t e n 31 0 0 0 else if tK t n (aB ω t e n 31 0 0 0).2.2.1 = 0 then aB ω t e n 31 0 0 0 else aBD 1 (tS t n (aB ω t e n 31 0 0 0).2.2.1) := by
  unfold aQ aA aB
  generalize aX ω t e n 31 false 0 0 0 (fun _ => false) = R
  by_cases a : R.1 ≠ 0
  · rw [if_pos a, if_pos a, if_pos a]
  · rw [if_neg a, if_neg a]
    generalize aX ω t e n 31 true 0 R.2.2.1 R.2.2.2.1 R.2.2.2.2 = M
    by_cases b : M.1 ≠ 0
    · rw [show aF t n M = M from by unfold aF; rw [if_pos b]]
    · by_cases f : tK t n M.2.2.1 = 0 ∨ tK t n M.2.2.1 = 41
      · rw [show aF t n M = M from by unfold aF; rw [if_neg b, if_pos f]]
      · rw [show aF t n M = aBD 1 (tS t n M.2.2.1) from by unfold aF; rw [if_neg b, if_neg f], if_pos (show (aBD 1 (tS t n M.2.2.1)).1 ≠ 0 from by show (1 : Int) ≠ 0; omega), if_neg b, if_neg (fun x => f (Or.inl x))]
theorem l_mk_66 {S : Int → Bool} (hd : 61 ≤ d) (R : RFR σ ω) (he : 0 ≤ e ∧ e ≤ 1) (V : SET σ 208 (wW ω e).1 S) : ∀ (k i : Nat) (τ : jH), (i : Int) + k = (wW ω e).1 → (∀ c', c' ≠ 189 → c' ≠ 219 → τ c' = σ c') → (∀ j, j ≠ 33 → τ 189 j = σ 189 j) → τ 189 33 = cq (sI S) i 1 → (∀ q : Int, 0 ≤ q → q < i → S q = true → τ 219 (3 * cq (sI S) q.toNat 1) = q ∧ τ 219 (3 * cq (sI S) q.toNat 1 + 1) = (wW ω e).2.2.1 q ∧ τ 219 (3 * cq (sI S) q.toNat 1 + 2) = anO ω e q) →
    Ev (l, (fun _ => 0), 0) d 0 0 m_Model_ask (RW fun z τ => (∀ c', c' ≠ 189 → c' ≠ 219 → τ c' = σ c') ∧ (∀ j, j ≠ 33 → τ 189 j = σ 189 j) ∧ z = aN0 ω e S ∧ ANR τ (aN0 ω e S) (anF (wW ω e).1 S) (fun i => (wW ω e).2.2.1 (anF (wW ω e).1 S i)) (fun i => anO ω e (anF (wW ω e).1 S i))) 66 [some (vR 189), some (vI e), some (vI i)] [] gW τ 0 0
  | 0, i, τ, hi, F, F2, C, Q => by
    have w := R.W he
    have ei : (wW ω e).1.toNat = i := by omega
    refine jwp_sound t_Model_ask _ (b_Model_ask_66 ?_)
    simp only [RW, true_and, and_true, and_self, true_or, or_true, Nat.reduceLeDiff, Nat.reduceEqDiff, Nat.reduceAdd, Int.reduceLE, Int.reduceLT, Int.reduceEq, Int.reduceNeg, Int.reduceNe, Nat.reduceSub, reduceIte, implies_true, gt_189, gr_189_28, gt_207, gr_189_32, gt_219, gr_189_4, gt_193, gr_189_6, gt_195, gr_207_0, gt_208]
    rw [F 193 (by omega) (by omega), w.1]
    refine ⟨by omega, by omega, fun _ => ⟨F, F2, ?_, ?_⟩, fun x => absurd x (by omega)⟩
    · unfold aN0
      rw [ei]
      exact C
    · have r := cq_r (sI S) 1 (wW ω e).1.toNat
      unfold aN0
      refine ⟨by rw [ei]; exact C, ⟨r.1, by omega⟩, fun j a b => ?_⟩
      have y := fnd_yes (w := sI S) (f := 1) (n := (wW ω e).1.toNat) a b
      rcases fnd_r (w := sI S) (f := 1) (i := j) (wW ω e).1.toNat with r0 | ⟨r1, r2, r3, r4⟩
      · omega
      · have q := Q _ r1 (by omega) (sI_1.mp r3)
        rw [r4] at q
        exact q
  | k + 1, i, τ, hi, F, F2, C, Q => by
    have w := R.W he
    have r := cq_r (sI S) 1 i
    have cs : cq (sI S) (i + 1) 1 = cq (sI S) i 1 + (if S i = true then 1 else 0) := by
      have := cq_s (w := sI S) (p := (i : Int)) (by omega) 1
      rw [show ((i : Int) + 1).toNat = i + 1 by omega, show ((i : Int)).toNat = i by omega] at this
      rw [this]
      by_cases g : S i = true
      · rw [if_pos g, if_pos (sI_1.mpr g)]
      · rw [if_neg g, if_neg (fun x => g (sI_1.mp x))]
    have s0 := set_0 V (q := i) (by omega) (by omega)
    have i340 : (i : Int) < 340 := by omega
    have IH := l_mk_66 hd R he V k (i + 1)
    rw [show ((i + 1 : Nat) : Int) = (i : Int) + 1 by omega, cs] at IH
    refine jwp_sound t_Model_ask _ (b_Model_ask_66 ?_)
    simp only [RW, true_and, and_true, and_self, true_or, or_true, Nat.reduceLeDiff, Nat.reduceEqDiff, Nat.reduceAdd, Int.reduceLE, Int.reduceLT, Int.reduceEq, Int.reduceNeg, Int.reduceNe, Nat.reduceSub, reduceIte, implies_true, gt_189, gr_189_28, gt_207, gr_189_32, gt_219, gr_189_4, gt_193, gr_189_6, gt_195, gr_207_0, gt_208]
    rw [F 193 (by omega) (by omega), w.1, F 208 (by omega) (by omega), w32_of (x := (i : Int) + 1) (by omega) (by omega)]
    refine ⟨by omega, by omega, fun x => absurd x (by omega), fun _ => ⟨by omega, by omega, fun y => ?_, fun y => ?_⟩⟩
    · have yb : S i = true := by
        cases g : S i with
        | true => rfl
        | false => exact absurd (s0.mpr g) y
      sorry
    · have nb : ¬ S i = true := by
        rw [s0.mp y]
        decide
      refine IH τ (by omega) F F2 (by rw [if_neg nb, C]; omega) (fun q a b g => ?_)
      by_cases z : q = i
      · rw [z] at g
        exact absurd g nb
      · exact Q q a (by omega) g
end BT
