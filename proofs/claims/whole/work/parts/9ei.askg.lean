/-! ASKS: answers asked for; the reference's small readers -/
def s_answer (N : Int) (f g h : Int → Int) (i what : Int) : Int := if 0 ≤ i ∧ i < N then (if what = 0 then f i else if what = 1 then g i else if what = 2 then h i else -2000000000) else -2000000000
def ANR (σ : jH) (N : Int) (f g h : Int → Int) : Prop := σ 189 33 = N ∧ (0 ≤ N ∧ N ≤ 300) ∧ ∀ i, 0 ≤ i → i < N → σ 219 (3 * i) = f i ∧ σ 219 (3 * i + 1) = g i ∧ σ 219 (3 * i + 2) = h i
section BE
variable {l : Launch} {d : Nat} {ω t : Int → Int} {σ : jH} {e n p : Int}
theorem c_answer {N : Int} {f g h : Int → Int} (A : ANC σ N f g h) (i what : Int) : Cw 10 m_WordPlaces_answer [vR 1, vI i, vI what] σ (fun z τ => z = s_answer N f g h i what ∧ τ = σ) := by
  obtain ⟨a1, a2, a3⟩ := A
  refine Cw_of o_WordPlaces_answer rfl fun l d hd => jwp_sound t_WordPlaces_answer _ (b_WordPlaces_answer_0 ?_)
  simp only [RW, true_and, and_true, and_self, true_or, or_true, Nat.reduceLeDiff, Nat.reduceEqDiff, Nat.reduceAdd, Int.reduceLE, Int.reduceLT, Int.reduceEq, Int.reduceNeg, Int.reduceNe, Nat.reduceSub, reduceIte, implies_true, gt_1, gr_1_9, gt_157, gr_157_10, gt_176, gr_157_11, gt_177, gr_157_12, gt_178]
  rw [a1]
  unfold s_answer
  refine ⟨fun x => by rw [if_neg (by omega)], fun x => ⟨fun y => by rw [if_neg (by omega)], fun y => ⟨fun _ => ⟨fun z => ?_, fun z => ⟨?_, ?_⟩, fun z => ⟨?_, ?_⟩, fun z => ⟨?_, ?_⟩⟩, fun q => absurd q (by omega)⟩⟩⟩
  · rw [if_pos ⟨x, y⟩, if_neg (by omega), if_neg (by omega), if_neg (by omega)]
  · omega
  · rw [if_pos ⟨x, y⟩, if_pos z]
    exact ⟨by omega, (a3 i x y).1⟩
  · omega
  · rw [if_pos ⟨x, y⟩, if_neg (by omega), if_pos z]
    exact ⟨by omega, (a3 i x y).2.1⟩
  · omega
  · rw [if_pos ⟨x, y⟩, if_neg (by omega), if_neg (by omega), if_pos z]
    exact ⟨by omega, (a3 i x y).2.2⟩
theorem c_Model_answer {N : Int} {f g h : Int → Int} (A : ANR σ N f g h) (i what : Int) : Cw 11 m_Model_answer [vR 189, vI i, vI what] σ (fun z τ => z = s_answer N f g h i what ∧ τ = σ) := by
  obtain ⟨a1, a2, a3⟩ := A
  refine Cw_of o_Model_answer rfl fun l d hd => jwp_sound t_Model_answer _ (b_Model_answer_0 ?_)
  simp only [RW, true_and, and_true, and_self, true_or, or_true, Nat.reduceLeDiff, Nat.reduceEqDiff, Nat.reduceAdd, Int.reduceLE, Int.reduceLT, Int.reduceEq, Int.reduceNeg, Int.reduceNe, Nat.reduceSub, reduceIte, implies_true, gt_189, gr_189_32, gt_219]
  rw [a1, w32_of (x := N - 1) (by omega) (by omega)]
  unfold s_answer
  refine cN_p (c_Model_in _ _ _ _) (by omega) ?_
  by_cases x : 0 ≤ i ∧ i < N
  · rw [if_pos (show 0 ≤ i ∧ i ≤ N - 1 by omega), if_pos x]
    refine ⟨fun y => absurd y (by omega), fun _ => ?_⟩
    refine cN_p (c_Model_in _ _ _ _) (by omega) ?_
    by_cases y : 0 ≤ what ∧ what ≤ 2
    · rw [if_pos y, w32_of (x := 3 * i) (by omega) (by omega), w32_of (x := 3 * i + what) (by omega) (by omega)]
      obtain ⟨q1, q2, q3⟩ := a3 i x.1 x.2
      refine ⟨fun z => absurd z (by omega), fun _ => ⟨by omega, by omega, ?_⟩⟩
      have : what = 0 ∨ what = 1 ∨ what = 2 := by omega
      rcases this with rfl | rfl | rfl
      · rw [if_pos rfl, Int.add_zero]
        exact ⟨q1, rfl⟩
      · rw [if_neg (by omega), if_pos rfl]
        exact ⟨q2, rfl⟩
      · rw [if_neg (by omega), if_neg (by omega), if_pos rfl]
        exact ⟨q3, rfl⟩
    · rw [if_neg y, if_neg (by omega), if_neg (by omega), if_neg (by omega)]
      exact ⟨fun _ => ⟨rfl, rfl⟩, fun z => absurd rfl z⟩
  · rw [if_neg (show ¬ (0 ≤ i ∧ i ≤ N - 1) by omega), if_neg x]
    exact ⟨fun _ => ⟨rfl, rfl⟩, fun z => absurd rfl z⟩
theorem c_isOp_g (g : σ 189 22 = 0) (T : TP2 σ t n) (K : TKR σ t n p) (hp : 0 ≤ p ∧ p ≤ n) : Cw 12 m_Model_isOp [vR 189] σ (fun z τ => z = (if opW t n p = 0 then 0 else 1) ∧ τ = σ) := by
  refine Cw_of o_Model_isOp rfl fun l d hd => jwp_sound t_Model_isOp _ (b_Model_isOp_0 ?_)
  simp only [RW, true_and, and_true, and_self, true_or, or_true, Nat.reduceLeDiff, Nat.reduceEqDiff, Nat.reduceAdd, Int.reduceLE, Int.reduceLT, Int.reduceEq, Int.reduceNeg, Int.reduceNe, Nat.reduceSub, reduceIte, implies_true, gt_189]
  unfold opW
  refine cN_p (c_mis_g (w := 6) (by decide) g T K hp) (by omega) ?_
  cases tI t n p (jtb 6) with
  | true => exact ⟨fun _ => ⟨rfl, rfl⟩, fun x => absurd x (by decide)⟩
  | false =>
    refine ⟨fun x => absurd rfl x, fun _ => ?_⟩
    refine cN_p (c_mis_g (w := 7) (by decide) g T K hp) (by omega) ?_
    cases tI t n p (jtb 7) with
    | true => exact ⟨fun _ => ⟨rfl, rfl⟩, fun x => absurd x (by decide)⟩
    | false =>
      refine ⟨fun x => absurd rfl x, fun _ => ?_⟩
      refine cN_p (c_mis_g (w := 8) (by decide) g T K hp) (by omega) ?_
      cases tI t n p (jtb 8) with
      | true => exact ⟨fun _ => ⟨rfl, rfl⟩, fun x => absurd x (by decide)⟩
      | false =>
        refine ⟨fun x => absurd rfl x, fun _ => ?_⟩
        refine cN_p (c_mis_g (w := 9) (by decide) g T K hp) (by omega) ?_
        cases tI t n p (jtb 9) with
        | true => exact ⟨fun _ => ⟨rfl, rfl⟩, fun x => absurd x (by decide)⟩
        | false =>
          refine ⟨fun x => absurd rfl x, fun _ => ?_⟩
          refine cN_p (c_mis_g (w := 10) (by decide) g T K hp) (by omega) ?_
          cases tI t n p (jtb 10) with
          | true => exact ⟨fun _ => ⟨rfl, rfl⟩, fun x => absurd x (by decide)⟩
          | false =>
            refine ⟨fun x => absurd rfl x, fun _ => ?_⟩
            refine cN_p (c_mis_g (w := 11) (by decide) g T K hp) (by omega) ?_
            cases tI t n p (jtb 11) with
            | true => exact ⟨fun x => absurd x (by decide), fun _ => ⟨rfl, rfl⟩⟩
            | false => exact ⟨fun _ => ⟨rfl, rfl⟩, fun x => absurd rfl x⟩
theorem c_isOp_b (g : σ 189 22 ≠ 0) : Cw 12 m_Model_isOp [vR 189] σ (fun z τ => z = 0 ∧ τ = σ) := by
  refine Cw_of o_Model_isOp rfl fun l d hd => jwp_sound t_Model_isOp _ (b_Model_isOp_0 ?_)
  simp only [RW, true_and, and_true, and_self, true_or, or_true, Nat.reduceLeDiff, Nat.reduceEqDiff, Nat.reduceAdd, Int.reduceLE, Int.reduceLT, Int.reduceEq, Int.reduceNeg, Int.reduceNe, Nat.reduceSub, reduceIte, implies_true, gt_189]
  refine cN_p (c_mis_b (w := 6) (by decide) g) (by omega) ?_
  refine ⟨fun x => absurd rfl x, fun _ => ?_⟩
  refine cN_p (c_mis_b (w := 7) (by decide) g) (by omega) ?_
  refine ⟨fun x => absurd rfl x, fun _ => ?_⟩
  refine cN_p (c_mis_b (w := 8) (by decide) g) (by omega) ?_
  refine ⟨fun x => absurd rfl x, fun _ => ?_⟩
  refine cN_p (c_mis_b (w := 9) (by decide) g) (by omega) ?_
  refine ⟨fun x => absurd rfl x, fun _ => ?_⟩
  refine cN_p (c_mis_b (w := 10) (by decide) g) (by omega) ?_
  refine ⟨fun x => absurd rfl x, fun _ => ?_⟩
  refine cN_p (c_mis_b (w := 11) (by decide) g) (by omega) ?_
  exact ⟨fun _ => rfl, fun x => absurd rfl x⟩
theorem c_opHere_g (g : σ 189 22 = 0) (T : TP2 σ t n) (K : TKR σ t n p) (hp : 0 ≤ p ∧ p ≤ n) (ho : opW t n p ≠ 0) : Cw 12 m_Model_opHere [vR 189] σ (fun z τ => z = opW t n p - 1 ∧ τ = σ) := by
  refine Cw_of o_Model_opHere rfl fun l d hd => jwp_sound t_Model_opHere _ (b_Model_opHere_0 ?_)
  simp only [RW, true_and, and_true, and_self, true_or, or_true, Nat.reduceLeDiff, Nat.reduceEqDiff, Nat.reduceAdd, Int.reduceLE, Int.reduceLT, Int.reduceEq, Int.reduceNeg, Int.reduceNe, Nat.reduceSub, reduceIte, implies_true, gt_189]
  unfold opW at ho ⊢
  refine cN_p (c_mis_g (w := 6) (by decide) g T K hp) (by omega) ?_
  cases h6 : tI t n p (jtb 6) with
  | true => exact ⟨fun x => absurd x (by decide), fun _ => ⟨rfl, rfl⟩⟩
  | false =>
    refine ⟨fun _ => ?_, fun x => absurd rfl x⟩
    refine cN_p (c_mis_g (w := 7) (by decide) g T K hp) (by omega) ?_
    cases h7 : tI t n p (jtb 7) with
    | true => exact ⟨fun x => absurd x (by decide), fun _ => ⟨rfl, rfl⟩⟩
    | false =>
      refine ⟨fun _ => ?_, fun x => absurd rfl x⟩
      refine cN_p (c_mis_g (w := 8) (by decide) g T K hp) (by omega) ?_
      cases h8 : tI t n p (jtb 8) with
      | true => exact ⟨fun x => absurd x (by decide), fun _ => ⟨rfl, rfl⟩⟩
      | false =>
        refine ⟨fun _ => ?_, fun x => absurd rfl x⟩
        refine cN_p (c_mis_g (w := 9) (by decide) g T K hp) (by omega) ?_
        cases h9 : tI t n p (jtb 9) with
        | true => exact ⟨fun x => absurd x (by decide), fun _ => ⟨rfl, rfl⟩⟩
        | false =>
          refine ⟨fun _ => ?_, fun x => absurd rfl x⟩
          refine cN_p (c_mis_g (w := 10) (by decide) g T K hp) (by omega) ?_
          cases h10 : tI t n p (jtb 10) with
          | true => exact ⟨fun x => absurd x (by decide), fun _ => ⟨rfl, rfl⟩⟩
          | false =>
            refine ⟨fun _ => ?_, fun x => absurd rfl x⟩
            rw [h6, h7, h8, h9, h10] at ho
            cases h11 : tI t n p (jtb 11) with
            | true => exact ⟨rfl, rfl⟩
            | false =>
              rw [h11] at ho
              exact absurd rfl ho
end BE
